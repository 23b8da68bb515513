set_option maxRecDepth 20000 in
theorem dA_X7_bestNight_60 : (([(60, .istore 9, 2), (62, .iload 9, 2), (64, .iload 4, 2), (66, .iload 9, 2), (68, .isub, 1), (69, .invokestatic 33, 3), (72, .istore 10, 2), (74, .iload 10, 2), (76, .iload 6, 2), (78, .if_icmp .ge 17, 3), (81, .iload 10, 2), (83, .istore 6, 2), (85, .bipush 10, 2), (87, .iload 7, 2), (89, .imul, 1), (90, .iload 8, 2), (92, .iadd, 1), (93, .istore 5, 2), (95, .iinc 8 1, 3), (98, .goto (-56), 3), (101, .iinc 7 1, 3), (104, .goto (-72), 3), (107, .iload 5, 2), (109, .ireturn, 1)] : List (Nat × Instr × Nat)).all fun q => decide (decode cX7_bestNight q.1 = .ok (q.2.1, q.2.2))) = true := by decide +kernel
theorem dX7_bestNight_60 : decode cX7_bestNight 60 = .ok (.istore 9, 2) := of_decide_eq_true (List.all_eq_true.mp dA_X7_bestNight_60 (60, .istore 9, 2) (List.mem_of_getElem? (i := 0) rfl))
theorem dX7_bestNight_62 : decode cX7_bestNight 62 = .ok (.iload 9, 2) := of_decide_eq_true (List.all_eq_true.mp dA_X7_bestNight_60 (62, .iload 9, 2) (List.mem_of_getElem? (i := 1) rfl))
theorem dX7_bestNight_64 : decode cX7_bestNight 64 = .ok (.iload 4, 2) := of_decide_eq_true (List.all_eq_true.mp dA_X7_bestNight_60 (64, .iload 4, 2) (List.mem_of_getElem? (i := 2) rfl))
theorem dX7_bestNight_66 : decode cX7_bestNight 66 = .ok (.iload 9, 2) := of_decide_eq_true (List.all_eq_true.mp dA_X7_bestNight_60 (66, .iload 9, 2) (List.mem_of_getElem? (i := 3) rfl))
theorem dX7_bestNight_68 : decode cX7_bestNight 68 = .ok (.isub, 1) := of_decide_eq_true (List.all_eq_true.mp dA_X7_bestNight_60 (68, .isub, 1) (List.mem_of_getElem? (i := 4) rfl))
theorem dX7_bestNight_69 : decode cX7_bestNight 69 = .ok (.invokestatic 33, 3) := of_decide_eq_true (List.all_eq_true.mp dA_X7_bestNight_60 (69, .invokestatic 33, 3) (List.mem_of_getElem? (i := 5) rfl))
theorem dX7_bestNight_72 : decode cX7_bestNight 72 = .ok (.istore 10, 2) := of_decide_eq_true (List.all_eq_true.mp dA_X7_bestNight_60 (72, .istore 10, 2) (List.mem_of_getElem? (i := 6) rfl))
theorem dX7_bestNight_74 : decode cX7_bestNight 74 = .ok (.iload 10, 2) := of_decide_eq_true (List.all_eq_true.mp dA_X7_bestNight_60 (74, .iload 10, 2) (List.mem_of_getElem? (i := 7) rfl))
theorem dX7_bestNight_76 : decode cX7_bestNight 76 = .ok (.iload 6, 2) := of_decide_eq_true (List.all_eq_true.mp dA_X7_bestNight_60 (76, .iload 6, 2) (List.mem_of_getElem? (i := 8) rfl))
theorem dX7_bestNight_78 : decode cX7_bestNight 78 = .ok (.if_icmp .ge 17, 3) := of_decide_eq_true (List.all_eq_true.mp dA_X7_bestNight_60 (78, .if_icmp .ge 17, 3) (List.mem_of_getElem? (i := 9) rfl))
theorem dX7_bestNight_81 : decode cX7_bestNight 81 = .ok (.iload 10, 2) := of_decide_eq_true (List.all_eq_true.mp dA_X7_bestNight_60 (81, .iload 10, 2) (List.mem_of_getElem? (i := 10) rfl))
theorem dX7_bestNight_83 : decode cX7_bestNight 83 = .ok (.istore 6, 2) := of_decide_eq_true (List.all_eq_true.mp dA_X7_bestNight_60 (83, .istore 6, 2) (List.mem_of_getElem? (i := 11) rfl))
theorem dX7_bestNight_85 : decode cX7_bestNight 85 = .ok (.bipush 10, 2) := of_decide_eq_true (List.all_eq_true.mp dA_X7_bestNight_60 (85, .bipush 10, 2) (List.mem_of_getElem? (i := 12) rfl))
theorem dX7_bestNight_87 : decode cX7_bestNight 87 = .ok (.iload 7, 2) := of_decide_eq_true (List.all_eq_true.mp dA_X7_bestNight_60 (87, .iload 7, 2) (List.mem_of_getElem? (i := 13) rfl))
theorem dX7_bestNight_89 : decode cX7_bestNight 89 = .ok (.imul, 1) := of_decide_eq_true (List.all_eq_true.mp dA_X7_bestNight_60 (89, .imul, 1) (List.mem_of_getElem? (i := 14) rfl))
theorem dX7_bestNight_90 : decode cX7_bestNight 90 = .ok (.iload 8, 2) := of_decide_eq_true (List.all_eq_true.mp dA_X7_bestNight_60 (90, .iload 8, 2) (List.mem_of_getElem? (i := 15) rfl))
theorem dX7_bestNight_92 : decode cX7_bestNight 92 = .ok (.iadd, 1) := of_decide_eq_true (List.all_eq_true.mp dA_X7_bestNight_60 (92, .iadd, 1) (List.mem_of_getElem? (i := 16) rfl))
theorem dX7_bestNight_93 : decode cX7_bestNight 93 = .ok (.istore 5, 2) := of_decide_eq_true (List.all_eq_true.mp dA_X7_bestNight_60 (93, .istore 5, 2) (List.mem_of_getElem? (i := 17) rfl))
theorem dX7_bestNight_95 : decode cX7_bestNight 95 = .ok (.iinc 8 1, 3) := of_decide_eq_true (List.all_eq_true.mp dA_X7_bestNight_60 (95, .iinc 8 1, 3) (List.mem_of_getElem? (i := 18) rfl))
theorem dX7_bestNight_98 : decode cX7_bestNight 98 = .ok (.goto (-56), 3) := of_decide_eq_true (List.all_eq_true.mp dA_X7_bestNight_60 (98, .goto (-56), 3) (List.mem_of_getElem? (i := 19) rfl))
theorem dX7_bestNight_101 : decode cX7_bestNight 101 = .ok (.iinc 7 1, 3) := of_decide_eq_true (List.all_eq_true.mp dA_X7_bestNight_60 (101, .iinc 7 1, 3) (List.mem_of_getElem? (i := 20) rfl))
theorem dX7_bestNight_104 : decode cX7_bestNight 104 = .ok (.goto (-72), 3) := of_decide_eq_true (List.all_eq_true.mp dA_X7_bestNight_60 (104, .goto (-72), 3) (List.mem_of_getElem? (i := 21) rfl))
theorem dX7_bestNight_107 : decode cX7_bestNight 107 = .ok (.iload 5, 2) := of_decide_eq_true (List.all_eq_true.mp dA_X7_bestNight_60 (107, .iload 5, 2) (List.mem_of_getElem? (i := 22) rfl))
theorem dX7_bestNight_109 : decode cX7_bestNight 109 = .ok (.ireturn, 1) := of_decide_eq_true (List.all_eq_true.mp dA_X7_bestNight_60 (109, .ireturn, 1) (List.mem_of_getElem? (i := 23) rfl))
set_option maxRecDepth 20000 in
theorem ggX7_guestKinds_X7_fitsRemarks : GoodIn wsX7_guestKinds wsX7_fitsRemarks := goodIn_r _ [5, 6, 7, 8, 9, 10, 11, 12, 13, 14, 15, 16, 17, 29, 30, 31, 32] (by decide +kernel) (by decide +kernel)
set_option maxRecDepth 20000 in
theorem gX7_guestKinds_X7_fitsRemarks : GoodIn wsX7_guestKinds (wsV RX7 45 RX7 yX7_fitsRemarks wsX7_fitsRemarks) := goodIn_app (goodIn_of _ (by decide +kernel)) ggX7_guestKinds_X7_fitsRemarks
set_option maxRecDepth 20000 in
theorem dA_X7_guestKinds_0 : (([(0, .iconst 0, 1), (1, .istore_n 3, 1), (2, .iconst 0, 1), (3, .istore 4, 2), (5, .iload 4, 2), (7, .bipush 6, 2), (9, .if_icmp .ge 30, 3), (12, .aload_n 0, 1), (13, .aload_n 1, 1), (14, .getfield 39, 3), (17, .iload_n 2, 1), (18, .iload 4, 2), (20, .invokevirtual 45, 3), (23, .ifCond .eq 10, 3), (26, .iload_n 3, 1), (27, .iconst 1, 1), (28, .iload 4, 2), (30, .ishl, 1), (31, .ior, 1), (32, .istore_n 3, 1), (33, .iinc 4 1, 3), (36, .goto (-31), 3), (39, .iload_n 3, 1), (40, .ireturn, 1)] : List (Nat × Instr × Nat)).all fun q => decide (decode cX7_guestKinds q.1 = .ok (q.2.1, q.2.2))) = true := by decide +kernel
theorem dX7_guestKinds_0 : decode cX7_guestKinds 0 = .ok (.iconst 0, 1) := of_decide_eq_true (List.all_eq_true.mp dA_X7_guestKinds_0 (0, .iconst 0, 1) (List.mem_of_getElem? (i := 0) rfl))
theorem dX7_guestKinds_1 : decode cX7_guestKinds 1 = .ok (.istore_n 3, 1) := of_decide_eq_true (List.all_eq_true.mp dA_X7_guestKinds_0 (1, .istore_n 3, 1) (List.mem_of_getElem? (i := 1) rfl))
theorem dX7_guestKinds_2 : decode cX7_guestKinds 2 = .ok (.iconst 0, 1) := of_decide_eq_true (List.all_eq_true.mp dA_X7_guestKinds_0 (2, .iconst 0, 1) (List.mem_of_getElem? (i := 2) rfl))
theorem dX7_guestKinds_3 : decode cX7_guestKinds 3 = .ok (.istore 4, 2) := of_decide_eq_true (List.all_eq_true.mp dA_X7_guestKinds_0 (3, .istore 4, 2) (List.mem_of_getElem? (i := 3) rfl))
theorem dX7_guestKinds_5 : decode cX7_guestKinds 5 = .ok (.iload 4, 2) := of_decide_eq_true (List.all_eq_true.mp dA_X7_guestKinds_0 (5, .iload 4, 2) (List.mem_of_getElem? (i := 4) rfl))
theorem dX7_guestKinds_7 : decode cX7_guestKinds 7 = .ok (.bipush 6, 2) := of_decide_eq_true (List.all_eq_true.mp dA_X7_guestKinds_0 (7, .bipush 6, 2) (List.mem_of_getElem? (i := 5) rfl))
theorem dX7_guestKinds_9 : decode cX7_guestKinds 9 = .ok (.if_icmp .ge 30, 3) := of_decide_eq_true (List.all_eq_true.mp dA_X7_guestKinds_0 (9, .if_icmp .ge 30, 3) (List.mem_of_getElem? (i := 6) rfl))
theorem dX7_guestKinds_12 : decode cX7_guestKinds 12 = .ok (.aload_n 0, 1) := of_decide_eq_true (List.all_eq_true.mp dA_X7_guestKinds_0 (12, .aload_n 0, 1) (List.mem_of_getElem? (i := 7) rfl))
theorem dX7_guestKinds_13 : decode cX7_guestKinds 13 = .ok (.aload_n 1, 1) := of_decide_eq_true (List.all_eq_true.mp dA_X7_guestKinds_0 (13, .aload_n 1, 1) (List.mem_of_getElem? (i := 8) rfl))
theorem dX7_guestKinds_14 : decode cX7_guestKinds 14 = .ok (.getfield 39, 3) := of_decide_eq_true (List.all_eq_true.mp dA_X7_guestKinds_0 (14, .getfield 39, 3) (List.mem_of_getElem? (i := 9) rfl))
theorem dX7_guestKinds_17 : decode cX7_guestKinds 17 = .ok (.iload_n 2, 1) := of_decide_eq_true (List.all_eq_true.mp dA_X7_guestKinds_0 (17, .iload_n 2, 1) (List.mem_of_getElem? (i := 10) rfl))
theorem dX7_guestKinds_18 : decode cX7_guestKinds 18 = .ok (.iload 4, 2) := of_decide_eq_true (List.all_eq_true.mp dA_X7_guestKinds_0 (18, .iload 4, 2) (List.mem_of_getElem? (i := 11) rfl))
theorem dX7_guestKinds_20 : decode cX7_guestKinds 20 = .ok (.invokevirtual 45, 3) := of_decide_eq_true (List.all_eq_true.mp dA_X7_guestKinds_0 (20, .invokevirtual 45, 3) (List.mem_of_getElem? (i := 12) rfl))
theorem dX7_guestKinds_23 : decode cX7_guestKinds 23 = .ok (.ifCond .eq 10, 3) := of_decide_eq_true (List.all_eq_true.mp dA_X7_guestKinds_0 (23, .ifCond .eq 10, 3) (List.mem_of_getElem? (i := 13) rfl))
theorem dX7_guestKinds_26 : decode cX7_guestKinds 26 = .ok (.iload_n 3, 1) := of_decide_eq_true (List.all_eq_true.mp dA_X7_guestKinds_0 (26, .iload_n 3, 1) (List.mem_of_getElem? (i := 14) rfl))
theorem dX7_guestKinds_27 : decode cX7_guestKinds 27 = .ok (.iconst 1, 1) := of_decide_eq_true (List.all_eq_true.mp dA_X7_guestKinds_0 (27, .iconst 1, 1) (List.mem_of_getElem? (i := 15) rfl))
theorem dX7_guestKinds_28 : decode cX7_guestKinds 28 = .ok (.iload 4, 2) := of_decide_eq_true (List.all_eq_true.mp dA_X7_guestKinds_0 (28, .iload 4, 2) (List.mem_of_getElem? (i := 16) rfl))
theorem dX7_guestKinds_30 : decode cX7_guestKinds 30 = .ok (.ishl, 1) := of_decide_eq_true (List.all_eq_true.mp dA_X7_guestKinds_0 (30, .ishl, 1) (List.mem_of_getElem? (i := 17) rfl))
theorem dX7_guestKinds_31 : decode cX7_guestKinds 31 = .ok (.ior, 1) := of_decide_eq_true (List.all_eq_true.mp dA_X7_guestKinds_0 (31, .ior, 1) (List.mem_of_getElem? (i := 18) rfl))
theorem dX7_guestKinds_32 : decode cX7_guestKinds 32 = .ok (.istore_n 3, 1) := of_decide_eq_true (List.all_eq_true.mp dA_X7_guestKinds_0 (32, .istore_n 3, 1) (List.mem_of_getElem? (i := 19) rfl))
theorem dX7_guestKinds_33 : decode cX7_guestKinds 33 = .ok (.iinc 4 1, 3) := of_decide_eq_true (List.all_eq_true.mp dA_X7_guestKinds_0 (33, .iinc 4 1, 3) (List.mem_of_getElem? (i := 20) rfl))
theorem dX7_guestKinds_36 : decode cX7_guestKinds 36 = .ok (.goto (-31), 3) := of_decide_eq_true (List.all_eq_true.mp dA_X7_guestKinds_0 (36, .goto (-31), 3) (List.mem_of_getElem? (i := 21) rfl))
theorem dX7_guestKinds_39 : decode cX7_guestKinds 39 = .ok (.iload_n 3, 1) := of_decide_eq_true (List.all_eq_true.mp dA_X7_guestKinds_0 (39, .iload_n 3, 1) (List.mem_of_getElem? (i := 22) rfl))
theorem dX7_guestKinds_40 : decode cX7_guestKinds 40 = .ok (.ireturn, 1) := of_decide_eq_true (List.all_eq_true.mp dA_X7_guestKinds_0 (40, .ireturn, 1) (List.mem_of_getElem? (i := 23) rfl))
set_option maxRecDepth 20000 in
theorem ggX7_bestLook_X7_guestKinds : GoodIn wsX7_bestLook wsX7_guestKinds := goodIn_r _ [6, 7, 8, 9, 5, 10, 11, 12, 13, 14, 15, 16, 17, 18, 19, 20, 21, 22, 31, 32, 33, 34, 35, 36, 37, 38, 39, 40, 41, 43, 44, 45, 46] (by decide +kernel) (by decide +kernel)
set_option maxRecDepth 20000 in
theorem gX7_bestLook_X7_guestKinds : GoodIn wsX7_bestLook (wsV RX7 49 RX7 yX7_guestKinds wsX7_guestKinds) := goodIn_app (goodIn_of _ (by decide +kernel)) ggX7_bestLook_X7_guestKinds
set_option maxRecDepth 20000 in
theorem ggX7_bestLook_X5_cell : GoodIn wsX7_bestLook wsX5_cell := goodIn_r _ [15, 16, 17, 18, 43, 44, 45, 46] (by decide +kernel) (by decide +kernel)
set_option maxRecDepth 20000 in
theorem gX7_bestLook_X5_cell : GoodIn wsX7_bestLook (wsV RX7 55 RX5 yX5_cell wsX5_cell) := goodIn_app (goodIn_of _ (by decide +kernel)) ggX7_bestLook_X5_cell
set_option maxRecDepth 20000 in
theorem ggX7_bestLook_X2_likely : GoodIn wsX7_bestLook wsX2_likely := goodIn_r _ [22] (by decide +kernel) (by decide +kernel)
set_option maxRecDepth 20000 in
theorem gX7_bestLook_X2_likely : GoodIn wsX7_bestLook (va_wsS RX7 60 yX2_likely wsX2_likely) := goodIn_app (goodIn_of _ (by decide +kernel)) ggX7_bestLook_X2_likely
set_option maxRecDepth 20000 in
theorem ggX7_bestLook_X7_mostAlike : GoodIn wsX7_bestLook wsX7_mostAlike := goodIn_r _ [26, 1, 27, 28, 29, 30, 42] (by decide +kernel) (by decide +kernel)
set_option maxRecDepth 20000 in
theorem gX7_bestLook_X7_mostAlike : GoodIn wsX7_bestLook (wsV RX7 66 RX7 yX7_mostAlike wsX7_mostAlike) := goodIn_app (goodIn_of _ (by decide +kernel)) ggX7_bestLook_X7_mostAlike
set_option maxRecDepth 20000 in
theorem dA_X7_bestLook_0 : (([(0, .aload_n 0, 1), (1, .aload_n 1, 1), (2, .iload_n 2, 1), (3, .invokevirtual 49, 3), (6, .istore_n 3, 1), (7, .iconst (-1), 1), (8, .istore 4, 2), (10, .bipush 7, 2), (12, .istore 5, 2), (14, .iload_n 3, 1), (15, .ifCond .ne 5, 3), (18, .iconst (-1), 1), (19, .ireturn, 1), (20, .iconst 0, 1), (21, .istore 6, 2), (23, .iload 6, 2), (25, .bipush 9, 2), (27, .if_icmp .gt 98, 3), (30, .iconst 0, 1), (31, .istore 7, 2), (33, .iload 7, 2), (35, .bipush 7, 2), (37, .if_icmp .ge 82, 3), (40, .aload_n 1, 1), (41, .getfield 52, 3), (44, .iload_n 2, 1), (45, .iconst 1, 1), (46, .invokevirtual 55, 3), (49, .istore 8, 2), (51, .iconst 0, 1), (52, .istore 9, 2), (54, .iload 9, 2), (56, .bipush 6, 2), (58, .if_icmp .ge 27, 3), (61, .aload_n 0, 1), (62, .getfield 9, 3), (65, .iload 9, 2), (67, .iload 9, 2), (69, .iload 8, 2), (71, .iload 6, 2)] : List (Nat × Instr × Nat)).all fun q => decide (decode cX7_bestLook q.1 = .ok (q.2.1, q.2.2))) = true := by decide +kernel
theorem dX7_bestLook_0 : decode cX7_bestLook 0 = .ok (.aload_n 0, 1) := of_decide_eq_true (List.all_eq_true.mp dA_X7_bestLook_0 (0, .aload_n 0, 1) (List.mem_of_getElem? (i := 0) rfl))
theorem dX7_bestLook_1 : decode cX7_bestLook 1 = .ok (.aload_n 1, 1) := of_decide_eq_true (List.all_eq_true.mp dA_X7_bestLook_0 (1, .aload_n 1, 1) (List.mem_of_getElem? (i := 1) rfl))
theorem dX7_bestLook_2 : decode cX7_bestLook 2 = .ok (.iload_n 2, 1) := of_decide_eq_true (List.all_eq_true.mp dA_X7_bestLook_0 (2, .iload_n 2, 1) (List.mem_of_getElem? (i := 2) rfl))
theorem dX7_bestLook_3 : decode cX7_bestLook 3 = .ok (.invokevirtual 49, 3) := of_decide_eq_true (List.all_eq_true.mp dA_X7_bestLook_0 (3, .invokevirtual 49, 3) (List.mem_of_getElem? (i := 3) rfl))
theorem dX7_bestLook_6 : decode cX7_bestLook 6 = .ok (.istore_n 3, 1) := of_decide_eq_true (List.all_eq_true.mp dA_X7_bestLook_0 (6, .istore_n 3, 1) (List.mem_of_getElem? (i := 4) rfl))
theorem dX7_bestLook_7 : decode cX7_bestLook 7 = .ok (.iconst (-1), 1) := of_decide_eq_true (List.all_eq_true.mp dA_X7_bestLook_0 (7, .iconst (-1), 1) (List.mem_of_getElem? (i := 5) rfl))
theorem dX7_bestLook_8 : decode cX7_bestLook 8 = .ok (.istore 4, 2) := of_decide_eq_true (List.all_eq_true.mp dA_X7_bestLook_0 (8, .istore 4, 2) (List.mem_of_getElem? (i := 6) rfl))
theorem dX7_bestLook_10 : decode cX7_bestLook 10 = .ok (.bipush 7, 2) := of_decide_eq_true (List.all_eq_true.mp dA_X7_bestLook_0 (10, .bipush 7, 2) (List.mem_of_getElem? (i := 7) rfl))
theorem dX7_bestLook_12 : decode cX7_bestLook 12 = .ok (.istore 5, 2) := of_decide_eq_true (List.all_eq_true.mp dA_X7_bestLook_0 (12, .istore 5, 2) (List.mem_of_getElem? (i := 8) rfl))
theorem dX7_bestLook_14 : decode cX7_bestLook 14 = .ok (.iload_n 3, 1) := of_decide_eq_true (List.all_eq_true.mp dA_X7_bestLook_0 (14, .iload_n 3, 1) (List.mem_of_getElem? (i := 9) rfl))
theorem dX7_bestLook_15 : decode cX7_bestLook 15 = .ok (.ifCond .ne 5, 3) := of_decide_eq_true (List.all_eq_true.mp dA_X7_bestLook_0 (15, .ifCond .ne 5, 3) (List.mem_of_getElem? (i := 10) rfl))
theorem dX7_bestLook_18 : decode cX7_bestLook 18 = .ok (.iconst (-1), 1) := of_decide_eq_true (List.all_eq_true.mp dA_X7_bestLook_0 (18, .iconst (-1), 1) (List.mem_of_getElem? (i := 11) rfl))
theorem dX7_bestLook_19 : decode cX7_bestLook 19 = .ok (.ireturn, 1) := of_decide_eq_true (List.all_eq_true.mp dA_X7_bestLook_0 (19, .ireturn, 1) (List.mem_of_getElem? (i := 12) rfl))
theorem dX7_bestLook_20 : decode cX7_bestLook 20 = .ok (.iconst 0, 1) := of_decide_eq_true (List.all_eq_true.mp dA_X7_bestLook_0 (20, .iconst 0, 1) (List.mem_of_getElem? (i := 13) rfl))
theorem dX7_bestLook_21 : decode cX7_bestLook 21 = .ok (.istore 6, 2) := of_decide_eq_true (List.all_eq_true.mp dA_X7_bestLook_0 (21, .istore 6, 2) (List.mem_of_getElem? (i := 14) rfl))
theorem dX7_bestLook_23 : decode cX7_bestLook 23 = .ok (.iload 6, 2) := of_decide_eq_true (List.all_eq_true.mp dA_X7_bestLook_0 (23, .iload 6, 2) (List.mem_of_getElem? (i := 15) rfl))
theorem dX7_bestLook_25 : decode cX7_bestLook 25 = .ok (.bipush 9, 2) := of_decide_eq_true (List.all_eq_true.mp dA_X7_bestLook_0 (25, .bipush 9, 2) (List.mem_of_getElem? (i := 16) rfl))
theorem dX7_bestLook_27 : decode cX7_bestLook 27 = .ok (.if_icmp .gt 98, 3) := of_decide_eq_true (List.all_eq_true.mp dA_X7_bestLook_0 (27, .if_icmp .gt 98, 3) (List.mem_of_getElem? (i := 17) rfl))
theorem dX7_bestLook_30 : decode cX7_bestLook 30 = .ok (.iconst 0, 1) := of_decide_eq_true (List.all_eq_true.mp dA_X7_bestLook_0 (30, .iconst 0, 1) (List.mem_of_getElem? (i := 18) rfl))
theorem dX7_bestLook_31 : decode cX7_bestLook 31 = .ok (.istore 7, 2) := of_decide_eq_true (List.all_eq_true.mp dA_X7_bestLook_0 (31, .istore 7, 2) (List.mem_of_getElem? (i := 19) rfl))
theorem dX7_bestLook_33 : decode cX7_bestLook 33 = .ok (.iload 7, 2) := of_decide_eq_true (List.all_eq_true.mp dA_X7_bestLook_0 (33, .iload 7, 2) (List.mem_of_getElem? (i := 20) rfl))
theorem dX7_bestLook_35 : decode cX7_bestLook 35 = .ok (.bipush 7, 2) := of_decide_eq_true (List.all_eq_true.mp dA_X7_bestLook_0 (35, .bipush 7, 2) (List.mem_of_getElem? (i := 21) rfl))
theorem dX7_bestLook_37 : decode cX7_bestLook 37 = .ok (.if_icmp .ge 82, 3) := of_decide_eq_true (List.all_eq_true.mp dA_X7_bestLook_0 (37, .if_icmp .ge 82, 3) (List.mem_of_getElem? (i := 22) rfl))
theorem dX7_bestLook_40 : decode cX7_bestLook 40 = .ok (.aload_n 1, 1) := of_decide_eq_true (List.all_eq_true.mp dA_X7_bestLook_0 (40, .aload_n 1, 1) (List.mem_of_getElem? (i := 23) rfl))
theorem dX7_bestLook_41 : decode cX7_bestLook 41 = .ok (.getfield 52, 3) := of_decide_eq_true (List.all_eq_true.mp dA_X7_bestLook_0 (41, .getfield 52, 3) (List.mem_of_getElem? (i := 24) rfl))
theorem dX7_bestLook_44 : decode cX7_bestLook 44 = .ok (.iload_n 2, 1) := of_decide_eq_true (List.all_eq_true.mp dA_X7_bestLook_0 (44, .iload_n 2, 1) (List.mem_of_getElem? (i := 25) rfl))
theorem dX7_bestLook_45 : decode cX7_bestLook 45 = .ok (.iconst 1, 1) := of_decide_eq_true (List.all_eq_true.mp dA_X7_bestLook_0 (45, .iconst 1, 1) (List.mem_of_getElem? (i := 26) rfl))
theorem dX7_bestLook_46 : decode cX7_bestLook 46 = .ok (.invokevirtual 55, 3) := of_decide_eq_true (List.all_eq_true.mp dA_X7_bestLook_0 (46, .invokevirtual 55, 3) (List.mem_of_getElem? (i := 27) rfl))
theorem dX7_bestLook_49 : decode cX7_bestLook 49 = .ok (.istore 8, 2) := of_decide_eq_true (List.all_eq_true.mp dA_X7_bestLook_0 (49, .istore 8, 2) (List.mem_of_getElem? (i := 28) rfl))
theorem dX7_bestLook_51 : decode cX7_bestLook 51 = .ok (.iconst 0, 1) := of_decide_eq_true (List.all_eq_true.mp dA_X7_bestLook_0 (51, .iconst 0, 1) (List.mem_of_getElem? (i := 29) rfl))
theorem dX7_bestLook_52 : decode cX7_bestLook 52 = .ok (.istore 9, 2) := of_decide_eq_true (List.all_eq_true.mp dA_X7_bestLook_0 (52, .istore 9, 2) (List.mem_of_getElem? (i := 30) rfl))
theorem dX7_bestLook_54 : decode cX7_bestLook 54 = .ok (.iload 9, 2) := of_decide_eq_true (List.all_eq_true.mp dA_X7_bestLook_0 (54, .iload 9, 2) (List.mem_of_getElem? (i := 31) rfl))
theorem dX7_bestLook_56 : decode cX7_bestLook 56 = .ok (.bipush 6, 2) := of_decide_eq_true (List.all_eq_true.mp dA_X7_bestLook_0 (56, .bipush 6, 2) (List.mem_of_getElem? (i := 32) rfl))
theorem dX7_bestLook_58 : decode cX7_bestLook 58 = .ok (.if_icmp .ge 27, 3) := of_decide_eq_true (List.all_eq_true.mp dA_X7_bestLook_0 (58, .if_icmp .ge 27, 3) (List.mem_of_getElem? (i := 33) rfl))
theorem dX7_bestLook_61 : decode cX7_bestLook 61 = .ok (.aload_n 0, 1) := of_decide_eq_true (List.all_eq_true.mp dA_X7_bestLook_0 (61, .aload_n 0, 1) (List.mem_of_getElem? (i := 34) rfl))
theorem dX7_bestLook_62 : decode cX7_bestLook 62 = .ok (.getfield 9, 3) := of_decide_eq_true (List.all_eq_true.mp dA_X7_bestLook_0 (62, .getfield 9, 3) (List.mem_of_getElem? (i := 35) rfl))
theorem dX7_bestLook_65 : decode cX7_bestLook 65 = .ok (.iload 9, 2) := of_decide_eq_true (List.all_eq_true.mp dA_X7_bestLook_0 (65, .iload 9, 2) (List.mem_of_getElem? (i := 36) rfl))
theorem dX7_bestLook_67 : decode cX7_bestLook 67 = .ok (.iload 9, 2) := of_decide_eq_true (List.all_eq_true.mp dA_X7_bestLook_0 (67, .iload 9, 2) (List.mem_of_getElem? (i := 37) rfl))
theorem dX7_bestLook_69 : decode cX7_bestLook 69 = .ok (.iload 8, 2) := of_decide_eq_true (List.all_eq_true.mp dA_X7_bestLook_0 (69, .iload 8, 2) (List.mem_of_getElem? (i := 38) rfl))
theorem dX7_bestLook_71 : decode cX7_bestLook 71 = .ok (.iload 6, 2) := of_decide_eq_true (List.all_eq_true.mp dA_X7_bestLook_0 (71, .iload 6, 2) (List.mem_of_getElem? (i := 39) rfl))
set_option maxRecDepth 20000 in
theorem dA_X7_bestLook_73 : (([(73, .iload 7, 2), (75, .invokestatic 60, 3), (78, .iastore, 1), (79, .iinc 9 1, 3), (82, .goto (-28), 3), (85, .aload_n 0, 1), (86, .iload_n 3, 1), (87, .invokevirtual 66, 3), (90, .istore 9, 2), (92, .iload 9, 2), (94, .iload 5, 2), (96, .if_icmp .ge 17, 3), (99, .iload 9, 2), (101, .istore 5, 2), (103, .bipush 100, 2), (105, .iload 6, 2), (107, .imul, 1), (108, .iload 7, 2), (110, .iadd, 1), (111, .istore 4, 2), (113, .iinc 7 1, 3), (116, .goto (-83), 3), (119, .iinc 6 1, 3), (122, .goto (-99), 3), (125, .iload 4, 2), (127, .ireturn, 1)] : List (Nat × Instr × Nat)).all fun q => decide (decode cX7_bestLook q.1 = .ok (q.2.1, q.2.2))) = true := by decide +kernel
theorem dX7_bestLook_73 : decode cX7_bestLook 73 = .ok (.iload 7, 2) := of_decide_eq_true (List.all_eq_true.mp dA_X7_bestLook_73 (73, .iload 7, 2) (List.mem_of_getElem? (i := 0) rfl))
theorem dX7_bestLook_75 : decode cX7_bestLook 75 = .ok (.invokestatic 60, 3) := of_decide_eq_true (List.all_eq_true.mp dA_X7_bestLook_73 (75, .invokestatic 60, 3) (List.mem_of_getElem? (i := 1) rfl))
theorem dX7_bestLook_78 : decode cX7_bestLook 78 = .ok (.iastore, 1) := of_decide_eq_true (List.all_eq_true.mp dA_X7_bestLook_73 (78, .iastore, 1) (List.mem_of_getElem? (i := 2) rfl))
theorem dX7_bestLook_79 : decode cX7_bestLook 79 = .ok (.iinc 9 1, 3) := of_decide_eq_true (List.all_eq_true.mp dA_X7_bestLook_73 (79, .iinc 9 1, 3) (List.mem_of_getElem? (i := 3) rfl))
theorem dX7_bestLook_82 : decode cX7_bestLook 82 = .ok (.goto (-28), 3) := of_decide_eq_true (List.all_eq_true.mp dA_X7_bestLook_73 (82, .goto (-28), 3) (List.mem_of_getElem? (i := 4) rfl))
theorem dX7_bestLook_85 : decode cX7_bestLook 85 = .ok (.aload_n 0, 1) := of_decide_eq_true (List.all_eq_true.mp dA_X7_bestLook_73 (85, .aload_n 0, 1) (List.mem_of_getElem? (i := 5) rfl))
theorem dX7_bestLook_86 : decode cX7_bestLook 86 = .ok (.iload_n 3, 1) := of_decide_eq_true (List.all_eq_true.mp dA_X7_bestLook_73 (86, .iload_n 3, 1) (List.mem_of_getElem? (i := 6) rfl))
theorem dX7_bestLook_87 : decode cX7_bestLook 87 = .ok (.invokevirtual 66, 3) := of_decide_eq_true (List.all_eq_true.mp dA_X7_bestLook_73 (87, .invokevirtual 66, 3) (List.mem_of_getElem? (i := 7) rfl))
theorem dX7_bestLook_90 : decode cX7_bestLook 90 = .ok (.istore 9, 2) := of_decide_eq_true (List.all_eq_true.mp dA_X7_bestLook_73 (90, .istore 9, 2) (List.mem_of_getElem? (i := 8) rfl))
theorem dX7_bestLook_92 : decode cX7_bestLook 92 = .ok (.iload 9, 2) := of_decide_eq_true (List.all_eq_true.mp dA_X7_bestLook_73 (92, .iload 9, 2) (List.mem_of_getElem? (i := 9) rfl))
theorem dX7_bestLook_94 : decode cX7_bestLook 94 = .ok (.iload 5, 2) := of_decide_eq_true (List.all_eq_true.mp dA_X7_bestLook_73 (94, .iload 5, 2) (List.mem_of_getElem? (i := 10) rfl))
theorem dX7_bestLook_96 : decode cX7_bestLook 96 = .ok (.if_icmp .ge 17, 3) := of_decide_eq_true (List.all_eq_true.mp dA_X7_bestLook_73 (96, .if_icmp .ge 17, 3) (List.mem_of_getElem? (i := 11) rfl))
theorem dX7_bestLook_99 : decode cX7_bestLook 99 = .ok (.iload 9, 2) := of_decide_eq_true (List.all_eq_true.mp dA_X7_bestLook_73 (99, .iload 9, 2) (List.mem_of_getElem? (i := 12) rfl))
theorem dX7_bestLook_101 : decode cX7_bestLook 101 = .ok (.istore 5, 2) := of_decide_eq_true (List.all_eq_true.mp dA_X7_bestLook_73 (101, .istore 5, 2) (List.mem_of_getElem? (i := 13) rfl))
theorem dX7_bestLook_103 : decode cX7_bestLook 103 = .ok (.bipush 100, 2) := of_decide_eq_true (List.all_eq_true.mp dA_X7_bestLook_73 (103, .bipush 100, 2) (List.mem_of_getElem? (i := 14) rfl))
theorem dX7_bestLook_105 : decode cX7_bestLook 105 = .ok (.iload 6, 2) := of_decide_eq_true (List.all_eq_true.mp dA_X7_bestLook_73 (105, .iload 6, 2) (List.mem_of_getElem? (i := 15) rfl))
theorem dX7_bestLook_107 : decode cX7_bestLook 107 = .ok (.imul, 1) := of_decide_eq_true (List.all_eq_true.mp dA_X7_bestLook_73 (107, .imul, 1) (List.mem_of_getElem? (i := 16) rfl))
theorem dX7_bestLook_108 : decode cX7_bestLook 108 = .ok (.iload 7, 2) := of_decide_eq_true (List.all_eq_true.mp dA_X7_bestLook_73 (108, .iload 7, 2) (List.mem_of_getElem? (i := 17) rfl))
theorem dX7_bestLook_110 : decode cX7_bestLook 110 = .ok (.iadd, 1) := of_decide_eq_true (List.all_eq_true.mp dA_X7_bestLook_73 (110, .iadd, 1) (List.mem_of_getElem? (i := 18) rfl))
theorem dX7_bestLook_111 : decode cX7_bestLook 111 = .ok (.istore 4, 2) := of_decide_eq_true (List.all_eq_true.mp dA_X7_bestLook_73 (111, .istore 4, 2) (List.mem_of_getElem? (i := 19) rfl))
theorem dX7_bestLook_113 : decode cX7_bestLook 113 = .ok (.iinc 7 1, 3) := of_decide_eq_true (List.all_eq_true.mp dA_X7_bestLook_73 (113, .iinc 7 1, 3) (List.mem_of_getElem? (i := 20) rfl))
theorem dX7_bestLook_116 : decode cX7_bestLook 116 = .ok (.goto (-83), 3) := of_decide_eq_true (List.all_eq_true.mp dA_X7_bestLook_73 (116, .goto (-83), 3) (List.mem_of_getElem? (i := 21) rfl))
theorem dX7_bestLook_119 : decode cX7_bestLook 119 = .ok (.iinc 6 1, 3) := of_decide_eq_true (List.all_eq_true.mp dA_X7_bestLook_73 (119, .iinc 6 1, 3) (List.mem_of_getElem? (i := 22) rfl))
theorem dX7_bestLook_122 : decode cX7_bestLook 122 = .ok (.goto (-99), 3) := of_decide_eq_true (List.all_eq_true.mp dA_X7_bestLook_73 (122, .goto (-99), 3) (List.mem_of_getElem? (i := 23) rfl))
theorem dX7_bestLook_125 : decode cX7_bestLook 125 = .ok (.iload 4, 2) := of_decide_eq_true (List.all_eq_true.mp dA_X7_bestLook_73 (125, .iload 4, 2) (List.mem_of_getElem? (i := 24) rfl))
theorem dX7_bestLook_127 : decode cX7_bestLook 127 = .ok (.ireturn, 1) := of_decide_eq_true (List.all_eq_true.mp dA_X7_bestLook_73 (127, .ireturn, 1) (List.mem_of_getElem? (i := 25) rfl))
set_option maxRecDepth 20000 in
theorem ggX7_hostKinds_X7_fitsMarks : GoodIn wsX7_hostKinds wsX7_fitsMarks := goodIn_r _ [5, 6, 7, 8, 9, 10, 11, 12, 13, 14, 15, 16, 17, 29, 30, 31, 32] (by decide +kernel) (by decide +kernel)
set_option maxRecDepth 20000 in
theorem gX7_hostKinds_X7_fitsMarks : GoodIn wsX7_hostKinds (wsV RX7 72 RX7 yX7_fitsMarks wsX7_fitsMarks) := goodIn_app (goodIn_of _ (by decide +kernel)) ggX7_hostKinds_X7_fitsMarks
set_option maxRecDepth 20000 in
theorem dA_X7_hostKinds_0 : (([(0, .iconst 0, 1), (1, .istore_n 2, 1), (2, .iconst 0, 1), (3, .istore_n 3, 1), (4, .iload_n 3, 1), (5, .bipush 6, 2), (7, .if_icmp .ge 27, 3), (10, .aload_n 0, 1), (11, .aload_n 1, 1), (12, .getfield 69, 3), (15, .iload_n 3, 1), (16, .invokevirtual 72, 3), (19, .ifCond .eq 9, 3), (22, .iload_n 2, 1), (23, .iconst 1, 1), (24, .iload_n 3, 1), (25, .ishl, 1), (26, .ior, 1), (27, .istore_n 2, 1), (28, .iinc 3 1, 3), (31, .goto (-27), 3), (34, .iload_n 2, 1), (35, .ireturn, 1)] : List (Nat × Instr × Nat)).all fun q => decide (decode cX7_hostKinds q.1 = .ok (q.2.1, q.2.2))) = true := by decide +kernel
theorem dX7_hostKinds_0 : decode cX7_hostKinds 0 = .ok (.iconst 0, 1) := of_decide_eq_true (List.all_eq_true.mp dA_X7_hostKinds_0 (0, .iconst 0, 1) (List.mem_of_getElem? (i := 0) rfl))
theorem dX7_hostKinds_1 : decode cX7_hostKinds 1 = .ok (.istore_n 2, 1) := of_decide_eq_true (List.all_eq_true.mp dA_X7_hostKinds_0 (1, .istore_n 2, 1) (List.mem_of_getElem? (i := 1) rfl))
theorem dX7_hostKinds_2 : decode cX7_hostKinds 2 = .ok (.iconst 0, 1) := of_decide_eq_true (List.all_eq_true.mp dA_X7_hostKinds_0 (2, .iconst 0, 1) (List.mem_of_getElem? (i := 2) rfl))
theorem dX7_hostKinds_3 : decode cX7_hostKinds 3 = .ok (.istore_n 3, 1) := of_decide_eq_true (List.all_eq_true.mp dA_X7_hostKinds_0 (3, .istore_n 3, 1) (List.mem_of_getElem? (i := 3) rfl))
theorem dX7_hostKinds_4 : decode cX7_hostKinds 4 = .ok (.iload_n 3, 1) := of_decide_eq_true (List.all_eq_true.mp dA_X7_hostKinds_0 (4, .iload_n 3, 1) (List.mem_of_getElem? (i := 4) rfl))
theorem dX7_hostKinds_5 : decode cX7_hostKinds 5 = .ok (.bipush 6, 2) := of_decide_eq_true (List.all_eq_true.mp dA_X7_hostKinds_0 (5, .bipush 6, 2) (List.mem_of_getElem? (i := 5) rfl))
theorem dX7_hostKinds_7 : decode cX7_hostKinds 7 = .ok (.if_icmp .ge 27, 3) := of_decide_eq_true (List.all_eq_true.mp dA_X7_hostKinds_0 (7, .if_icmp .ge 27, 3) (List.mem_of_getElem? (i := 6) rfl))
theorem dX7_hostKinds_10 : decode cX7_hostKinds 10 = .ok (.aload_n 0, 1) := of_decide_eq_true (List.all_eq_true.mp dA_X7_hostKinds_0 (10, .aload_n 0, 1) (List.mem_of_getElem? (i := 7) rfl))
theorem dX7_hostKinds_11 : decode cX7_hostKinds 11 = .ok (.aload_n 1, 1) := of_decide_eq_true (List.all_eq_true.mp dA_X7_hostKinds_0 (11, .aload_n 1, 1) (List.mem_of_getElem? (i := 8) rfl))
theorem dX7_hostKinds_12 : decode cX7_hostKinds 12 = .ok (.getfield 69, 3) := of_decide_eq_true (List.all_eq_true.mp dA_X7_hostKinds_0 (12, .getfield 69, 3) (List.mem_of_getElem? (i := 9) rfl))
theorem dX7_hostKinds_15 : decode cX7_hostKinds 15 = .ok (.iload_n 3, 1) := of_decide_eq_true (List.all_eq_true.mp dA_X7_hostKinds_0 (15, .iload_n 3, 1) (List.mem_of_getElem? (i := 10) rfl))
theorem dX7_hostKinds_16 : decode cX7_hostKinds 16 = .ok (.invokevirtual 72, 3) := of_decide_eq_true (List.all_eq_true.mp dA_X7_hostKinds_0 (16, .invokevirtual 72, 3) (List.mem_of_getElem? (i := 11) rfl))
theorem dX7_hostKinds_19 : decode cX7_hostKinds 19 = .ok (.ifCond .eq 9, 3) := of_decide_eq_true (List.all_eq_true.mp dA_X7_hostKinds_0 (19, .ifCond .eq 9, 3) (List.mem_of_getElem? (i := 12) rfl))
theorem dX7_hostKinds_22 : decode cX7_hostKinds 22 = .ok (.iload_n 2, 1) := of_decide_eq_true (List.all_eq_true.mp dA_X7_hostKinds_0 (22, .iload_n 2, 1) (List.mem_of_getElem? (i := 13) rfl))
theorem dX7_hostKinds_23 : decode cX7_hostKinds 23 = .ok (.iconst 1, 1) := of_decide_eq_true (List.all_eq_true.mp dA_X7_hostKinds_0 (23, .iconst 1, 1) (List.mem_of_getElem? (i := 14) rfl))
theorem dX7_hostKinds_24 : decode cX7_hostKinds 24 = .ok (.iload_n 3, 1) := of_decide_eq_true (List.all_eq_true.mp dA_X7_hostKinds_0 (24, .iload_n 3, 1) (List.mem_of_getElem? (i := 15) rfl))
theorem dX7_hostKinds_25 : decode cX7_hostKinds 25 = .ok (.ishl, 1) := of_decide_eq_true (List.all_eq_true.mp dA_X7_hostKinds_0 (25, .ishl, 1) (List.mem_of_getElem? (i := 16) rfl))
theorem dX7_hostKinds_26 : decode cX7_hostKinds 26 = .ok (.ior, 1) := of_decide_eq_true (List.all_eq_true.mp dA_X7_hostKinds_0 (26, .ior, 1) (List.mem_of_getElem? (i := 17) rfl))
theorem dX7_hostKinds_27 : decode cX7_hostKinds 27 = .ok (.istore_n 2, 1) := of_decide_eq_true (List.all_eq_true.mp dA_X7_hostKinds_0 (27, .istore_n 2, 1) (List.mem_of_getElem? (i := 18) rfl))
theorem dX7_hostKinds_28 : decode cX7_hostKinds 28 = .ok (.iinc 3 1, 3) := of_decide_eq_true (List.all_eq_true.mp dA_X7_hostKinds_0 (28, .iinc 3 1, 3) (List.mem_of_getElem? (i := 19) rfl))
theorem dX7_hostKinds_31 : decode cX7_hostKinds 31 = .ok (.goto (-27), 3) := of_decide_eq_true (List.all_eq_true.mp dA_X7_hostKinds_0 (31, .goto (-27), 3) (List.mem_of_getElem? (i := 20) rfl))
theorem dX7_hostKinds_34 : decode cX7_hostKinds 34 = .ok (.iload_n 2, 1) := of_decide_eq_true (List.all_eq_true.mp dA_X7_hostKinds_0 (34, .iload_n 2, 1) (List.mem_of_getElem? (i := 21) rfl))
theorem dX7_hostKinds_35 : decode cX7_hostKinds 35 = .ok (.ireturn, 1) := of_decide_eq_true (List.all_eq_true.mp dA_X7_hostKinds_0 (35, .ireturn, 1) (List.mem_of_getElem? (i := 22) rfl))
set_option maxRecDepth 20000 in
theorem ggX7_bestQuestion_X7_hostKinds : GoodIn wsX7_bestQuestion wsX7_hostKinds := goodIn_r _ [6, 7, 8, 9, 5, 10, 11, 12, 13, 14, 15, 16, 17, 18, 19, 20, 21, 22, 32, 33, 34, 35, 36, 37, 38, 39, 40, 41, 42, 43, 44, 45, 46] (by decide +kernel) (by decide +kernel)
set_option maxRecDepth 20000 in
theorem gX7_bestQuestion_X7_hostKinds : GoodIn wsX7_bestQuestion (wsV RX7 76 RX7 yX7_hostKinds wsX7_hostKinds) := goodIn_app (goodIn_of _ (by decide +kernel)) ggX7_bestQuestion_X7_hostKinds
set_option maxRecDepth 20000 in
theorem ggX7_bestQuestion_X2_letsPass : GoodIn wsX7_bestQuestion wsX2_letsPass := goodIn_r _ [22] (by decide +kernel) (by decide +kernel)
set_option maxRecDepth 20000 in
theorem gX7_bestQuestion_X2_letsPass : GoodIn wsX7_bestQuestion (va_wsS RX7 80 yX2_letsPass wsX2_letsPass) := goodIn_app (goodIn_of _ (by decide +kernel)) ggX7_bestQuestion_X2_letsPass
set_option maxRecDepth 20000 in
theorem ggX7_bestQuestion_X7_mostAlike : GoodIn wsX7_bestQuestion wsX7_mostAlike := goodIn_r _ [26, 1, 27, 28, 29, 30, 31] (by decide +kernel) (by decide +kernel)
set_option maxRecDepth 20000 in
theorem gX7_bestQuestion_X7_mostAlike : GoodIn wsX7_bestQuestion (wsV RX7 66 RX7 yX7_mostAlike wsX7_mostAlike) := goodIn_app (goodIn_of _ (by decide +kernel)) ggX7_bestQuestion_X7_mostAlike
set_option maxRecDepth 20000 in
theorem dA_X7_bestQuestion_0 : (([(0, .aload_n 0, 1), (1, .aload_n 1, 1), (2, .invokevirtual 76, 3), (5, .istore_n 2, 1), (6, .iconst (-1), 1), (7, .istore_n 3, 1), (8, .bipush 7, 2), (10, .istore 4, 2), (12, .iload_n 2, 1), (13, .ifCond .ne 5, 3), (16, .iconst (-1), 1), (17, .ireturn, 1), (18, .iconst 0, 1), (19, .istore 5, 2), (21, .iload 5, 2), (23, .iconst 4, 1), (24, .if_icmp .gt 84, 3), (27, .iconst 0, 1), (28, .istore 6, 2), (30, .iload 6, 2), (32, .bipush 9, 2), (34, .if_icmp .gt 68, 3), (37, .iconst 0, 1), (38, .istore 7, 2), (40, .iload 7, 2), (42, .bipush 6, 2), (44, .if_icmp .ge 25, 3), (47, .aload_n 0, 1), (48, .getfield 9, 3), (51, .iload 7, 2), (53, .iload 7, 2), (55, .iload 5, 2), (57, .iload 6, 2), (59, .invokestatic 80, 3), (62, .iastore, 1), (63, .iinc 7 1, 3), (66, .goto (-26), 3), (69, .aload_n 0, 1), (70, .iload_n 2, 1), (71, .invokevirtual 66, 3)] : List (Nat × Instr × Nat)).all fun q => decide (decode cX7_bestQuestion q.1 = .ok (q.2.1, q.2.2))) = true := by decide +kernel
theorem dX7_bestQuestion_0 : decode cX7_bestQuestion 0 = .ok (.aload_n 0, 1) := of_decide_eq_true (List.all_eq_true.mp dA_X7_bestQuestion_0 (0, .aload_n 0, 1) (List.mem_of_getElem? (i := 0) rfl))
theorem dX7_bestQuestion_1 : decode cX7_bestQuestion 1 = .ok (.aload_n 1, 1) := of_decide_eq_true (List.all_eq_true.mp dA_X7_bestQuestion_0 (1, .aload_n 1, 1) (List.mem_of_getElem? (i := 1) rfl))
theorem dX7_bestQuestion_2 : decode cX7_bestQuestion 2 = .ok (.invokevirtual 76, 3) := of_decide_eq_true (List.all_eq_true.mp dA_X7_bestQuestion_0 (2, .invokevirtual 76, 3) (List.mem_of_getElem? (i := 2) rfl))
theorem dX7_bestQuestion_5 : decode cX7_bestQuestion 5 = .ok (.istore_n 2, 1) := of_decide_eq_true (List.all_eq_true.mp dA_X7_bestQuestion_0 (5, .istore_n 2, 1) (List.mem_of_getElem? (i := 3) rfl))
theorem dX7_bestQuestion_6 : decode cX7_bestQuestion 6 = .ok (.iconst (-1), 1) := of_decide_eq_true (List.all_eq_true.mp dA_X7_bestQuestion_0 (6, .iconst (-1), 1) (List.mem_of_getElem? (i := 4) rfl))
theorem dX7_bestQuestion_7 : decode cX7_bestQuestion 7 = .ok (.istore_n 3, 1) := of_decide_eq_true (List.all_eq_true.mp dA_X7_bestQuestion_0 (7, .istore_n 3, 1) (List.mem_of_getElem? (i := 5) rfl))
theorem dX7_bestQuestion_8 : decode cX7_bestQuestion 8 = .ok (.bipush 7, 2) := of_decide_eq_true (List.all_eq_true.mp dA_X7_bestQuestion_0 (8, .bipush 7, 2) (List.mem_of_getElem? (i := 6) rfl))
theorem dX7_bestQuestion_10 : decode cX7_bestQuestion 10 = .ok (.istore 4, 2) := of_decide_eq_true (List.all_eq_true.mp dA_X7_bestQuestion_0 (10, .istore 4, 2) (List.mem_of_getElem? (i := 7) rfl))
theorem dX7_bestQuestion_12 : decode cX7_bestQuestion 12 = .ok (.iload_n 2, 1) := of_decide_eq_true (List.all_eq_true.mp dA_X7_bestQuestion_0 (12, .iload_n 2, 1) (List.mem_of_getElem? (i := 8) rfl))
theorem dX7_bestQuestion_13 : decode cX7_bestQuestion 13 = .ok (.ifCond .ne 5, 3) := of_decide_eq_true (List.all_eq_true.mp dA_X7_bestQuestion_0 (13, .ifCond .ne 5, 3) (List.mem_of_getElem? (i := 9) rfl))
theorem dX7_bestQuestion_16 : decode cX7_bestQuestion 16 = .ok (.iconst (-1), 1) := of_decide_eq_true (List.all_eq_true.mp dA_X7_bestQuestion_0 (16, .iconst (-1), 1) (List.mem_of_getElem? (i := 10) rfl))
theorem dX7_bestQuestion_17 : decode cX7_bestQuestion 17 = .ok (.ireturn, 1) := of_decide_eq_true (List.all_eq_true.mp dA_X7_bestQuestion_0 (17, .ireturn, 1) (List.mem_of_getElem? (i := 11) rfl))
theorem dX7_bestQuestion_18 : decode cX7_bestQuestion 18 = .ok (.iconst 0, 1) := of_decide_eq_true (List.all_eq_true.mp dA_X7_bestQuestion_0 (18, .iconst 0, 1) (List.mem_of_getElem? (i := 12) rfl))
theorem dX7_bestQuestion_19 : decode cX7_bestQuestion 19 = .ok (.istore 5, 2) := of_decide_eq_true (List.all_eq_true.mp dA_X7_bestQuestion_0 (19, .istore 5, 2) (List.mem_of_getElem? (i := 13) rfl))
theorem dX7_bestQuestion_21 : decode cX7_bestQuestion 21 = .ok (.iload 5, 2) := of_decide_eq_true (List.all_eq_true.mp dA_X7_bestQuestion_0 (21, .iload 5, 2) (List.mem_of_getElem? (i := 14) rfl))
theorem dX7_bestQuestion_23 : decode cX7_bestQuestion 23 = .ok (.iconst 4, 1) := of_decide_eq_true (List.all_eq_true.mp dA_X7_bestQuestion_0 (23, .iconst 4, 1) (List.mem_of_getElem? (i := 15) rfl))
theorem dX7_bestQuestion_24 : decode cX7_bestQuestion 24 = .ok (.if_icmp .gt 84, 3) := of_decide_eq_true (List.all_eq_true.mp dA_X7_bestQuestion_0 (24, .if_icmp .gt 84, 3) (List.mem_of_getElem? (i := 16) rfl))
theorem dX7_bestQuestion_27 : decode cX7_bestQuestion 27 = .ok (.iconst 0, 1) := of_decide_eq_true (List.all_eq_true.mp dA_X7_bestQuestion_0 (27, .iconst 0, 1) (List.mem_of_getElem? (i := 17) rfl))
theorem dX7_bestQuestion_28 : decode cX7_bestQuestion 28 = .ok (.istore 6, 2) := of_decide_eq_true (List.all_eq_true.mp dA_X7_bestQuestion_0 (28, .istore 6, 2) (List.mem_of_getElem? (i := 18) rfl))
theorem dX7_bestQuestion_30 : decode cX7_bestQuestion 30 = .ok (.iload 6, 2) := of_decide_eq_true (List.all_eq_true.mp dA_X7_bestQuestion_0 (30, .iload 6, 2) (List.mem_of_getElem? (i := 19) rfl))
theorem dX7_bestQuestion_32 : decode cX7_bestQuestion 32 = .ok (.bipush 9, 2) := of_decide_eq_true (List.all_eq_true.mp dA_X7_bestQuestion_0 (32, .bipush 9, 2) (List.mem_of_getElem? (i := 20) rfl))
theorem dX7_bestQuestion_34 : decode cX7_bestQuestion 34 = .ok (.if_icmp .gt 68, 3) := of_decide_eq_true (List.all_eq_true.mp dA_X7_bestQuestion_0 (34, .if_icmp .gt 68, 3) (List.mem_of_getElem? (i := 21) rfl))
theorem dX7_bestQuestion_37 : decode cX7_bestQuestion 37 = .ok (.iconst 0, 1) := of_decide_eq_true (List.all_eq_true.mp dA_X7_bestQuestion_0 (37, .iconst 0, 1) (List.mem_of_getElem? (i := 22) rfl))
theorem dX7_bestQuestion_38 : decode cX7_bestQuestion 38 = .ok (.istore 7, 2) := of_decide_eq_true (List.all_eq_true.mp dA_X7_bestQuestion_0 (38, .istore 7, 2) (List.mem_of_getElem? (i := 23) rfl))
theorem dX7_bestQuestion_40 : decode cX7_bestQuestion 40 = .ok (.iload 7, 2) := of_decide_eq_true (List.all_eq_true.mp dA_X7_bestQuestion_0 (40, .iload 7, 2) (List.mem_of_getElem? (i := 24) rfl))
theorem dX7_bestQuestion_42 : decode cX7_bestQuestion 42 = .ok (.bipush 6, 2) := of_decide_eq_true (List.all_eq_true.mp dA_X7_bestQuestion_0 (42, .bipush 6, 2) (List.mem_of_getElem? (i := 25) rfl))
theorem dX7_bestQuestion_44 : decode cX7_bestQuestion 44 = .ok (.if_icmp .ge 25, 3) := of_decide_eq_true (List.all_eq_true.mp dA_X7_bestQuestion_0 (44, .if_icmp .ge 25, 3) (List.mem_of_getElem? (i := 26) rfl))
theorem dX7_bestQuestion_47 : decode cX7_bestQuestion 47 = .ok (.aload_n 0, 1) := of_decide_eq_true (List.all_eq_true.mp dA_X7_bestQuestion_0 (47, .aload_n 0, 1) (List.mem_of_getElem? (i := 27) rfl))
theorem dX7_bestQuestion_48 : decode cX7_bestQuestion 48 = .ok (.getfield 9, 3) := of_decide_eq_true (List.all_eq_true.mp dA_X7_bestQuestion_0 (48, .getfield 9, 3) (List.mem_of_getElem? (i := 28) rfl))
theorem dX7_bestQuestion_51 : decode cX7_bestQuestion 51 = .ok (.iload 7, 2) := of_decide_eq_true (List.all_eq_true.mp dA_X7_bestQuestion_0 (51, .iload 7, 2) (List.mem_of_getElem? (i := 29) rfl))
theorem dX7_bestQuestion_53 : decode cX7_bestQuestion 53 = .ok (.iload 7, 2) := of_decide_eq_true (List.all_eq_true.mp dA_X7_bestQuestion_0 (53, .iload 7, 2) (List.mem_of_getElem? (i := 30) rfl))
theorem dX7_bestQuestion_55 : decode cX7_bestQuestion 55 = .ok (.iload 5, 2) := of_decide_eq_true (List.all_eq_true.mp dA_X7_bestQuestion_0 (55, .iload 5, 2) (List.mem_of_getElem? (i := 31) rfl))
theorem dX7_bestQuestion_57 : decode cX7_bestQuestion 57 = .ok (.iload 6, 2) := of_decide_eq_true (List.all_eq_true.mp dA_X7_bestQuestion_0 (57, .iload 6, 2) (List.mem_of_getElem? (i := 32) rfl))
theorem dX7_bestQuestion_59 : decode cX7_bestQuestion 59 = .ok (.invokestatic 80, 3) := of_decide_eq_true (List.all_eq_true.mp dA_X7_bestQuestion_0 (59, .invokestatic 80, 3) (List.mem_of_getElem? (i := 33) rfl))
theorem dX7_bestQuestion_62 : decode cX7_bestQuestion 62 = .ok (.iastore, 1) := of_decide_eq_true (List.all_eq_true.mp dA_X7_bestQuestion_0 (62, .iastore, 1) (List.mem_of_getElem? (i := 34) rfl))
theorem dX7_bestQuestion_63 : decode cX7_bestQuestion 63 = .ok (.iinc 7 1, 3) := of_decide_eq_true (List.all_eq_true.mp dA_X7_bestQuestion_0 (63, .iinc 7 1, 3) (List.mem_of_getElem? (i := 35) rfl))
theorem dX7_bestQuestion_66 : decode cX7_bestQuestion 66 = .ok (.goto (-26), 3) := of_decide_eq_true (List.all_eq_true.mp dA_X7_bestQuestion_0 (66, .goto (-26), 3) (List.mem_of_getElem? (i := 36) rfl))
theorem dX7_bestQuestion_69 : decode cX7_bestQuestion 69 = .ok (.aload_n 0, 1) := of_decide_eq_true (List.all_eq_true.mp dA_X7_bestQuestion_0 (69, .aload_n 0, 1) (List.mem_of_getElem? (i := 37) rfl))
theorem dX7_bestQuestion_70 : decode cX7_bestQuestion 70 = .ok (.iload_n 2, 1) := of_decide_eq_true (List.all_eq_true.mp dA_X7_bestQuestion_0 (70, .iload_n 2, 1) (List.mem_of_getElem? (i := 38) rfl))
theorem dX7_bestQuestion_71 : decode cX7_bestQuestion 71 = .ok (.invokevirtual 66, 3) := of_decide_eq_true (List.all_eq_true.mp dA_X7_bestQuestion_0 (71, .invokevirtual 66, 3) (List.mem_of_getElem? (i := 39) rfl))
set_option maxRecDepth 20000 in
theorem dA_X7_bestQuestion_74 : (([(74, .istore 7, 2), (76, .iload 7, 2), (78, .iload 4, 2), (80, .if_icmp .ge 16, 3), (83, .iload 7, 2), (85, .istore 4, 2), (87, .bipush 10, 2), (89, .iload 5, 2), (91, .imul, 1), (92, .iload 6, 2), (94, .iadd, 1), (95, .istore_n 3, 1), (96, .iinc 6 1, 3), (99, .goto (-69), 3), (102, .iinc 5 1, 3), (105, .goto (-84), 3), (108, .iload_n 3, 1), (109, .ireturn, 1)] : List (Nat × Instr × Nat)).all fun q => decide (decode cX7_bestQuestion q.1 = .ok (q.2.1, q.2.2))) = true := by decide +kernel
theorem dX7_bestQuestion_74 : decode cX7_bestQuestion 74 = .ok (.istore 7, 2) := of_decide_eq_true (List.all_eq_true.mp dA_X7_bestQuestion_74 (74, .istore 7, 2) (List.mem_of_getElem? (i := 0) rfl))
theorem dX7_bestQuestion_76 : decode cX7_bestQuestion 76 = .ok (.iload 7, 2) := of_decide_eq_true (List.all_eq_true.mp dA_X7_bestQuestion_74 (76, .iload 7, 2) (List.mem_of_getElem? (i := 1) rfl))
theorem dX7_bestQuestion_78 : decode cX7_bestQuestion 78 = .ok (.iload 4, 2) := of_decide_eq_true (List.all_eq_true.mp dA_X7_bestQuestion_74 (78, .iload 4, 2) (List.mem_of_getElem? (i := 2) rfl))
theorem dX7_bestQuestion_80 : decode cX7_bestQuestion 80 = .ok (.if_icmp .ge 16, 3) := of_decide_eq_true (List.all_eq_true.mp dA_X7_bestQuestion_74 (80, .if_icmp .ge 16, 3) (List.mem_of_getElem? (i := 3) rfl))
theorem dX7_bestQuestion_83 : decode cX7_bestQuestion 83 = .ok (.iload 7, 2) := of_decide_eq_true (List.all_eq_true.mp dA_X7_bestQuestion_74 (83, .iload 7, 2) (List.mem_of_getElem? (i := 4) rfl))
theorem dX7_bestQuestion_85 : decode cX7_bestQuestion 85 = .ok (.istore 4, 2) := of_decide_eq_true (List.all_eq_true.mp dA_X7_bestQuestion_74 (85, .istore 4, 2) (List.mem_of_getElem? (i := 5) rfl))
theorem dX7_bestQuestion_87 : decode cX7_bestQuestion 87 = .ok (.bipush 10, 2) := of_decide_eq_true (List.all_eq_true.mp dA_X7_bestQuestion_74 (87, .bipush 10, 2) (List.mem_of_getElem? (i := 6) rfl))
theorem dX7_bestQuestion_89 : decode cX7_bestQuestion 89 = .ok (.iload 5, 2) := of_decide_eq_true (List.all_eq_true.mp dA_X7_bestQuestion_74 (89, .iload 5, 2) (List.mem_of_getElem? (i := 7) rfl))
theorem dX7_bestQuestion_91 : decode cX7_bestQuestion 91 = .ok (.imul, 1) := of_decide_eq_true (List.all_eq_true.mp dA_X7_bestQuestion_74 (91, .imul, 1) (List.mem_of_getElem? (i := 8) rfl))
theorem dX7_bestQuestion_92 : decode cX7_bestQuestion 92 = .ok (.iload 6, 2) := of_decide_eq_true (List.all_eq_true.mp dA_X7_bestQuestion_74 (92, .iload 6, 2) (List.mem_of_getElem? (i := 9) rfl))
theorem dX7_bestQuestion_94 : decode cX7_bestQuestion 94 = .ok (.iadd, 1) := of_decide_eq_true (List.all_eq_true.mp dA_X7_bestQuestion_74 (94, .iadd, 1) (List.mem_of_getElem? (i := 10) rfl))
theorem dX7_bestQuestion_95 : decode cX7_bestQuestion 95 = .ok (.istore_n 3, 1) := of_decide_eq_true (List.all_eq_true.mp dA_X7_bestQuestion_74 (95, .istore_n 3, 1) (List.mem_of_getElem? (i := 11) rfl))
theorem dX7_bestQuestion_96 : decode cX7_bestQuestion 96 = .ok (.iinc 6 1, 3) := of_decide_eq_true (List.all_eq_true.mp dA_X7_bestQuestion_74 (96, .iinc 6 1, 3) (List.mem_of_getElem? (i := 12) rfl))
theorem dX7_bestQuestion_99 : decode cX7_bestQuestion 99 = .ok (.goto (-69), 3) := of_decide_eq_true (List.all_eq_true.mp dA_X7_bestQuestion_74 (99, .goto (-69), 3) (List.mem_of_getElem? (i := 13) rfl))
theorem dX7_bestQuestion_102 : decode cX7_bestQuestion 102 = .ok (.iinc 5 1, 3) := of_decide_eq_true (List.all_eq_true.mp dA_X7_bestQuestion_74 (102, .iinc 5 1, 3) (List.mem_of_getElem? (i := 14) rfl))
theorem dX7_bestQuestion_105 : decode cX7_bestQuestion 105 = .ok (.goto (-84), 3) := of_decide_eq_true (List.all_eq_true.mp dA_X7_bestQuestion_74 (105, .goto (-84), 3) (List.mem_of_getElem? (i := 15) rfl))
theorem dX7_bestQuestion_108 : decode cX7_bestQuestion 108 = .ok (.iload_n 3, 1) := of_decide_eq_true (List.all_eq_true.mp dA_X7_bestQuestion_74 (108, .iload_n 3, 1) (List.mem_of_getElem? (i := 16) rfl))
theorem dX7_bestQuestion_109 : decode cX7_bestQuestion 109 = .ok (.ireturn, 1) := of_decide_eq_true (List.all_eq_true.mp dA_X7_bestQuestion_74 (109, .ireturn, 1) (List.mem_of_getElem? (i := 17) rfl))
set_option maxRecDepth 20000 in
theorem ggX7_letIn_X1_likely : GoodIn wsX7_letIn wsX1_likely := goodIn_r _ [5, 6, 7, 8, 9, 10, 11, 12, 13, 14, 15, 16, 17, 18, 32, 33, 34, 35, 36, 37, 38, 39, 40, 41, 42, 43, 44, 45, 46] (by decide +kernel) (by decide +kernel)
set_option maxRecDepth 20000 in
theorem gX7_letIn_X1_likely : GoodIn wsX7_letIn (wsV RX7 84 RX1 yX1_likely wsX1_likely) := goodIn_app (goodIn_of _ (by decide +kernel)) ggX7_letIn_X1_likely
set_option maxRecDepth 20000 in
theorem ggX7_letIn_X1_wetOf : GoodIn wsX7_letIn wsX1_wetOf := goodIn_r _ [22, 23, 32, 33, 34, 35, 36, 37, 38, 39, 40, 41, 42] (by decide +kernel) (by decide +kernel)
set_option maxRecDepth 20000 in
theorem gX7_letIn_X1_wetOf : GoodIn wsX7_letIn (wsV RX7 85 RX1 yX1_wetOf wsX1_wetOf) := goodIn_app (goodIn_of _ (by decide +kernel)) ggX7_letIn_X1_wetOf
set_option maxRecDepth 20000 in
theorem ggX7_letIn_X1_letsPass : GoodIn wsX7_letIn wsX1_letsPass := goodIn_r _ [27, 28, 29, 30, 17, 31, 32, 33, 34, 35, 36, 37, 38, 39, 40, 41, 42] (by decide +kernel) (by decide +kernel)
set_option maxRecDepth 20000 in
theorem gX7_letIn_X1_letsPass : GoodIn wsX7_letIn (wsV RX7 88 RX1 yX1_letsPass wsX1_letsPass) := goodIn_app (goodIn_of _ (by decide +kernel)) ggX7_letIn_X1_letsPass
set_option maxRecDepth 20000 in
theorem dA_X7_letIn_0 : (([(0, .aload_n 1, 1), (1, .iload_n 2, 1), (2, .iload_n 3, 1), (3, .iload 4, 2), (5, .iload 5, 2), (7, .invokevirtual 84, 3), (10, .aload_n 1, 1), (11, .aload_n 1, 1), (12, .iload 5, 2), (14, .invokevirtual 85, 3), (17, .iconst 0, 1), (18, .invokevirtual 88, 3), (21, .if_icmp .gt 7, 3), (24, .iconst 1, 1), (25, .goto 4, 3), (28, .iconst 0, 1), (29, .ireturn, 1)] : List (Nat × Instr × Nat)).all fun q => decide (decode cX7_letIn q.1 = .ok (q.2.1, q.2.2))) = true := by decide +kernel
theorem dX7_letIn_0 : decode cX7_letIn 0 = .ok (.aload_n 1, 1) := of_decide_eq_true (List.all_eq_true.mp dA_X7_letIn_0 (0, .aload_n 1, 1) (List.mem_of_getElem? (i := 0) rfl))
theorem dX7_letIn_1 : decode cX7_letIn 1 = .ok (.iload_n 2, 1) := of_decide_eq_true (List.all_eq_true.mp dA_X7_letIn_0 (1, .iload_n 2, 1) (List.mem_of_getElem? (i := 1) rfl))
theorem dX7_letIn_2 : decode cX7_letIn 2 = .ok (.iload_n 3, 1) := of_decide_eq_true (List.all_eq_true.mp dA_X7_letIn_0 (2, .iload_n 3, 1) (List.mem_of_getElem? (i := 2) rfl))
theorem dX7_letIn_3 : decode cX7_letIn 3 = .ok (.iload 4, 2) := of_decide_eq_true (List.all_eq_true.mp dA_X7_letIn_0 (3, .iload 4, 2) (List.mem_of_getElem? (i := 3) rfl))
theorem dX7_letIn_5 : decode cX7_letIn 5 = .ok (.iload 5, 2) := of_decide_eq_true (List.all_eq_true.mp dA_X7_letIn_0 (5, .iload 5, 2) (List.mem_of_getElem? (i := 4) rfl))
theorem dX7_letIn_7 : decode cX7_letIn 7 = .ok (.invokevirtual 84, 3) := of_decide_eq_true (List.all_eq_true.mp dA_X7_letIn_0 (7, .invokevirtual 84, 3) (List.mem_of_getElem? (i := 5) rfl))
theorem dX7_letIn_10 : decode cX7_letIn 10 = .ok (.aload_n 1, 1) := of_decide_eq_true (List.all_eq_true.mp dA_X7_letIn_0 (10, .aload_n 1, 1) (List.mem_of_getElem? (i := 6) rfl))
theorem dX7_letIn_11 : decode cX7_letIn 11 = .ok (.aload_n 1, 1) := of_decide_eq_true (List.all_eq_true.mp dA_X7_letIn_0 (11, .aload_n 1, 1) (List.mem_of_getElem? (i := 7) rfl))
theorem dX7_letIn_12 : decode cX7_letIn 12 = .ok (.iload 5, 2) := of_decide_eq_true (List.all_eq_true.mp dA_X7_letIn_0 (12, .iload 5, 2) (List.mem_of_getElem? (i := 8) rfl))
theorem dX7_letIn_14 : decode cX7_letIn 14 = .ok (.invokevirtual 85, 3) := of_decide_eq_true (List.all_eq_true.mp dA_X7_letIn_0 (14, .invokevirtual 85, 3) (List.mem_of_getElem? (i := 9) rfl))
theorem dX7_letIn_17 : decode cX7_letIn 17 = .ok (.iconst 0, 1) := of_decide_eq_true (List.all_eq_true.mp dA_X7_letIn_0 (17, .iconst 0, 1) (List.mem_of_getElem? (i := 10) rfl))
theorem dX7_letIn_18 : decode cX7_letIn 18 = .ok (.invokevirtual 88, 3) := of_decide_eq_true (List.all_eq_true.mp dA_X7_letIn_0 (18, .invokevirtual 88, 3) (List.mem_of_getElem? (i := 11) rfl))
theorem dX7_letIn_21 : decode cX7_letIn 21 = .ok (.if_icmp .gt 7, 3) := of_decide_eq_true (List.all_eq_true.mp dA_X7_letIn_0 (21, .if_icmp .gt 7, 3) (List.mem_of_getElem? (i := 12) rfl))
theorem dX7_letIn_24 : decode cX7_letIn 24 = .ok (.iconst 1, 1) := of_decide_eq_true (List.all_eq_true.mp dA_X7_letIn_0 (24, .iconst 1, 1) (List.mem_of_getElem? (i := 13) rfl))
theorem dX7_letIn_25 : decode cX7_letIn 25 = .ok (.goto 4, 3) := of_decide_eq_true (List.all_eq_true.mp dA_X7_letIn_0 (25, .goto 4, 3) (List.mem_of_getElem? (i := 14) rfl))
theorem dX7_letIn_28 : decode cX7_letIn 28 = .ok (.iconst 0, 1) := of_decide_eq_true (List.all_eq_true.mp dA_X7_letIn_0 (28, .iconst 0, 1) (List.mem_of_getElem? (i := 15) rfl))
theorem dX7_letIn_29 : decode cX7_letIn 29 = .ok (.ireturn, 1) := of_decide_eq_true (List.all_eq_true.mp dA_X7_letIn_0 (29, .ireturn, 1) (List.mem_of_getElem? (i := 16) rfl))
set_option maxRecDepth 20000 in
theorem ggX7_fitsSights_X5_cell : GoodIn wsX7_fitsSights wsX5_cell := goodIn_r _ [5, 6, 7, 8, 49, 50, 51, 52] (by decide +kernel) (by decide +kernel)
set_option maxRecDepth 20000 in
theorem gX7_fitsSights_X5_cell : GoodIn wsX7_fitsSights (wsV RX7 55 RX5 yX5_cell wsX5_cell) := goodIn_app (goodIn_of _ (by decide +kernel)) ggX7_fitsSights_X5_cell
set_option maxRecDepth 20000 in
theorem ggX7_fitsSights_X7_letIn : GoodIn wsX7_fitsSights wsX7_letIn := goodIn_r _ [13, 14, 15, 16, 17, 18, 19, 20, 2, 3, 4, 5, 6, 7, 8, 21, 22, 23, 24, 25, 26, 27, 28, 29, 30, 31, 32, 33, 34, 35, 36, 37, 38, 39, 40, 41, 42, 43, 44, 45, 46, 47, 48, 49, 50, 51, 52] (by decide +kernel) (by decide +kernel)
set_option maxRecDepth 20000 in
theorem gX7_fitsSights_X7_letIn : GoodIn wsX7_fitsSights (wsV RX7 97 RX7 yX7_letIn wsX7_letIn) := goodIn_app (goodIn_of _ (by decide +kernel)) ggX7_fitsSights_X7_letIn
set_option maxRecDepth 20000 in
theorem dA_X7_fitsSights_0 : (([(0, .aload_n 1, 1), (1, .getfield 90, 3), (4, .astore 4, 2), (6, .iconst 0, 1), (7, .istore 5, 2), (9, .iload 5, 2), (11, .aload 4, 2), (13, .getfield 93, 3), (16, .if_icmp .ge 73, 3), (19, .aload 4, 2), (21, .iload 5, 2), (23, .iconst 0, 1), (24, .invokevirtual 55, 3), (27, .iload_n 2, 1), (28, .if_icmp .eq 6, 3), (31, .goto 52, 3), (34, .aload_n 0, 1), (35, .aload_n 1, 1), (36, .iload_n 2, 1), (37, .aload 4, 2), (39, .iload 5, 2), (41, .iconst 1, 1), (42, .invokevirtual 55, 3), (45, .iload_n 3, 1), (46, .aload 4, 2), (48, .iload 5, 2), (50, .iconst 2, 1), (51, .invokevirtual 55, 3), (54, .invokevirtual 97, 3), (57, .istore 6, 2), (59, .iload 6, 2), (61, .aload 4, 2), (63, .iload 5, 2), (65, .iconst 3, 1), (66, .invokevirtual 55, 3), (69, .iconst 1, 1), (70, .if_icmp .ne 7, 3), (73, .iconst 1, 1), (74, .goto 4, 3), (77, .iconst 0, 1)] : List (Nat × Instr × Nat)).all fun q => decide (decode cX7_fitsSights q.1 = .ok (q.2.1, q.2.2))) = true := by decide +kernel
theorem dX7_fitsSights_0 : decode cX7_fitsSights 0 = .ok (.aload_n 1, 1) := of_decide_eq_true (List.all_eq_true.mp dA_X7_fitsSights_0 (0, .aload_n 1, 1) (List.mem_of_getElem? (i := 0) rfl))
theorem dX7_fitsSights_1 : decode cX7_fitsSights 1 = .ok (.getfield 90, 3) := of_decide_eq_true (List.all_eq_true.mp dA_X7_fitsSights_0 (1, .getfield 90, 3) (List.mem_of_getElem? (i := 1) rfl))
theorem dX7_fitsSights_4 : decode cX7_fitsSights 4 = .ok (.astore 4, 2) := of_decide_eq_true (List.all_eq_true.mp dA_X7_fitsSights_0 (4, .astore 4, 2) (List.mem_of_getElem? (i := 2) rfl))
theorem dX7_fitsSights_6 : decode cX7_fitsSights 6 = .ok (.iconst 0, 1) := of_decide_eq_true (List.all_eq_true.mp dA_X7_fitsSights_0 (6, .iconst 0, 1) (List.mem_of_getElem? (i := 3) rfl))
theorem dX7_fitsSights_7 : decode cX7_fitsSights 7 = .ok (.istore 5, 2) := of_decide_eq_true (List.all_eq_true.mp dA_X7_fitsSights_0 (7, .istore 5, 2) (List.mem_of_getElem? (i := 4) rfl))
theorem dX7_fitsSights_9 : decode cX7_fitsSights 9 = .ok (.iload 5, 2) := of_decide_eq_true (List.all_eq_true.mp dA_X7_fitsSights_0 (9, .iload 5, 2) (List.mem_of_getElem? (i := 5) rfl))
theorem dX7_fitsSights_11 : decode cX7_fitsSights 11 = .ok (.aload 4, 2) := of_decide_eq_true (List.all_eq_true.mp dA_X7_fitsSights_0 (11, .aload 4, 2) (List.mem_of_getElem? (i := 6) rfl))
theorem dX7_fitsSights_13 : decode cX7_fitsSights 13 = .ok (.getfield 93, 3) := of_decide_eq_true (List.all_eq_true.mp dA_X7_fitsSights_0 (13, .getfield 93, 3) (List.mem_of_getElem? (i := 7) rfl))
theorem dX7_fitsSights_16 : decode cX7_fitsSights 16 = .ok (.if_icmp .ge 73, 3) := of_decide_eq_true (List.all_eq_true.mp dA_X7_fitsSights_0 (16, .if_icmp .ge 73, 3) (List.mem_of_getElem? (i := 8) rfl))
theorem dX7_fitsSights_19 : decode cX7_fitsSights 19 = .ok (.aload 4, 2) := of_decide_eq_true (List.all_eq_true.mp dA_X7_fitsSights_0 (19, .aload 4, 2) (List.mem_of_getElem? (i := 9) rfl))
theorem dX7_fitsSights_21 : decode cX7_fitsSights 21 = .ok (.iload 5, 2) := of_decide_eq_true (List.all_eq_true.mp dA_X7_fitsSights_0 (21, .iload 5, 2) (List.mem_of_getElem? (i := 10) rfl))
theorem dX7_fitsSights_23 : decode cX7_fitsSights 23 = .ok (.iconst 0, 1) := of_decide_eq_true (List.all_eq_true.mp dA_X7_fitsSights_0 (23, .iconst 0, 1) (List.mem_of_getElem? (i := 11) rfl))
theorem dX7_fitsSights_24 : decode cX7_fitsSights 24 = .ok (.invokevirtual 55, 3) := of_decide_eq_true (List.all_eq_true.mp dA_X7_fitsSights_0 (24, .invokevirtual 55, 3) (List.mem_of_getElem? (i := 12) rfl))
theorem dX7_fitsSights_27 : decode cX7_fitsSights 27 = .ok (.iload_n 2, 1) := of_decide_eq_true (List.all_eq_true.mp dA_X7_fitsSights_0 (27, .iload_n 2, 1) (List.mem_of_getElem? (i := 13) rfl))
theorem dX7_fitsSights_28 : decode cX7_fitsSights 28 = .ok (.if_icmp .eq 6, 3) := of_decide_eq_true (List.all_eq_true.mp dA_X7_fitsSights_0 (28, .if_icmp .eq 6, 3) (List.mem_of_getElem? (i := 14) rfl))
theorem dX7_fitsSights_31 : decode cX7_fitsSights 31 = .ok (.goto 52, 3) := of_decide_eq_true (List.all_eq_true.mp dA_X7_fitsSights_0 (31, .goto 52, 3) (List.mem_of_getElem? (i := 15) rfl))
theorem dX7_fitsSights_34 : decode cX7_fitsSights 34 = .ok (.aload_n 0, 1) := of_decide_eq_true (List.all_eq_true.mp dA_X7_fitsSights_0 (34, .aload_n 0, 1) (List.mem_of_getElem? (i := 16) rfl))
theorem dX7_fitsSights_35 : decode cX7_fitsSights 35 = .ok (.aload_n 1, 1) := of_decide_eq_true (List.all_eq_true.mp dA_X7_fitsSights_0 (35, .aload_n 1, 1) (List.mem_of_getElem? (i := 17) rfl))
theorem dX7_fitsSights_36 : decode cX7_fitsSights 36 = .ok (.iload_n 2, 1) := of_decide_eq_true (List.all_eq_true.mp dA_X7_fitsSights_0 (36, .iload_n 2, 1) (List.mem_of_getElem? (i := 18) rfl))
theorem dX7_fitsSights_37 : decode cX7_fitsSights 37 = .ok (.aload 4, 2) := of_decide_eq_true (List.all_eq_true.mp dA_X7_fitsSights_0 (37, .aload 4, 2) (List.mem_of_getElem? (i := 19) rfl))
theorem dX7_fitsSights_39 : decode cX7_fitsSights 39 = .ok (.iload 5, 2) := of_decide_eq_true (List.all_eq_true.mp dA_X7_fitsSights_0 (39, .iload 5, 2) (List.mem_of_getElem? (i := 20) rfl))
theorem dX7_fitsSights_41 : decode cX7_fitsSights 41 = .ok (.iconst 1, 1) := of_decide_eq_true (List.all_eq_true.mp dA_X7_fitsSights_0 (41, .iconst 1, 1) (List.mem_of_getElem? (i := 21) rfl))
theorem dX7_fitsSights_42 : decode cX7_fitsSights 42 = .ok (.invokevirtual 55, 3) := of_decide_eq_true (List.all_eq_true.mp dA_X7_fitsSights_0 (42, .invokevirtual 55, 3) (List.mem_of_getElem? (i := 22) rfl))
theorem dX7_fitsSights_45 : decode cX7_fitsSights 45 = .ok (.iload_n 3, 1) := of_decide_eq_true (List.all_eq_true.mp dA_X7_fitsSights_0 (45, .iload_n 3, 1) (List.mem_of_getElem? (i := 23) rfl))
theorem dX7_fitsSights_46 : decode cX7_fitsSights 46 = .ok (.aload 4, 2) := of_decide_eq_true (List.all_eq_true.mp dA_X7_fitsSights_0 (46, .aload 4, 2) (List.mem_of_getElem? (i := 24) rfl))
theorem dX7_fitsSights_48 : decode cX7_fitsSights 48 = .ok (.iload 5, 2) := of_decide_eq_true (List.all_eq_true.mp dA_X7_fitsSights_0 (48, .iload 5, 2) (List.mem_of_getElem? (i := 25) rfl))
theorem dX7_fitsSights_50 : decode cX7_fitsSights 50 = .ok (.iconst 2, 1) := of_decide_eq_true (List.all_eq_true.mp dA_X7_fitsSights_0 (50, .iconst 2, 1) (List.mem_of_getElem? (i := 26) rfl))
theorem dX7_fitsSights_51 : decode cX7_fitsSights 51 = .ok (.invokevirtual 55, 3) := of_decide_eq_true (List.all_eq_true.mp dA_X7_fitsSights_0 (51, .invokevirtual 55, 3) (List.mem_of_getElem? (i := 27) rfl))
theorem dX7_fitsSights_54 : decode cX7_fitsSights 54 = .ok (.invokevirtual 97, 3) := of_decide_eq_true (List.all_eq_true.mp dA_X7_fitsSights_0 (54, .invokevirtual 97, 3) (List.mem_of_getElem? (i := 28) rfl))
theorem dX7_fitsSights_57 : decode cX7_fitsSights 57 = .ok (.istore 6, 2) := of_decide_eq_true (List.all_eq_true.mp dA_X7_fitsSights_0 (57, .istore 6, 2) (List.mem_of_getElem? (i := 29) rfl))
theorem dX7_fitsSights_59 : decode cX7_fitsSights 59 = .ok (.iload 6, 2) := of_decide_eq_true (List.all_eq_true.mp dA_X7_fitsSights_0 (59, .iload 6, 2) (List.mem_of_getElem? (i := 30) rfl))
theorem dX7_fitsSights_61 : decode cX7_fitsSights 61 = .ok (.aload 4, 2) := of_decide_eq_true (List.all_eq_true.mp dA_X7_fitsSights_0 (61, .aload 4, 2) (List.mem_of_getElem? (i := 31) rfl))
theorem dX7_fitsSights_63 : decode cX7_fitsSights 63 = .ok (.iload 5, 2) := of_decide_eq_true (List.all_eq_true.mp dA_X7_fitsSights_0 (63, .iload 5, 2) (List.mem_of_getElem? (i := 32) rfl))
theorem dX7_fitsSights_65 : decode cX7_fitsSights 65 = .ok (.iconst 3, 1) := of_decide_eq_true (List.all_eq_true.mp dA_X7_fitsSights_0 (65, .iconst 3, 1) (List.mem_of_getElem? (i := 33) rfl))
theorem dX7_fitsSights_66 : decode cX7_fitsSights 66 = .ok (.invokevirtual 55, 3) := of_decide_eq_true (List.all_eq_true.mp dA_X7_fitsSights_0 (66, .invokevirtual 55, 3) (List.mem_of_getElem? (i := 34) rfl))
theorem dX7_fitsSights_69 : decode cX7_fitsSights 69 = .ok (.iconst 1, 1) := of_decide_eq_true (List.all_eq_true.mp dA_X7_fitsSights_0 (69, .iconst 1, 1) (List.mem_of_getElem? (i := 35) rfl))
theorem dX7_fitsSights_70 : decode cX7_fitsSights 70 = .ok (.if_icmp .ne 7, 3) := of_decide_eq_true (List.all_eq_true.mp dA_X7_fitsSights_0 (70, .if_icmp .ne 7, 3) (List.mem_of_getElem? (i := 36) rfl))
theorem dX7_fitsSights_73 : decode cX7_fitsSights 73 = .ok (.iconst 1, 1) := of_decide_eq_true (List.all_eq_true.mp dA_X7_fitsSights_0 (73, .iconst 1, 1) (List.mem_of_getElem? (i := 37) rfl))
theorem dX7_fitsSights_74 : decode cX7_fitsSights 74 = .ok (.goto 4, 3) := of_decide_eq_true (List.all_eq_true.mp dA_X7_fitsSights_0 (74, .goto 4, 3) (List.mem_of_getElem? (i := 38) rfl))
theorem dX7_fitsSights_77 : decode cX7_fitsSights 77 = .ok (.iconst 0, 1) := of_decide_eq_true (List.all_eq_true.mp dA_X7_fitsSights_0 (77, .iconst 0, 1) (List.mem_of_getElem? (i := 39) rfl))
set_option maxRecDepth 20000 in
theorem dA_X7_fitsSights_78 : (([(78, .if_icmp .eq 5, 3), (81, .iconst 0, 1), (82, .ireturn, 1), (83, .iinc 5 1, 3), (86, .goto (-77), 3), (89, .iconst 1, 1), (90, .ireturn, 1)] : List (Nat × Instr × Nat)).all fun q => decide (decode cX7_fitsSights q.1 = .ok (q.2.1, q.2.2))) = true := by decide +kernel
theorem dX7_fitsSights_78 : decode cX7_fitsSights 78 = .ok (.if_icmp .eq 5, 3) := of_decide_eq_true (List.all_eq_true.mp dA_X7_fitsSights_78 (78, .if_icmp .eq 5, 3) (List.mem_of_getElem? (i := 0) rfl))
theorem dX7_fitsSights_81 : decode cX7_fitsSights 81 = .ok (.iconst 0, 1) := of_decide_eq_true (List.all_eq_true.mp dA_X7_fitsSights_78 (81, .iconst 0, 1) (List.mem_of_getElem? (i := 1) rfl))
theorem dX7_fitsSights_82 : decode cX7_fitsSights 82 = .ok (.ireturn, 1) := of_decide_eq_true (List.all_eq_true.mp dA_X7_fitsSights_78 (82, .ireturn, 1) (List.mem_of_getElem? (i := 2) rfl))
theorem dX7_fitsSights_83 : decode cX7_fitsSights 83 = .ok (.iinc 5 1, 3) := of_decide_eq_true (List.all_eq_true.mp dA_X7_fitsSights_78 (83, .iinc 5 1, 3) (List.mem_of_getElem? (i := 3) rfl))
theorem dX7_fitsSights_86 : decode cX7_fitsSights 86 = .ok (.goto (-77), 3) := of_decide_eq_true (List.all_eq_true.mp dA_X7_fitsSights_78 (86, .goto (-77), 3) (List.mem_of_getElem? (i := 4) rfl))
theorem dX7_fitsSights_89 : decode cX7_fitsSights 89 = .ok (.iconst 1, 1) := of_decide_eq_true (List.all_eq_true.mp dA_X7_fitsSights_78 (89, .iconst 1, 1) (List.mem_of_getElem? (i := 5) rfl))
theorem dX7_fitsSights_90 : decode cX7_fitsSights 90 = .ok (.ireturn, 1) := of_decide_eq_true (List.all_eq_true.mp dA_X7_fitsSights_78 (90, .ireturn, 1) (List.mem_of_getElem? (i := 6) rfl))
set_option maxRecDepth 20000 in
theorem ggX7_howManyLetIn_X7_letIn : GoodIn wsX7_howManyLetIn wsX7_letIn := goodIn_r _ [5, 6, 7, 8, 9, 10, 11, 12, 13, 14, 15, 16, 17, 18, 19, 20, 21, 22, 23, 24, 25, 26, 27, 28, 29, 30, 31, 32, 33, 34, 35, 36, 37, 38, 39, 40, 41, 42, 43, 44, 45, 46, 47, 48, 49, 50, 51] (by decide +kernel) (by decide +kernel)
set_option maxRecDepth 20000 in
theorem gX7_howManyLetIn_X7_letIn : GoodIn wsX7_howManyLetIn (wsV RX7 97 RX7 yX7_letIn wsX7_letIn) := goodIn_app (goodIn_of _ (by decide +kernel)) ggX7_howManyLetIn_X7_letIn
set_option maxRecDepth 20000 in
theorem dA_X7_howManyLetIn_0 : (([(0, .iconst 0, 1), (1, .istore 6, 2), (3, .iconst 0, 1), (4, .istore 7, 2), (6, .iload 7, 2), (8, .bipush 30, 2), (10, .if_icmp .gt 37, 3), (13, .iload 5, 2), (15, .iload 7, 2), (17, .ishr, 1), (18, .iconst 1, 1), (19, .iand, 1), (20, .iconst 1, 1), (21, .if_icmp .ne 20, 3), (24, .aload_n 0, 1), (25, .aload_n 1, 1), (26, .iload_n 2, 1), (27, .iload_n 3, 1), (28, .iload 7, 2), (30, .iload 4, 2), (32, .invokevirtual 97, 3), (35, .ifCond .eq 6, 3), (38, .iinc 6 1, 3), (41, .iinc 7 1, 3), (44, .goto (-38), 3), (47, .iload 6, 2), (49, .ireturn, 1)] : List (Nat × Instr × Nat)).all fun q => decide (decode cX7_howManyLetIn q.1 = .ok (q.2.1, q.2.2))) = true := by decide +kernel
theorem dX7_howManyLetIn_0 : decode cX7_howManyLetIn 0 = .ok (.iconst 0, 1) := of_decide_eq_true (List.all_eq_true.mp dA_X7_howManyLetIn_0 (0, .iconst 0, 1) (List.mem_of_getElem? (i := 0) rfl))
theorem dX7_howManyLetIn_1 : decode cX7_howManyLetIn 1 = .ok (.istore 6, 2) := of_decide_eq_true (List.all_eq_true.mp dA_X7_howManyLetIn_0 (1, .istore 6, 2) (List.mem_of_getElem? (i := 1) rfl))
theorem dX7_howManyLetIn_3 : decode cX7_howManyLetIn 3 = .ok (.iconst 0, 1) := of_decide_eq_true (List.all_eq_true.mp dA_X7_howManyLetIn_0 (3, .iconst 0, 1) (List.mem_of_getElem? (i := 2) rfl))
theorem dX7_howManyLetIn_4 : decode cX7_howManyLetIn 4 = .ok (.istore 7, 2) := of_decide_eq_true (List.all_eq_true.mp dA_X7_howManyLetIn_0 (4, .istore 7, 2) (List.mem_of_getElem? (i := 3) rfl))
theorem dX7_howManyLetIn_6 : decode cX7_howManyLetIn 6 = .ok (.iload 7, 2) := of_decide_eq_true (List.all_eq_true.mp dA_X7_howManyLetIn_0 (6, .iload 7, 2) (List.mem_of_getElem? (i := 4) rfl))
theorem dX7_howManyLetIn_8 : decode cX7_howManyLetIn 8 = .ok (.bipush 30, 2) := of_decide_eq_true (List.all_eq_true.mp dA_X7_howManyLetIn_0 (8, .bipush 30, 2) (List.mem_of_getElem? (i := 5) rfl))
theorem dX7_howManyLetIn_10 : decode cX7_howManyLetIn 10 = .ok (.if_icmp .gt 37, 3) := of_decide_eq_true (List.all_eq_true.mp dA_X7_howManyLetIn_0 (10, .if_icmp .gt 37, 3) (List.mem_of_getElem? (i := 6) rfl))
theorem dX7_howManyLetIn_13 : decode cX7_howManyLetIn 13 = .ok (.iload 5, 2) := of_decide_eq_true (List.all_eq_true.mp dA_X7_howManyLetIn_0 (13, .iload 5, 2) (List.mem_of_getElem? (i := 7) rfl))
theorem dX7_howManyLetIn_15 : decode cX7_howManyLetIn 15 = .ok (.iload 7, 2) := of_decide_eq_true (List.all_eq_true.mp dA_X7_howManyLetIn_0 (15, .iload 7, 2) (List.mem_of_getElem? (i := 8) rfl))
theorem dX7_howManyLetIn_17 : decode cX7_howManyLetIn 17 = .ok (.ishr, 1) := of_decide_eq_true (List.all_eq_true.mp dA_X7_howManyLetIn_0 (17, .ishr, 1) (List.mem_of_getElem? (i := 9) rfl))
theorem dX7_howManyLetIn_18 : decode cX7_howManyLetIn 18 = .ok (.iconst 1, 1) := of_decide_eq_true (List.all_eq_true.mp dA_X7_howManyLetIn_0 (18, .iconst 1, 1) (List.mem_of_getElem? (i := 10) rfl))
theorem dX7_howManyLetIn_19 : decode cX7_howManyLetIn 19 = .ok (.iand, 1) := of_decide_eq_true (List.all_eq_true.mp dA_X7_howManyLetIn_0 (19, .iand, 1) (List.mem_of_getElem? (i := 11) rfl))
theorem dX7_howManyLetIn_20 : decode cX7_howManyLetIn 20 = .ok (.iconst 1, 1) := of_decide_eq_true (List.all_eq_true.mp dA_X7_howManyLetIn_0 (20, .iconst 1, 1) (List.mem_of_getElem? (i := 12) rfl))
theorem dX7_howManyLetIn_21 : decode cX7_howManyLetIn 21 = .ok (.if_icmp .ne 20, 3) := of_decide_eq_true (List.all_eq_true.mp dA_X7_howManyLetIn_0 (21, .if_icmp .ne 20, 3) (List.mem_of_getElem? (i := 13) rfl))
theorem dX7_howManyLetIn_24 : decode cX7_howManyLetIn 24 = .ok (.aload_n 0, 1) := of_decide_eq_true (List.all_eq_true.mp dA_X7_howManyLetIn_0 (24, .aload_n 0, 1) (List.mem_of_getElem? (i := 14) rfl))
theorem dX7_howManyLetIn_25 : decode cX7_howManyLetIn 25 = .ok (.aload_n 1, 1) := of_decide_eq_true (List.all_eq_true.mp dA_X7_howManyLetIn_0 (25, .aload_n 1, 1) (List.mem_of_getElem? (i := 15) rfl))
theorem dX7_howManyLetIn_26 : decode cX7_howManyLetIn 26 = .ok (.iload_n 2, 1) := of_decide_eq_true (List.all_eq_true.mp dA_X7_howManyLetIn_0 (26, .iload_n 2, 1) (List.mem_of_getElem? (i := 16) rfl))
theorem dX7_howManyLetIn_27 : decode cX7_howManyLetIn 27 = .ok (.iload_n 3, 1) := of_decide_eq_true (List.all_eq_true.mp dA_X7_howManyLetIn_0 (27, .iload_n 3, 1) (List.mem_of_getElem? (i := 17) rfl))
theorem dX7_howManyLetIn_28 : decode cX7_howManyLetIn 28 = .ok (.iload 7, 2) := of_decide_eq_true (List.all_eq_true.mp dA_X7_howManyLetIn_0 (28, .iload 7, 2) (List.mem_of_getElem? (i := 18) rfl))
theorem dX7_howManyLetIn_30 : decode cX7_howManyLetIn 30 = .ok (.iload 4, 2) := of_decide_eq_true (List.all_eq_true.mp dA_X7_howManyLetIn_0 (30, .iload 4, 2) (List.mem_of_getElem? (i := 19) rfl))
theorem dX7_howManyLetIn_32 : decode cX7_howManyLetIn 32 = .ok (.invokevirtual 97, 3) := of_decide_eq_true (List.all_eq_true.mp dA_X7_howManyLetIn_0 (32, .invokevirtual 97, 3) (List.mem_of_getElem? (i := 20) rfl))
theorem dX7_howManyLetIn_35 : decode cX7_howManyLetIn 35 = .ok (.ifCond .eq 6, 3) := of_decide_eq_true (List.all_eq_true.mp dA_X7_howManyLetIn_0 (35, .ifCond .eq 6, 3) (List.mem_of_getElem? (i := 21) rfl))
theorem dX7_howManyLetIn_38 : decode cX7_howManyLetIn 38 = .ok (.iinc 6 1, 3) := of_decide_eq_true (List.all_eq_true.mp dA_X7_howManyLetIn_0 (38, .iinc 6 1, 3) (List.mem_of_getElem? (i := 22) rfl))
theorem dX7_howManyLetIn_41 : decode cX7_howManyLetIn 41 = .ok (.iinc 7 1, 3) := of_decide_eq_true (List.all_eq_true.mp dA_X7_howManyLetIn_0 (41, .iinc 7 1, 3) (List.mem_of_getElem? (i := 23) rfl))
theorem dX7_howManyLetIn_44 : decode cX7_howManyLetIn 44 = .ok (.goto (-38), 3) := of_decide_eq_true (List.all_eq_true.mp dA_X7_howManyLetIn_0 (44, .goto (-38), 3) (List.mem_of_getElem? (i := 24) rfl))
theorem dX7_howManyLetIn_47 : decode cX7_howManyLetIn 47 = .ok (.iload 6, 2) := of_decide_eq_true (List.all_eq_true.mp dA_X7_howManyLetIn_0 (47, .iload 6, 2) (List.mem_of_getElem? (i := 25) rfl))
theorem dX7_howManyLetIn_49 : decode cX7_howManyLetIn 49 = .ok (.ireturn, 1) := of_decide_eq_true (List.all_eq_true.mp dA_X7_howManyLetIn_0 (49, .ireturn, 1) (List.mem_of_getElem? (i := 26) rfl))
set_option maxRecDepth 20000 in
theorem ggX7_fitsRemarks_X5_cell : GoodIn wsX7_fitsRemarks wsX5_cell := goodIn_r _ [5, 6, 7, 8, 13, 14, 15, 16] (by decide +kernel) (by decide +kernel)
set_option maxRecDepth 20000 in
theorem gX7_fitsRemarks_X5_cell : GoodIn wsX7_fitsRemarks (wsV RX7 55 RX5 yX5_cell wsX5_cell) := goodIn_app (goodIn_of _ (by decide +kernel)) ggX7_fitsRemarks_X5_cell
set_option maxRecDepth 20000 in
theorem ggX7_fitsRemarks_X2_likely : GoodIn wsX7_fitsRemarks wsX2_likely := goodIn_r _ [12] (by decide +kernel) (by decide +kernel)
set_option maxRecDepth 20000 in
theorem gX7_fitsRemarks_X2_likely : GoodIn wsX7_fitsRemarks (va_wsS RX7 60 yX2_likely wsX2_likely) := goodIn_app (goodIn_of _ (by decide +kernel)) ggX7_fitsRemarks_X2_likely
set_option maxRecDepth 20000 in
theorem dA_X7_fitsRemarks_0 : (([(0, .iconst 0, 1), (1, .istore 4, 2), (3, .iload 4, 2), (5, .aload_n 1, 1), (6, .getfield 93, 3), (9, .if_icmp .ge 72, 3), (12, .aload_n 1, 1), (13, .iload 4, 2), (15, .iconst 0, 1), (16, .invokevirtual 55, 3), (19, .iload_n 2, 1), (20, .if_icmp .eq 6, 3), (23, .goto 52, 3), (26, .aload_n 1, 1), (27, .iload 4, 2), (29, .iconst 1, 1), (30, .invokevirtual 55, 3), (33, .istore 5, 2), (35, .aload_n 1, 1), (36, .iload 4, 2), (38, .iconst 2, 1), (39, .invokevirtual 55, 3), (42, .istore 6, 2), (44, .aload_n 1, 1), (45, .iload 4, 2), (47, .iconst 3, 1), (48, .invokevirtual 55, 3), (51, .istore 7, 2), (53, .iload_n 3, 1), (54, .iload 5, 2), (56, .iload 6, 2), (58, .iload 7, 2), (60, .invokestatic 60, 3), (63, .aload_n 1, 1), (64, .iload 4, 2), (66, .iconst 4, 1), (67, .invokevirtual 55, 3), (70, .if_icmp .eq 5, 3), (73, .iconst 0, 1), (74, .ireturn, 1)] : List (Nat × Instr × Nat)).all fun q => decide (decode cX7_fitsRemarks q.1 = .ok (q.2.1, q.2.2))) = true := by decide +kernel
theorem dX7_fitsRemarks_0 : decode cX7_fitsRemarks 0 = .ok (.iconst 0, 1) := of_decide_eq_true (List.all_eq_true.mp dA_X7_fitsRemarks_0 (0, .iconst 0, 1) (List.mem_of_getElem? (i := 0) rfl))
theorem dX7_fitsRemarks_1 : decode cX7_fitsRemarks 1 = .ok (.istore 4, 2) := of_decide_eq_true (List.all_eq_true.mp dA_X7_fitsRemarks_0 (1, .istore 4, 2) (List.mem_of_getElem? (i := 1) rfl))
theorem dX7_fitsRemarks_3 : decode cX7_fitsRemarks 3 = .ok (.iload 4, 2) := of_decide_eq_true (List.all_eq_true.mp dA_X7_fitsRemarks_0 (3, .iload 4, 2) (List.mem_of_getElem? (i := 2) rfl))
theorem dX7_fitsRemarks_5 : decode cX7_fitsRemarks 5 = .ok (.aload_n 1, 1) := of_decide_eq_true (List.all_eq_true.mp dA_X7_fitsRemarks_0 (5, .aload_n 1, 1) (List.mem_of_getElem? (i := 3) rfl))
theorem dX7_fitsRemarks_6 : decode cX7_fitsRemarks 6 = .ok (.getfield 93, 3) := of_decide_eq_true (List.all_eq_true.mp dA_X7_fitsRemarks_0 (6, .getfield 93, 3) (List.mem_of_getElem? (i := 4) rfl))
theorem dX7_fitsRemarks_9 : decode cX7_fitsRemarks 9 = .ok (.if_icmp .ge 72, 3) := of_decide_eq_true (List.all_eq_true.mp dA_X7_fitsRemarks_0 (9, .if_icmp .ge 72, 3) (List.mem_of_getElem? (i := 5) rfl))
theorem dX7_fitsRemarks_12 : decode cX7_fitsRemarks 12 = .ok (.aload_n 1, 1) := of_decide_eq_true (List.all_eq_true.mp dA_X7_fitsRemarks_0 (12, .aload_n 1, 1) (List.mem_of_getElem? (i := 6) rfl))
theorem dX7_fitsRemarks_13 : decode cX7_fitsRemarks 13 = .ok (.iload 4, 2) := of_decide_eq_true (List.all_eq_true.mp dA_X7_fitsRemarks_0 (13, .iload 4, 2) (List.mem_of_getElem? (i := 7) rfl))
theorem dX7_fitsRemarks_15 : decode cX7_fitsRemarks 15 = .ok (.iconst 0, 1) := of_decide_eq_true (List.all_eq_true.mp dA_X7_fitsRemarks_0 (15, .iconst 0, 1) (List.mem_of_getElem? (i := 8) rfl))
theorem dX7_fitsRemarks_16 : decode cX7_fitsRemarks 16 = .ok (.invokevirtual 55, 3) := of_decide_eq_true (List.all_eq_true.mp dA_X7_fitsRemarks_0 (16, .invokevirtual 55, 3) (List.mem_of_getElem? (i := 9) rfl))
theorem dX7_fitsRemarks_19 : decode cX7_fitsRemarks 19 = .ok (.iload_n 2, 1) := of_decide_eq_true (List.all_eq_true.mp dA_X7_fitsRemarks_0 (19, .iload_n 2, 1) (List.mem_of_getElem? (i := 10) rfl))
theorem dX7_fitsRemarks_20 : decode cX7_fitsRemarks 20 = .ok (.if_icmp .eq 6, 3) := of_decide_eq_true (List.all_eq_true.mp dA_X7_fitsRemarks_0 (20, .if_icmp .eq 6, 3) (List.mem_of_getElem? (i := 11) rfl))
theorem dX7_fitsRemarks_23 : decode cX7_fitsRemarks 23 = .ok (.goto 52, 3) := of_decide_eq_true (List.all_eq_true.mp dA_X7_fitsRemarks_0 (23, .goto 52, 3) (List.mem_of_getElem? (i := 12) rfl))
theorem dX7_fitsRemarks_26 : decode cX7_fitsRemarks 26 = .ok (.aload_n 1, 1) := of_decide_eq_true (List.all_eq_true.mp dA_X7_fitsRemarks_0 (26, .aload_n 1, 1) (List.mem_of_getElem? (i := 13) rfl))
theorem dX7_fitsRemarks_27 : decode cX7_fitsRemarks 27 = .ok (.iload 4, 2) := of_decide_eq_true (List.all_eq_true.mp dA_X7_fitsRemarks_0 (27, .iload 4, 2) (List.mem_of_getElem? (i := 14) rfl))
theorem dX7_fitsRemarks_29 : decode cX7_fitsRemarks 29 = .ok (.iconst 1, 1) := of_decide_eq_true (List.all_eq_true.mp dA_X7_fitsRemarks_0 (29, .iconst 1, 1) (List.mem_of_getElem? (i := 15) rfl))
theorem dX7_fitsRemarks_30 : decode cX7_fitsRemarks 30 = .ok (.invokevirtual 55, 3) := of_decide_eq_true (List.all_eq_true.mp dA_X7_fitsRemarks_0 (30, .invokevirtual 55, 3) (List.mem_of_getElem? (i := 16) rfl))
theorem dX7_fitsRemarks_33 : decode cX7_fitsRemarks 33 = .ok (.istore 5, 2) := of_decide_eq_true (List.all_eq_true.mp dA_X7_fitsRemarks_0 (33, .istore 5, 2) (List.mem_of_getElem? (i := 17) rfl))
theorem dX7_fitsRemarks_35 : decode cX7_fitsRemarks 35 = .ok (.aload_n 1, 1) := of_decide_eq_true (List.all_eq_true.mp dA_X7_fitsRemarks_0 (35, .aload_n 1, 1) (List.mem_of_getElem? (i := 18) rfl))
theorem dX7_fitsRemarks_36 : decode cX7_fitsRemarks 36 = .ok (.iload 4, 2) := of_decide_eq_true (List.all_eq_true.mp dA_X7_fitsRemarks_0 (36, .iload 4, 2) (List.mem_of_getElem? (i := 19) rfl))
theorem dX7_fitsRemarks_38 : decode cX7_fitsRemarks 38 = .ok (.iconst 2, 1) := of_decide_eq_true (List.all_eq_true.mp dA_X7_fitsRemarks_0 (38, .iconst 2, 1) (List.mem_of_getElem? (i := 20) rfl))
theorem dX7_fitsRemarks_39 : decode cX7_fitsRemarks 39 = .ok (.invokevirtual 55, 3) := of_decide_eq_true (List.all_eq_true.mp dA_X7_fitsRemarks_0 (39, .invokevirtual 55, 3) (List.mem_of_getElem? (i := 21) rfl))
theorem dX7_fitsRemarks_42 : decode cX7_fitsRemarks 42 = .ok (.istore 6, 2) := of_decide_eq_true (List.all_eq_true.mp dA_X7_fitsRemarks_0 (42, .istore 6, 2) (List.mem_of_getElem? (i := 22) rfl))
theorem dX7_fitsRemarks_44 : decode cX7_fitsRemarks 44 = .ok (.aload_n 1, 1) := of_decide_eq_true (List.all_eq_true.mp dA_X7_fitsRemarks_0 (44, .aload_n 1, 1) (List.mem_of_getElem? (i := 23) rfl))
theorem dX7_fitsRemarks_45 : decode cX7_fitsRemarks 45 = .ok (.iload 4, 2) := of_decide_eq_true (List.all_eq_true.mp dA_X7_fitsRemarks_0 (45, .iload 4, 2) (List.mem_of_getElem? (i := 24) rfl))
theorem dX7_fitsRemarks_47 : decode cX7_fitsRemarks 47 = .ok (.iconst 3, 1) := of_decide_eq_true (List.all_eq_true.mp dA_X7_fitsRemarks_0 (47, .iconst 3, 1) (List.mem_of_getElem? (i := 25) rfl))
theorem dX7_fitsRemarks_48 : decode cX7_fitsRemarks 48 = .ok (.invokevirtual 55, 3) := of_decide_eq_true (List.all_eq_true.mp dA_X7_fitsRemarks_0 (48, .invokevirtual 55, 3) (List.mem_of_getElem? (i := 26) rfl))
theorem dX7_fitsRemarks_51 : decode cX7_fitsRemarks 51 = .ok (.istore 7, 2) := of_decide_eq_true (List.all_eq_true.mp dA_X7_fitsRemarks_0 (51, .istore 7, 2) (List.mem_of_getElem? (i := 27) rfl))
theorem dX7_fitsRemarks_53 : decode cX7_fitsRemarks 53 = .ok (.iload_n 3, 1) := of_decide_eq_true (List.all_eq_true.mp dA_X7_fitsRemarks_0 (53, .iload_n 3, 1) (List.mem_of_getElem? (i := 28) rfl))
theorem dX7_fitsRemarks_54 : decode cX7_fitsRemarks 54 = .ok (.iload 5, 2) := of_decide_eq_true (List.all_eq_true.mp dA_X7_fitsRemarks_0 (54, .iload 5, 2) (List.mem_of_getElem? (i := 29) rfl))
theorem dX7_fitsRemarks_56 : decode cX7_fitsRemarks 56 = .ok (.iload 6, 2) := of_decide_eq_true (List.all_eq_true.mp dA_X7_fitsRemarks_0 (56, .iload 6, 2) (List.mem_of_getElem? (i := 30) rfl))
theorem dX7_fitsRemarks_58 : decode cX7_fitsRemarks 58 = .ok (.iload 7, 2) := of_decide_eq_true (List.all_eq_true.mp dA_X7_fitsRemarks_0 (58, .iload 7, 2) (List.mem_of_getElem? (i := 31) rfl))
theorem dX7_fitsRemarks_60 : decode cX7_fitsRemarks 60 = .ok (.invokestatic 60, 3) := of_decide_eq_true (List.all_eq_true.mp dA_X7_fitsRemarks_0 (60, .invokestatic 60, 3) (List.mem_of_getElem? (i := 32) rfl))
theorem dX7_fitsRemarks_63 : decode cX7_fitsRemarks 63 = .ok (.aload_n 1, 1) := of_decide_eq_true (List.all_eq_true.mp dA_X7_fitsRemarks_0 (63, .aload_n 1, 1) (List.mem_of_getElem? (i := 33) rfl))
theorem dX7_fitsRemarks_64 : decode cX7_fitsRemarks 64 = .ok (.iload 4, 2) := of_decide_eq_true (List.all_eq_true.mp dA_X7_fitsRemarks_0 (64, .iload 4, 2) (List.mem_of_getElem? (i := 34) rfl))
theorem dX7_fitsRemarks_66 : decode cX7_fitsRemarks 66 = .ok (.iconst 4, 1) := of_decide_eq_true (List.all_eq_true.mp dA_X7_fitsRemarks_0 (66, .iconst 4, 1) (List.mem_of_getElem? (i := 35) rfl))
theorem dX7_fitsRemarks_67 : decode cX7_fitsRemarks 67 = .ok (.invokevirtual 55, 3) := of_decide_eq_true (List.all_eq_true.mp dA_X7_fitsRemarks_0 (67, .invokevirtual 55, 3) (List.mem_of_getElem? (i := 36) rfl))
theorem dX7_fitsRemarks_70 : decode cX7_fitsRemarks 70 = .ok (.if_icmp .eq 5, 3) := of_decide_eq_true (List.all_eq_true.mp dA_X7_fitsRemarks_0 (70, .if_icmp .eq 5, 3) (List.mem_of_getElem? (i := 37) rfl))
theorem dX7_fitsRemarks_73 : decode cX7_fitsRemarks 73 = .ok (.iconst 0, 1) := of_decide_eq_true (List.all_eq_true.mp dA_X7_fitsRemarks_0 (73, .iconst 0, 1) (List.mem_of_getElem? (i := 38) rfl))
theorem dX7_fitsRemarks_74 : decode cX7_fitsRemarks 74 = .ok (.ireturn, 1) := of_decide_eq_true (List.all_eq_true.mp dA_X7_fitsRemarks_0 (74, .ireturn, 1) (List.mem_of_getElem? (i := 39) rfl))
set_option maxRecDepth 20000 in
theorem dA_X7_fitsRemarks_75 : (([(75, .iinc 4 1, 3), (78, .goto (-75), 3), (81, .iconst 1, 1), (82, .ireturn, 1)] : List (Nat × Instr × Nat)).all fun q => decide (decode cX7_fitsRemarks q.1 = .ok (q.2.1, q.2.2))) = true := by decide +kernel
theorem dX7_fitsRemarks_75 : decode cX7_fitsRemarks 75 = .ok (.iinc 4 1, 3) := of_decide_eq_true (List.all_eq_true.mp dA_X7_fitsRemarks_75 (75, .iinc 4 1, 3) (List.mem_of_getElem? (i := 0) rfl))
theorem dX7_fitsRemarks_78 : decode cX7_fitsRemarks 78 = .ok (.goto (-75), 3) := of_decide_eq_true (List.all_eq_true.mp dA_X7_fitsRemarks_75 (78, .goto (-75), 3) (List.mem_of_getElem? (i := 1) rfl))
theorem dX7_fitsRemarks_81 : decode cX7_fitsRemarks 81 = .ok (.iconst 1, 1) := of_decide_eq_true (List.all_eq_true.mp dA_X7_fitsRemarks_75 (81, .iconst 1, 1) (List.mem_of_getElem? (i := 2) rfl))
theorem dX7_fitsRemarks_82 : decode cX7_fitsRemarks 82 = .ok (.ireturn, 1) := of_decide_eq_true (List.all_eq_true.mp dA_X7_fitsRemarks_75 (82, .ireturn, 1) (List.mem_of_getElem? (i := 3) rfl))
set_option maxRecDepth 20000 in
theorem ggX7_fitsMarks_X5_cell : GoodIn wsX7_fitsMarks wsX5_cell := goodIn_r _ [5, 6, 7, 8, 13, 14, 15, 16] (by decide +kernel) (by decide +kernel)
set_option maxRecDepth 20000 in
theorem gX7_fitsMarks_X5_cell : GoodIn wsX7_fitsMarks (wsV RX7 55 RX5 yX5_cell wsX5_cell) := goodIn_app (goodIn_of _ (by decide +kernel)) ggX7_fitsMarks_X5_cell
set_option maxRecDepth 20000 in
theorem ggX7_fitsMarks_X2_letsPass : GoodIn wsX7_fitsMarks wsX2_letsPass := goodIn_r _ [12] (by decide +kernel) (by decide +kernel)
set_option maxRecDepth 20000 in
theorem gX7_fitsMarks_X2_letsPass : GoodIn wsX7_fitsMarks (va_wsS RX7 80 yX2_letsPass wsX2_letsPass) := goodIn_app (goodIn_of _ (by decide +kernel)) ggX7_fitsMarks_X2_letsPass
set_option maxRecDepth 20000 in
theorem dA_X7_fitsMarks_0 : (([(0, .iconst 0, 1), (1, .istore_n 3, 1), (2, .iload_n 3, 1), (3, .aload_n 1, 1), (4, .getfield 93, 3), (7, .if_icmp .ge 44, 3), (10, .aload_n 1, 1), (11, .iload_n 3, 1), (12, .iconst 0, 1), (13, .invokevirtual 55, 3), (16, .istore 4, 2), (18, .aload_n 1, 1), (19, .iload_n 3, 1), (20, .iconst 1, 1), (21, .invokevirtual 55, 3), (24, .istore 5, 2), (26, .iload_n 2, 1), (27, .iload 4, 2), (29, .iload 5, 2), (31, .invokestatic 80, 3), (34, .aload_n 1, 1), (35, .iload_n 3, 1), (36, .iconst 2, 1), (37, .invokevirtual 55, 3), (40, .if_icmp .eq 5, 3), (43, .iconst 0, 1), (44, .ireturn, 1), (45, .iinc 3 1, 3), (48, .goto (-46), 3), (51, .iconst 1, 1), (52, .ireturn, 1)] : List (Nat × Instr × Nat)).all fun q => decide (decode cX7_fitsMarks q.1 = .ok (q.2.1, q.2.2))) = true := by decide +kernel
theorem dX7_fitsMarks_0 : decode cX7_fitsMarks 0 = .ok (.iconst 0, 1) := of_decide_eq_true (List.all_eq_true.mp dA_X7_fitsMarks_0 (0, .iconst 0, 1) (List.mem_of_getElem? (i := 0) rfl))
theorem dX7_fitsMarks_1 : decode cX7_fitsMarks 1 = .ok (.istore_n 3, 1) := of_decide_eq_true (List.all_eq_true.mp dA_X7_fitsMarks_0 (1, .istore_n 3, 1) (List.mem_of_getElem? (i := 1) rfl))
theorem dX7_fitsMarks_2 : decode cX7_fitsMarks 2 = .ok (.iload_n 3, 1) := of_decide_eq_true (List.all_eq_true.mp dA_X7_fitsMarks_0 (2, .iload_n 3, 1) (List.mem_of_getElem? (i := 2) rfl))
theorem dX7_fitsMarks_3 : decode cX7_fitsMarks 3 = .ok (.aload_n 1, 1) := of_decide_eq_true (List.all_eq_true.mp dA_X7_fitsMarks_0 (3, .aload_n 1, 1) (List.mem_of_getElem? (i := 3) rfl))
theorem dX7_fitsMarks_4 : decode cX7_fitsMarks 4 = .ok (.getfield 93, 3) := of_decide_eq_true (List.all_eq_true.mp dA_X7_fitsMarks_0 (4, .getfield 93, 3) (List.mem_of_getElem? (i := 4) rfl))
theorem dX7_fitsMarks_7 : decode cX7_fitsMarks 7 = .ok (.if_icmp .ge 44, 3) := of_decide_eq_true (List.all_eq_true.mp dA_X7_fitsMarks_0 (7, .if_icmp .ge 44, 3) (List.mem_of_getElem? (i := 5) rfl))
theorem dX7_fitsMarks_10 : decode cX7_fitsMarks 10 = .ok (.aload_n 1, 1) := of_decide_eq_true (List.all_eq_true.mp dA_X7_fitsMarks_0 (10, .aload_n 1, 1) (List.mem_of_getElem? (i := 6) rfl))
theorem dX7_fitsMarks_11 : decode cX7_fitsMarks 11 = .ok (.iload_n 3, 1) := of_decide_eq_true (List.all_eq_true.mp dA_X7_fitsMarks_0 (11, .iload_n 3, 1) (List.mem_of_getElem? (i := 7) rfl))
theorem dX7_fitsMarks_12 : decode cX7_fitsMarks 12 = .ok (.iconst 0, 1) := of_decide_eq_true (List.all_eq_true.mp dA_X7_fitsMarks_0 (12, .iconst 0, 1) (List.mem_of_getElem? (i := 8) rfl))
theorem dX7_fitsMarks_13 : decode cX7_fitsMarks 13 = .ok (.invokevirtual 55, 3) := of_decide_eq_true (List.all_eq_true.mp dA_X7_fitsMarks_0 (13, .invokevirtual 55, 3) (List.mem_of_getElem? (i := 9) rfl))
theorem dX7_fitsMarks_16 : decode cX7_fitsMarks 16 = .ok (.istore 4, 2) := of_decide_eq_true (List.all_eq_true.mp dA_X7_fitsMarks_0 (16, .istore 4, 2) (List.mem_of_getElem? (i := 10) rfl))
theorem dX7_fitsMarks_18 : decode cX7_fitsMarks 18 = .ok (.aload_n 1, 1) := of_decide_eq_true (List.all_eq_true.mp dA_X7_fitsMarks_0 (18, .aload_n 1, 1) (List.mem_of_getElem? (i := 11) rfl))
theorem dX7_fitsMarks_19 : decode cX7_fitsMarks 19 = .ok (.iload_n 3, 1) := of_decide_eq_true (List.all_eq_true.mp dA_X7_fitsMarks_0 (19, .iload_n 3, 1) (List.mem_of_getElem? (i := 12) rfl))
theorem dX7_fitsMarks_20 : decode cX7_fitsMarks 20 = .ok (.iconst 1, 1) := of_decide_eq_true (List.all_eq_true.mp dA_X7_fitsMarks_0 (20, .iconst 1, 1) (List.mem_of_getElem? (i := 13) rfl))
theorem dX7_fitsMarks_21 : decode cX7_fitsMarks 21 = .ok (.invokevirtual 55, 3) := of_decide_eq_true (List.all_eq_true.mp dA_X7_fitsMarks_0 (21, .invokevirtual 55, 3) (List.mem_of_getElem? (i := 14) rfl))
theorem dX7_fitsMarks_24 : decode cX7_fitsMarks 24 = .ok (.istore 5, 2) := of_decide_eq_true (List.all_eq_true.mp dA_X7_fitsMarks_0 (24, .istore 5, 2) (List.mem_of_getElem? (i := 15) rfl))
theorem dX7_fitsMarks_26 : decode cX7_fitsMarks 26 = .ok (.iload_n 2, 1) := of_decide_eq_true (List.all_eq_true.mp dA_X7_fitsMarks_0 (26, .iload_n 2, 1) (List.mem_of_getElem? (i := 16) rfl))
theorem dX7_fitsMarks_27 : decode cX7_fitsMarks 27 = .ok (.iload 4, 2) := of_decide_eq_true (List.all_eq_true.mp dA_X7_fitsMarks_0 (27, .iload 4, 2) (List.mem_of_getElem? (i := 17) rfl))
theorem dX7_fitsMarks_29 : decode cX7_fitsMarks 29 = .ok (.iload 5, 2) := of_decide_eq_true (List.all_eq_true.mp dA_X7_fitsMarks_0 (29, .iload 5, 2) (List.mem_of_getElem? (i := 18) rfl))
theorem dX7_fitsMarks_31 : decode cX7_fitsMarks 31 = .ok (.invokestatic 80, 3) := of_decide_eq_true (List.all_eq_true.mp dA_X7_fitsMarks_0 (31, .invokestatic 80, 3) (List.mem_of_getElem? (i := 19) rfl))
theorem dX7_fitsMarks_34 : decode cX7_fitsMarks 34 = .ok (.aload_n 1, 1) := of_decide_eq_true (List.all_eq_true.mp dA_X7_fitsMarks_0 (34, .aload_n 1, 1) (List.mem_of_getElem? (i := 20) rfl))
theorem dX7_fitsMarks_35 : decode cX7_fitsMarks 35 = .ok (.iload_n 3, 1) := of_decide_eq_true (List.all_eq_true.mp dA_X7_fitsMarks_0 (35, .iload_n 3, 1) (List.mem_of_getElem? (i := 21) rfl))
theorem dX7_fitsMarks_36 : decode cX7_fitsMarks 36 = .ok (.iconst 2, 1) := of_decide_eq_true (List.all_eq_true.mp dA_X7_fitsMarks_0 (36, .iconst 2, 1) (List.mem_of_getElem? (i := 22) rfl))
theorem dX7_fitsMarks_37 : decode cX7_fitsMarks 37 = .ok (.invokevirtual 55, 3) := of_decide_eq_true (List.all_eq_true.mp dA_X7_fitsMarks_0 (37, .invokevirtual 55, 3) (List.mem_of_getElem? (i := 23) rfl))
theorem dX7_fitsMarks_40 : decode cX7_fitsMarks 40 = .ok (.if_icmp .eq 5, 3) := of_decide_eq_true (List.all_eq_true.mp dA_X7_fitsMarks_0 (40, .if_icmp .eq 5, 3) (List.mem_of_getElem? (i := 24) rfl))
theorem dX7_fitsMarks_43 : decode cX7_fitsMarks 43 = .ok (.iconst 0, 1) := of_decide_eq_true (List.all_eq_true.mp dA_X7_fitsMarks_0 (43, .iconst 0, 1) (List.mem_of_getElem? (i := 25) rfl))
theorem dX7_fitsMarks_44 : decode cX7_fitsMarks 44 = .ok (.ireturn, 1) := of_decide_eq_true (List.all_eq_true.mp dA_X7_fitsMarks_0 (44, .ireturn, 1) (List.mem_of_getElem? (i := 26) rfl))
theorem dX7_fitsMarks_45 : decode cX7_fitsMarks 45 = .ok (.iinc 3 1, 3) := of_decide_eq_true (List.all_eq_true.mp dA_X7_fitsMarks_0 (45, .iinc 3 1, 3) (List.mem_of_getElem? (i := 27) rfl))
theorem dX7_fitsMarks_48 : decode cX7_fitsMarks 48 = .ok (.goto (-46), 3) := of_decide_eq_true (List.all_eq_true.mp dA_X7_fitsMarks_0 (48, .goto (-46), 3) (List.mem_of_getElem? (i := 28) rfl))
theorem dX7_fitsMarks_51 : decode cX7_fitsMarks 51 = .ok (.iconst 1, 1) := of_decide_eq_true (List.all_eq_true.mp dA_X7_fitsMarks_0 (51, .iconst 1, 1) (List.mem_of_getElem? (i := 29) rfl))
theorem dX7_fitsMarks_52 : decode cX7_fitsMarks 52 = .ok (.ireturn, 1) := of_decide_eq_true (List.all_eq_true.mp dA_X7_fitsMarks_0 (52, .ireturn, 1) (List.mem_of_getElem? (i := 30) rfl))
set_option maxRecDepth 20000 in
theorem dA_X7_mostAlike_0 : (([(0, .iconst 0, 1), (1, .istore_n 2, 1), (2, .iconst 0, 1), (3, .istore_n 3, 1), (4, .iload_n 3, 1), (5, .bipush 6, 2), (7, .if_icmp .ge 80, 3), (10, .iconst 0, 1), (11, .istore 4, 2), (13, .iconst 0, 1), (14, .istore 5, 2), (16, .iload 5, 2), (18, .bipush 6, 2), (20, .if_icmp .ge 54, 3), (23, .iload_n 1, 1), (24, .iload_n 3, 1), (25, .ishr, 1), (26, .iload_n 1, 1), (27, .iload 5, 2), (29, .ishr, 1), (30, .iand, 1), (31, .iconst 1, 1), (32, .iand, 1), (33, .iconst 1, 1), (34, .if_icmp .ne 7, 3), (37, .iconst 1, 1), (38, .goto 4, 3), (41, .iconst 0, 1), (42, .istore 6, 2), (44, .iload 6, 2), (46, .ifCond .eq 22, 3), (49, .aload_n 0, 1), (50, .getfield 9, 3), (53, .iload_n 3, 1), (54, .iaload, 1), (55, .aload_n 0, 1), (56, .getfield 9, 3), (59, .iload 5, 2), (61, .iaload, 1), (62, .if_icmp .ne 6, 3)] : List (Nat × Instr × Nat)).all fun q => decide (decode cX7_mostAlike q.1 = .ok (q.2.1, q.2.2))) = true := by decide +kernel
theorem dX7_mostAlike_0 : decode cX7_mostAlike 0 = .ok (.iconst 0, 1) := of_decide_eq_true (List.all_eq_true.mp dA_X7_mostAlike_0 (0, .iconst 0, 1) (List.mem_of_getElem? (i := 0) rfl))
theorem dX7_mostAlike_1 : decode cX7_mostAlike 1 = .ok (.istore_n 2, 1) := of_decide_eq_true (List.all_eq_true.mp dA_X7_mostAlike_0 (1, .istore_n 2, 1) (List.mem_of_getElem? (i := 1) rfl))
theorem dX7_mostAlike_2 : decode cX7_mostAlike 2 = .ok (.iconst 0, 1) := of_decide_eq_true (List.all_eq_true.mp dA_X7_mostAlike_0 (2, .iconst 0, 1) (List.mem_of_getElem? (i := 2) rfl))
theorem dX7_mostAlike_3 : decode cX7_mostAlike 3 = .ok (.istore_n 3, 1) := of_decide_eq_true (List.all_eq_true.mp dA_X7_mostAlike_0 (3, .istore_n 3, 1) (List.mem_of_getElem? (i := 3) rfl))
theorem dX7_mostAlike_4 : decode cX7_mostAlike 4 = .ok (.iload_n 3, 1) := of_decide_eq_true (List.all_eq_true.mp dA_X7_mostAlike_0 (4, .iload_n 3, 1) (List.mem_of_getElem? (i := 4) rfl))
theorem dX7_mostAlike_5 : decode cX7_mostAlike 5 = .ok (.bipush 6, 2) := of_decide_eq_true (List.all_eq_true.mp dA_X7_mostAlike_0 (5, .bipush 6, 2) (List.mem_of_getElem? (i := 5) rfl))
theorem dX7_mostAlike_7 : decode cX7_mostAlike 7 = .ok (.if_icmp .ge 80, 3) := of_decide_eq_true (List.all_eq_true.mp dA_X7_mostAlike_0 (7, .if_icmp .ge 80, 3) (List.mem_of_getElem? (i := 6) rfl))
theorem dX7_mostAlike_10 : decode cX7_mostAlike 10 = .ok (.iconst 0, 1) := of_decide_eq_true (List.all_eq_true.mp dA_X7_mostAlike_0 (10, .iconst 0, 1) (List.mem_of_getElem? (i := 7) rfl))
theorem dX7_mostAlike_11 : decode cX7_mostAlike 11 = .ok (.istore 4, 2) := of_decide_eq_true (List.all_eq_true.mp dA_X7_mostAlike_0 (11, .istore 4, 2) (List.mem_of_getElem? (i := 8) rfl))
theorem dX7_mostAlike_13 : decode cX7_mostAlike 13 = .ok (.iconst 0, 1) := of_decide_eq_true (List.all_eq_true.mp dA_X7_mostAlike_0 (13, .iconst 0, 1) (List.mem_of_getElem? (i := 9) rfl))
theorem dX7_mostAlike_14 : decode cX7_mostAlike 14 = .ok (.istore 5, 2) := of_decide_eq_true (List.all_eq_true.mp dA_X7_mostAlike_0 (14, .istore 5, 2) (List.mem_of_getElem? (i := 10) rfl))
theorem dX7_mostAlike_16 : decode cX7_mostAlike 16 = .ok (.iload 5, 2) := of_decide_eq_true (List.all_eq_true.mp dA_X7_mostAlike_0 (16, .iload 5, 2) (List.mem_of_getElem? (i := 11) rfl))
theorem dX7_mostAlike_18 : decode cX7_mostAlike 18 = .ok (.bipush 6, 2) := of_decide_eq_true (List.all_eq_true.mp dA_X7_mostAlike_0 (18, .bipush 6, 2) (List.mem_of_getElem? (i := 12) rfl))
theorem dX7_mostAlike_20 : decode cX7_mostAlike 20 = .ok (.if_icmp .ge 54, 3) := of_decide_eq_true (List.all_eq_true.mp dA_X7_mostAlike_0 (20, .if_icmp .ge 54, 3) (List.mem_of_getElem? (i := 13) rfl))
theorem dX7_mostAlike_23 : decode cX7_mostAlike 23 = .ok (.iload_n 1, 1) := of_decide_eq_true (List.all_eq_true.mp dA_X7_mostAlike_0 (23, .iload_n 1, 1) (List.mem_of_getElem? (i := 14) rfl))
theorem dX7_mostAlike_24 : decode cX7_mostAlike 24 = .ok (.iload_n 3, 1) := of_decide_eq_true (List.all_eq_true.mp dA_X7_mostAlike_0 (24, .iload_n 3, 1) (List.mem_of_getElem? (i := 15) rfl))
theorem dX7_mostAlike_25 : decode cX7_mostAlike 25 = .ok (.ishr, 1) := of_decide_eq_true (List.all_eq_true.mp dA_X7_mostAlike_0 (25, .ishr, 1) (List.mem_of_getElem? (i := 16) rfl))
theorem dX7_mostAlike_26 : decode cX7_mostAlike 26 = .ok (.iload_n 1, 1) := of_decide_eq_true (List.all_eq_true.mp dA_X7_mostAlike_0 (26, .iload_n 1, 1) (List.mem_of_getElem? (i := 17) rfl))
theorem dX7_mostAlike_27 : decode cX7_mostAlike 27 = .ok (.iload 5, 2) := of_decide_eq_true (List.all_eq_true.mp dA_X7_mostAlike_0 (27, .iload 5, 2) (List.mem_of_getElem? (i := 18) rfl))
theorem dX7_mostAlike_29 : decode cX7_mostAlike 29 = .ok (.ishr, 1) := of_decide_eq_true (List.all_eq_true.mp dA_X7_mostAlike_0 (29, .ishr, 1) (List.mem_of_getElem? (i := 19) rfl))
theorem dX7_mostAlike_30 : decode cX7_mostAlike 30 = .ok (.iand, 1) := of_decide_eq_true (List.all_eq_true.mp dA_X7_mostAlike_0 (30, .iand, 1) (List.mem_of_getElem? (i := 20) rfl))
theorem dX7_mostAlike_31 : decode cX7_mostAlike 31 = .ok (.iconst 1, 1) := of_decide_eq_true (List.all_eq_true.mp dA_X7_mostAlike_0 (31, .iconst 1, 1) (List.mem_of_getElem? (i := 21) rfl))
theorem dX7_mostAlike_32 : decode cX7_mostAlike 32 = .ok (.iand, 1) := of_decide_eq_true (List.all_eq_true.mp dA_X7_mostAlike_0 (32, .iand, 1) (List.mem_of_getElem? (i := 22) rfl))
theorem dX7_mostAlike_33 : decode cX7_mostAlike 33 = .ok (.iconst 1, 1) := of_decide_eq_true (List.all_eq_true.mp dA_X7_mostAlike_0 (33, .iconst 1, 1) (List.mem_of_getElem? (i := 23) rfl))
theorem dX7_mostAlike_34 : decode cX7_mostAlike 34 = .ok (.if_icmp .ne 7, 3) := of_decide_eq_true (List.all_eq_true.mp dA_X7_mostAlike_0 (34, .if_icmp .ne 7, 3) (List.mem_of_getElem? (i := 24) rfl))
theorem dX7_mostAlike_37 : decode cX7_mostAlike 37 = .ok (.iconst 1, 1) := of_decide_eq_true (List.all_eq_true.mp dA_X7_mostAlike_0 (37, .iconst 1, 1) (List.mem_of_getElem? (i := 25) rfl))
theorem dX7_mostAlike_38 : decode cX7_mostAlike 38 = .ok (.goto 4, 3) := of_decide_eq_true (List.all_eq_true.mp dA_X7_mostAlike_0 (38, .goto 4, 3) (List.mem_of_getElem? (i := 26) rfl))
theorem dX7_mostAlike_41 : decode cX7_mostAlike 41 = .ok (.iconst 0, 1) := of_decide_eq_true (List.all_eq_true.mp dA_X7_mostAlike_0 (41, .iconst 0, 1) (List.mem_of_getElem? (i := 27) rfl))
theorem dX7_mostAlike_42 : decode cX7_mostAlike 42 = .ok (.istore 6, 2) := of_decide_eq_true (List.all_eq_true.mp dA_X7_mostAlike_0 (42, .istore 6, 2) (List.mem_of_getElem? (i := 28) rfl))
theorem dX7_mostAlike_44 : decode cX7_mostAlike 44 = .ok (.iload 6, 2) := of_decide_eq_true (List.all_eq_true.mp dA_X7_mostAlike_0 (44, .iload 6, 2) (List.mem_of_getElem? (i := 29) rfl))
theorem dX7_mostAlike_46 : decode cX7_mostAlike 46 = .ok (.ifCond .eq 22, 3) := of_decide_eq_true (List.all_eq_true.mp dA_X7_mostAlike_0 (46, .ifCond .eq 22, 3) (List.mem_of_getElem? (i := 30) rfl))
theorem dX7_mostAlike_49 : decode cX7_mostAlike 49 = .ok (.aload_n 0, 1) := of_decide_eq_true (List.all_eq_true.mp dA_X7_mostAlike_0 (49, .aload_n 0, 1) (List.mem_of_getElem? (i := 31) rfl))
theorem dX7_mostAlike_50 : decode cX7_mostAlike 50 = .ok (.getfield 9, 3) := of_decide_eq_true (List.all_eq_true.mp dA_X7_mostAlike_0 (50, .getfield 9, 3) (List.mem_of_getElem? (i := 32) rfl))
theorem dX7_mostAlike_53 : decode cX7_mostAlike 53 = .ok (.iload_n 3, 1) := of_decide_eq_true (List.all_eq_true.mp dA_X7_mostAlike_0 (53, .iload_n 3, 1) (List.mem_of_getElem? (i := 33) rfl))
theorem dX7_mostAlike_54 : decode cX7_mostAlike 54 = .ok (.iaload, 1) := of_decide_eq_true (List.all_eq_true.mp dA_X7_mostAlike_0 (54, .iaload, 1) (List.mem_of_getElem? (i := 34) rfl))
theorem dX7_mostAlike_55 : decode cX7_mostAlike 55 = .ok (.aload_n 0, 1) := of_decide_eq_true (List.all_eq_true.mp dA_X7_mostAlike_0 (55, .aload_n 0, 1) (List.mem_of_getElem? (i := 35) rfl))
theorem dX7_mostAlike_56 : decode cX7_mostAlike 56 = .ok (.getfield 9, 3) := of_decide_eq_true (List.all_eq_true.mp dA_X7_mostAlike_0 (56, .getfield 9, 3) (List.mem_of_getElem? (i := 36) rfl))
theorem dX7_mostAlike_59 : decode cX7_mostAlike 59 = .ok (.iload 5, 2) := of_decide_eq_true (List.all_eq_true.mp dA_X7_mostAlike_0 (59, .iload 5, 2) (List.mem_of_getElem? (i := 37) rfl))
theorem dX7_mostAlike_61 : decode cX7_mostAlike 61 = .ok (.iaload, 1) := of_decide_eq_true (List.all_eq_true.mp dA_X7_mostAlike_0 (61, .iaload, 1) (List.mem_of_getElem? (i := 38) rfl))
theorem dX7_mostAlike_62 : decode cX7_mostAlike 62 = .ok (.if_icmp .ne 6, 3) := of_decide_eq_true (List.all_eq_true.mp dA_X7_mostAlike_0 (62, .if_icmp .ne 6, 3) (List.mem_of_getElem? (i := 39) rfl))
set_option maxRecDepth 20000 in
theorem dA_X7_mostAlike_65 : (([(65, .iinc 4 1, 3), (68, .iinc 5 1, 3), (71, .goto (-55), 3), (74, .iload_n 2, 1), (75, .iload 4, 2), (77, .invokestatic 33, 3), (80, .istore_n 2, 1), (81, .iinc 3 1, 3), (84, .goto (-80), 3), (87, .iload_n 2, 1), (88, .ireturn, 1)] : List (Nat × Instr × Nat)).all fun q => decide (decode cX7_mostAlike q.1 = .ok (q.2.1, q.2.2))) = true := by decide +kernel
theorem dX7_mostAlike_65 : decode cX7_mostAlike 65 = .ok (.iinc 4 1, 3) := of_decide_eq_true (List.all_eq_true.mp dA_X7_mostAlike_65 (65, .iinc 4 1, 3) (List.mem_of_getElem? (i := 0) rfl))
theorem dX7_mostAlike_68 : decode cX7_mostAlike 68 = .ok (.iinc 5 1, 3) := of_decide_eq_true (List.all_eq_true.mp dA_X7_mostAlike_65 (68, .iinc 5 1, 3) (List.mem_of_getElem? (i := 1) rfl))
theorem dX7_mostAlike_71 : decode cX7_mostAlike 71 = .ok (.goto (-55), 3) := of_decide_eq_true (List.all_eq_true.mp dA_X7_mostAlike_65 (71, .goto (-55), 3) (List.mem_of_getElem? (i := 2) rfl))
theorem dX7_mostAlike_74 : decode cX7_mostAlike 74 = .ok (.iload_n 2, 1) := of_decide_eq_true (List.all_eq_true.mp dA_X7_mostAlike_65 (74, .iload_n 2, 1) (List.mem_of_getElem? (i := 3) rfl))
theorem dX7_mostAlike_75 : decode cX7_mostAlike 75 = .ok (.iload 4, 2) := of_decide_eq_true (List.all_eq_true.mp dA_X7_mostAlike_65 (75, .iload 4, 2) (List.mem_of_getElem? (i := 4) rfl))
theorem dX7_mostAlike_77 : decode cX7_mostAlike 77 = .ok (.invokestatic 33, 3) := of_decide_eq_true (List.all_eq_true.mp dA_X7_mostAlike_65 (77, .invokestatic 33, 3) (List.mem_of_getElem? (i := 5) rfl))
theorem dX7_mostAlike_80 : decode cX7_mostAlike 80 = .ok (.istore_n 2, 1) := of_decide_eq_true (List.all_eq_true.mp dA_X7_mostAlike_65 (80, .istore_n 2, 1) (List.mem_of_getElem? (i := 6) rfl))
theorem dX7_mostAlike_81 : decode cX7_mostAlike 81 = .ok (.iinc 3 1, 3) := of_decide_eq_true (List.all_eq_true.mp dA_X7_mostAlike_65 (81, .iinc 3 1, 3) (List.mem_of_getElem? (i := 7) rfl))
theorem dX7_mostAlike_84 : decode cX7_mostAlike 84 = .ok (.goto (-80), 3) := of_decide_eq_true (List.all_eq_true.mp dA_X7_mostAlike_65 (84, .goto (-80), 3) (List.mem_of_getElem? (i := 8) rfl))
theorem dX7_mostAlike_87 : decode cX7_mostAlike 87 = .ok (.iload_n 2, 1) := of_decide_eq_true (List.all_eq_true.mp dA_X7_mostAlike_65 (87, .iload_n 2, 1) (List.mem_of_getElem? (i := 9) rfl))
theorem dX7_mostAlike_88 : decode cX7_mostAlike 88 = .ok (.ireturn, 1) := of_decide_eq_true (List.all_eq_true.mp dA_X7_mostAlike_65 (88, .ireturn, 1) (List.mem_of_getElem? (i := 10) rfl))
set_option maxRecDepth 20000 in
theorem ggX8_init_X1_init : GoodIn wsX8_init wsX1_init := goodIn_r _ [26, 27, 2, 3, 28, 29, 30, 31, 32, 33, 34, 35, 36, 37, 38, 39, 40, 41, 42, 43, 44, 45, 46, 47, 48, 49, 65, 66, 67, 68, 69, 70, 71, 72, 73, 74, 75, 103, 104, 105, 106] (by decide +kernel) (by decide +kernel)
set_option maxRecDepth 20000 in
theorem gX8_init_X1_init_n9 : GoodIn wsX8_init (wsX1_init) := ggX8_init_X1_init
set_option maxRecDepth 20000 in
theorem ggX8_init_X4_init : GoodIn wsX8_init wsX4_init := goodIn_r _ [51, 52, 2, 3, 53, 54, 90, 91, 92, 93, 94, 95] (by decide +kernel) (by decide +kernel)
set_option maxRecDepth 20000 in
theorem gX8_init_X4_init_n27 : GoodIn wsX8_init (wsX4_init) := ggX8_init_X4_init
set_option maxRecDepth 20000 in
theorem ggX8_init_X3_init : GoodIn wsX8_init wsX3_init := goodIn_r _ [56, 57, 2, 3, 28, 58, 59, 60, 96, 97, 98, 99, 100, 101] (by decide +kernel) (by decide +kernel)
set_option maxRecDepth 20000 in
theorem gX8_init_X3_init_n34 : GoodIn wsX8_init (wsX3_init) := ggX8_init_X3_init
set_option maxRecDepth 20000 in
theorem ggX8_init_X7_init : GoodIn wsX8_init wsX7_init := goodIn_r _ [62, 63, 2, 3, 28, 64, 102] (by decide +kernel) (by decide +kernel)
set_option maxRecDepth 20000 in
theorem gX8_init_X7_init_n41 : GoodIn wsX8_init (wsX7_init) := ggX8_init_X7_init
set_option maxRecDepth 20000 in
theorem dA_X8_init_0 : (([(0, .aload_n 0, 1), (1, .invokespecial 1, 3), (4, .aload_n 0, 1), (5, .new 7, 3), (8, .dup, 1), (9, .invokespecial 9, 3), (12, .putfield 10, 3), (15, .aload_n 0, 1), (16, .new 7, 3), (19, .dup, 1), (20, .invokespecial 9, 3), (23, .putfield 16, 3), (26, .aload_n 0, 1), (27, .new 7, 3), (30, .dup, 1), (31, .invokespecial 9, 3), (34, .putfield 19, 3), (37, .aload_n 0, 1), (38, .new 7, 3), (41, .dup, 1), (42, .invokespecial 9, 3), (45, .putfield 22, 3), (48, .aload_n 0, 1), (49, .new 25, 3), (52, .dup, 1), (53, .invokespecial 27, 3), (56, .putfield 28, 3), (59, .aload_n 0, 1), (60, .new 32, 3), (63, .dup, 1), (64, .invokespecial 34, 3), (67, .putfield 35, 3), (70, .aload_n 0, 1), (71, .new 39, 3), (74, .dup, 1), (75, .invokespecial 41, 3), (78, .putfield 42, 3), (81, .aload_n 0, 1), (82, .iconst 0, 1), (83, .putfield 46, 3)] : List (Nat × Instr × Nat)).all fun q => decide (decode cX8_init q.1 = .ok (q.2.1, q.2.2))) = true := by decide +kernel
theorem dX8_init_0 : decode cX8_init 0 = .ok (.aload_n 0, 1) := of_decide_eq_true (List.all_eq_true.mp dA_X8_init_0 (0, .aload_n 0, 1) (List.mem_of_getElem? (i := 0) rfl))
theorem dX8_init_1 : decode cX8_init 1 = .ok (.invokespecial 1, 3) := of_decide_eq_true (List.all_eq_true.mp dA_X8_init_0 (1, .invokespecial 1, 3) (List.mem_of_getElem? (i := 1) rfl))
theorem dX8_init_4 : decode cX8_init 4 = .ok (.aload_n 0, 1) := of_decide_eq_true (List.all_eq_true.mp dA_X8_init_0 (4, .aload_n 0, 1) (List.mem_of_getElem? (i := 2) rfl))
theorem dX8_init_5 : decode cX8_init 5 = .ok (.new 7, 3) := of_decide_eq_true (List.all_eq_true.mp dA_X8_init_0 (5, .new 7, 3) (List.mem_of_getElem? (i := 3) rfl))
theorem dX8_init_8 : decode cX8_init 8 = .ok (.dup, 1) := of_decide_eq_true (List.all_eq_true.mp dA_X8_init_0 (8, .dup, 1) (List.mem_of_getElem? (i := 4) rfl))
theorem dX8_init_9 : decode cX8_init 9 = .ok (.invokespecial 9, 3) := of_decide_eq_true (List.all_eq_true.mp dA_X8_init_0 (9, .invokespecial 9, 3) (List.mem_of_getElem? (i := 5) rfl))
theorem dX8_init_12 : decode cX8_init 12 = .ok (.putfield 10, 3) := of_decide_eq_true (List.all_eq_true.mp dA_X8_init_0 (12, .putfield 10, 3) (List.mem_of_getElem? (i := 6) rfl))
theorem dX8_init_15 : decode cX8_init 15 = .ok (.aload_n 0, 1) := of_decide_eq_true (List.all_eq_true.mp dA_X8_init_0 (15, .aload_n 0, 1) (List.mem_of_getElem? (i := 7) rfl))
theorem dX8_init_16 : decode cX8_init 16 = .ok (.new 7, 3) := of_decide_eq_true (List.all_eq_true.mp dA_X8_init_0 (16, .new 7, 3) (List.mem_of_getElem? (i := 8) rfl))
theorem dX8_init_19 : decode cX8_init 19 = .ok (.dup, 1) := of_decide_eq_true (List.all_eq_true.mp dA_X8_init_0 (19, .dup, 1) (List.mem_of_getElem? (i := 9) rfl))
theorem dX8_init_20 : decode cX8_init 20 = .ok (.invokespecial 9, 3) := of_decide_eq_true (List.all_eq_true.mp dA_X8_init_0 (20, .invokespecial 9, 3) (List.mem_of_getElem? (i := 10) rfl))
theorem dX8_init_23 : decode cX8_init 23 = .ok (.putfield 16, 3) := of_decide_eq_true (List.all_eq_true.mp dA_X8_init_0 (23, .putfield 16, 3) (List.mem_of_getElem? (i := 11) rfl))
theorem dX8_init_26 : decode cX8_init 26 = .ok (.aload_n 0, 1) := of_decide_eq_true (List.all_eq_true.mp dA_X8_init_0 (26, .aload_n 0, 1) (List.mem_of_getElem? (i := 12) rfl))
theorem dX8_init_27 : decode cX8_init 27 = .ok (.new 7, 3) := of_decide_eq_true (List.all_eq_true.mp dA_X8_init_0 (27, .new 7, 3) (List.mem_of_getElem? (i := 13) rfl))
theorem dX8_init_30 : decode cX8_init 30 = .ok (.dup, 1) := of_decide_eq_true (List.all_eq_true.mp dA_X8_init_0 (30, .dup, 1) (List.mem_of_getElem? (i := 14) rfl))
theorem dX8_init_31 : decode cX8_init 31 = .ok (.invokespecial 9, 3) := of_decide_eq_true (List.all_eq_true.mp dA_X8_init_0 (31, .invokespecial 9, 3) (List.mem_of_getElem? (i := 15) rfl))
theorem dX8_init_34 : decode cX8_init 34 = .ok (.putfield 19, 3) := of_decide_eq_true (List.all_eq_true.mp dA_X8_init_0 (34, .putfield 19, 3) (List.mem_of_getElem? (i := 16) rfl))
theorem dX8_init_37 : decode cX8_init 37 = .ok (.aload_n 0, 1) := of_decide_eq_true (List.all_eq_true.mp dA_X8_init_0 (37, .aload_n 0, 1) (List.mem_of_getElem? (i := 17) rfl))
theorem dX8_init_38 : decode cX8_init 38 = .ok (.new 7, 3) := of_decide_eq_true (List.all_eq_true.mp dA_X8_init_0 (38, .new 7, 3) (List.mem_of_getElem? (i := 18) rfl))
theorem dX8_init_41 : decode cX8_init 41 = .ok (.dup, 1) := of_decide_eq_true (List.all_eq_true.mp dA_X8_init_0 (41, .dup, 1) (List.mem_of_getElem? (i := 19) rfl))
theorem dX8_init_42 : decode cX8_init 42 = .ok (.invokespecial 9, 3) := of_decide_eq_true (List.all_eq_true.mp dA_X8_init_0 (42, .invokespecial 9, 3) (List.mem_of_getElem? (i := 20) rfl))
theorem dX8_init_45 : decode cX8_init 45 = .ok (.putfield 22, 3) := of_decide_eq_true (List.all_eq_true.mp dA_X8_init_0 (45, .putfield 22, 3) (List.mem_of_getElem? (i := 21) rfl))
theorem dX8_init_48 : decode cX8_init 48 = .ok (.aload_n 0, 1) := of_decide_eq_true (List.all_eq_true.mp dA_X8_init_0 (48, .aload_n 0, 1) (List.mem_of_getElem? (i := 22) rfl))
theorem dX8_init_49 : decode cX8_init 49 = .ok (.new 25, 3) := of_decide_eq_true (List.all_eq_true.mp dA_X8_init_0 (49, .new 25, 3) (List.mem_of_getElem? (i := 23) rfl))
theorem dX8_init_52 : decode cX8_init 52 = .ok (.dup, 1) := of_decide_eq_true (List.all_eq_true.mp dA_X8_init_0 (52, .dup, 1) (List.mem_of_getElem? (i := 24) rfl))
theorem dX8_init_53 : decode cX8_init 53 = .ok (.invokespecial 27, 3) := of_decide_eq_true (List.all_eq_true.mp dA_X8_init_0 (53, .invokespecial 27, 3) (List.mem_of_getElem? (i := 25) rfl))
theorem dX8_init_56 : decode cX8_init 56 = .ok (.putfield 28, 3) := of_decide_eq_true (List.all_eq_true.mp dA_X8_init_0 (56, .putfield 28, 3) (List.mem_of_getElem? (i := 26) rfl))
theorem dX8_init_59 : decode cX8_init 59 = .ok (.aload_n 0, 1) := of_decide_eq_true (List.all_eq_true.mp dA_X8_init_0 (59, .aload_n 0, 1) (List.mem_of_getElem? (i := 27) rfl))
theorem dX8_init_60 : decode cX8_init 60 = .ok (.new 32, 3) := of_decide_eq_true (List.all_eq_true.mp dA_X8_init_0 (60, .new 32, 3) (List.mem_of_getElem? (i := 28) rfl))
theorem dX8_init_63 : decode cX8_init 63 = .ok (.dup, 1) := of_decide_eq_true (List.all_eq_true.mp dA_X8_init_0 (63, .dup, 1) (List.mem_of_getElem? (i := 29) rfl))
theorem dX8_init_64 : decode cX8_init 64 = .ok (.invokespecial 34, 3) := of_decide_eq_true (List.all_eq_true.mp dA_X8_init_0 (64, .invokespecial 34, 3) (List.mem_of_getElem? (i := 30) rfl))
theorem dX8_init_67 : decode cX8_init 67 = .ok (.putfield 35, 3) := of_decide_eq_true (List.all_eq_true.mp dA_X8_init_0 (67, .putfield 35, 3) (List.mem_of_getElem? (i := 31) rfl))
theorem dX8_init_70 : decode cX8_init 70 = .ok (.aload_n 0, 1) := of_decide_eq_true (List.all_eq_true.mp dA_X8_init_0 (70, .aload_n 0, 1) (List.mem_of_getElem? (i := 32) rfl))
theorem dX8_init_71 : decode cX8_init 71 = .ok (.new 39, 3) := of_decide_eq_true (List.all_eq_true.mp dA_X8_init_0 (71, .new 39, 3) (List.mem_of_getElem? (i := 33) rfl))
theorem dX8_init_74 : decode cX8_init 74 = .ok (.dup, 1) := of_decide_eq_true (List.all_eq_true.mp dA_X8_init_0 (74, .dup, 1) (List.mem_of_getElem? (i := 34) rfl))
theorem dX8_init_75 : decode cX8_init 75 = .ok (.invokespecial 41, 3) := of_decide_eq_true (List.all_eq_true.mp dA_X8_init_0 (75, .invokespecial 41, 3) (List.mem_of_getElem? (i := 35) rfl))
theorem dX8_init_78 : decode cX8_init 78 = .ok (.putfield 42, 3) := of_decide_eq_true (List.all_eq_true.mp dA_X8_init_0 (78, .putfield 42, 3) (List.mem_of_getElem? (i := 36) rfl))
theorem dX8_init_81 : decode cX8_init 81 = .ok (.aload_n 0, 1) := of_decide_eq_true (List.all_eq_true.mp dA_X8_init_0 (81, .aload_n 0, 1) (List.mem_of_getElem? (i := 37) rfl))
theorem dX8_init_82 : decode cX8_init 82 = .ok (.iconst 0, 1) := of_decide_eq_true (List.all_eq_true.mp dA_X8_init_0 (82, .iconst 0, 1) (List.mem_of_getElem? (i := 38) rfl))
theorem dX8_init_83 : decode cX8_init 83 = .ok (.putfield 46, 3) := of_decide_eq_true (List.all_eq_true.mp dA_X8_init_0 (83, .putfield 46, 3) (List.mem_of_getElem? (i := 39) rfl))
set_option maxRecDepth 20000 in
theorem dA_X8_init_86 : (([(86, .aload_n 0, 1), (87, .iconst 1, 1), (88, .putfield 50, 3), (91, .return_, 1)] : List (Nat × Instr × Nat)).all fun q => decide (decode cX8_init q.1 = .ok (q.2.1, q.2.2))) = true := by decide +kernel
theorem dX8_init_86 : decode cX8_init 86 = .ok (.aload_n 0, 1) := of_decide_eq_true (List.all_eq_true.mp dA_X8_init_86 (86, .aload_n 0, 1) (List.mem_of_getElem? (i := 0) rfl))
theorem dX8_init_87 : decode cX8_init 87 = .ok (.iconst 1, 1) := of_decide_eq_true (List.all_eq_true.mp dA_X8_init_86 (87, .iconst 1, 1) (List.mem_of_getElem? (i := 1) rfl))
theorem dX8_init_88 : decode cX8_init 88 = .ok (.putfield 50, 3) := of_decide_eq_true (List.all_eq_true.mp dA_X8_init_86 (88, .putfield 50, 3) (List.mem_of_getElem? (i := 2) rfl))
theorem dX8_init_91 : decode cX8_init 91 = .ok (.return_, 1) := of_decide_eq_true (List.all_eq_true.mp dA_X8_init_86 (91, .return_, 1) (List.mem_of_getElem? (i := 3) rfl))
set_option maxRecDepth 20000 in
theorem ggX8_inn_X8_isKind : GoodIn wsX8_inn wsX8_isKind := goodIn_r _ [5, 6, 7, 4, 8] (by decide +kernel) (by decide +kernel)
set_option maxRecDepth 20000 in
theorem gX8_inn_X8_isKind : GoodIn wsX8_inn (va_wsS RX8 53 yX8_isKind wsX8_isKind) := goodIn_app (goodIn_of _ (by decide +kernel)) ggX8_inn_X8_isKind
set_option maxRecDepth 20000 in
theorem ggX8_inn_X8_within : GoodIn wsX8_inn wsX8_within := goodIn_r _ [8] (by decide +kernel) (by decide +kernel)
set_option maxRecDepth 20000 in
theorem gX8_inn_X8_within : GoodIn wsX8_inn (va_wsS RX8 57 yX8_within wsX8_within) := goodIn_app (goodIn_of _ (by decide +kernel)) ggX8_inn_X8_within
set_option maxRecDepth 20000 in
theorem ggX8_inn_X8_bad : GoodIn wsX8_inn wsX8_bad := goodIn_r _ [12, 13, 40, 41, 42, 43, 44, 45, 46, 47, 48, 49, 50, 51, 52, 53] (by decide +kernel) (by decide +kernel)
set_option maxRecDepth 20000 in
theorem gX8_inn_X8_bad : GoodIn wsX8_inn (wsV RX8 61 RX8 yX8_bad wsX8_bad) := goodIn_app (goodIn_of _ (by decide +kernel)) ggX8_inn_X8_bad
set_option maxRecDepth 20000 in
theorem ggX8_inn_X1_begin : GoodIn wsX8_inn wsX1_begin := goodIn_r _ [18, 19, 20, 21, 22, 23, 24, 25, 26, 27, 28, 29, 30, 31, 17, 32, 33, 34, 35, 36, 37, 38, 39, 54, 55, 56, 57, 58, 59, 60, 61, 62, 63, 64, 65, 66, 67, 68] (by decide +kernel) (by decide +kernel)
set_option maxRecDepth 20000 in
theorem gX8_inn_X1_begin : GoodIn wsX8_inn (wsV RX8 74 RX1 yX1_begin wsX1_begin) := goodIn_app (goodIn_of _ (by decide +kernel)) ggX8_inn_X1_begin
set_option maxRecDepth 20000 in
theorem dA_X8_inn_0 : (([(0, .iload_n 1, 1), (1, .invokestatic 53, 3), (4, .ifCond .eq 13, 3), (7, .iload_n 2, 1), (8, .iconst 0, 1), (9, .bipush 7, 2), (11, .invokestatic 57, 3), (14, .ifCond .ne 8, 3), (17, .aload_n 0, 1), (18, .invokevirtual 61, 3), (21, .ireturn, 1), (22, .aload_n 0, 1), (23, .getfield 10, 3), (26, .getfield 65, 3), (29, .getfield 69, 3), (32, .istore_n 3, 1), (33, .aload_n 0, 1), (34, .getfield 10, 3), (37, .iload_n 1, 1), (38, .iload_n 2, 1), (39, .invokevirtual 74, 3), (42, .iload_n 3, 1), (43, .ireturn, 1)] : List (Nat × Instr × Nat)).all fun q => decide (decode cX8_inn q.1 = .ok (q.2.1, q.2.2))) = true := by decide +kernel
theorem dX8_inn_0 : decode cX8_inn 0 = .ok (.iload_n 1, 1) := of_decide_eq_true (List.all_eq_true.mp dA_X8_inn_0 (0, .iload_n 1, 1) (List.mem_of_getElem? (i := 0) rfl))
theorem dX8_inn_1 : decode cX8_inn 1 = .ok (.invokestatic 53, 3) := of_decide_eq_true (List.all_eq_true.mp dA_X8_inn_0 (1, .invokestatic 53, 3) (List.mem_of_getElem? (i := 1) rfl))
theorem dX8_inn_4 : decode cX8_inn 4 = .ok (.ifCond .eq 13, 3) := of_decide_eq_true (List.all_eq_true.mp dA_X8_inn_0 (4, .ifCond .eq 13, 3) (List.mem_of_getElem? (i := 2) rfl))
theorem dX8_inn_7 : decode cX8_inn 7 = .ok (.iload_n 2, 1) := of_decide_eq_true (List.all_eq_true.mp dA_X8_inn_0 (7, .iload_n 2, 1) (List.mem_of_getElem? (i := 3) rfl))
theorem dX8_inn_8 : decode cX8_inn 8 = .ok (.iconst 0, 1) := of_decide_eq_true (List.all_eq_true.mp dA_X8_inn_0 (8, .iconst 0, 1) (List.mem_of_getElem? (i := 4) rfl))
theorem dX8_inn_9 : decode cX8_inn 9 = .ok (.bipush 7, 2) := of_decide_eq_true (List.all_eq_true.mp dA_X8_inn_0 (9, .bipush 7, 2) (List.mem_of_getElem? (i := 5) rfl))
theorem dX8_inn_11 : decode cX8_inn 11 = .ok (.invokestatic 57, 3) := of_decide_eq_true (List.all_eq_true.mp dA_X8_inn_0 (11, .invokestatic 57, 3) (List.mem_of_getElem? (i := 6) rfl))
theorem dX8_inn_14 : decode cX8_inn 14 = .ok (.ifCond .ne 8, 3) := of_decide_eq_true (List.all_eq_true.mp dA_X8_inn_0 (14, .ifCond .ne 8, 3) (List.mem_of_getElem? (i := 7) rfl))
theorem dX8_inn_17 : decode cX8_inn 17 = .ok (.aload_n 0, 1) := of_decide_eq_true (List.all_eq_true.mp dA_X8_inn_0 (17, .aload_n 0, 1) (List.mem_of_getElem? (i := 8) rfl))
theorem dX8_inn_18 : decode cX8_inn 18 = .ok (.invokevirtual 61, 3) := of_decide_eq_true (List.all_eq_true.mp dA_X8_inn_0 (18, .invokevirtual 61, 3) (List.mem_of_getElem? (i := 9) rfl))
theorem dX8_inn_21 : decode cX8_inn 21 = .ok (.ireturn, 1) := of_decide_eq_true (List.all_eq_true.mp dA_X8_inn_0 (21, .ireturn, 1) (List.mem_of_getElem? (i := 10) rfl))
theorem dX8_inn_22 : decode cX8_inn 22 = .ok (.aload_n 0, 1) := of_decide_eq_true (List.all_eq_true.mp dA_X8_inn_0 (22, .aload_n 0, 1) (List.mem_of_getElem? (i := 11) rfl))
theorem dX8_inn_23 : decode cX8_inn 23 = .ok (.getfield 10, 3) := of_decide_eq_true (List.all_eq_true.mp dA_X8_inn_0 (23, .getfield 10, 3) (List.mem_of_getElem? (i := 12) rfl))
theorem dX8_inn_26 : decode cX8_inn 26 = .ok (.getfield 65, 3) := of_decide_eq_true (List.all_eq_true.mp dA_X8_inn_0 (26, .getfield 65, 3) (List.mem_of_getElem? (i := 13) rfl))
theorem dX8_inn_29 : decode cX8_inn 29 = .ok (.getfield 69, 3) := of_decide_eq_true (List.all_eq_true.mp dA_X8_inn_0 (29, .getfield 69, 3) (List.mem_of_getElem? (i := 14) rfl))
theorem dX8_inn_32 : decode cX8_inn 32 = .ok (.istore_n 3, 1) := of_decide_eq_true (List.all_eq_true.mp dA_X8_inn_0 (32, .istore_n 3, 1) (List.mem_of_getElem? (i := 15) rfl))
theorem dX8_inn_33 : decode cX8_inn 33 = .ok (.aload_n 0, 1) := of_decide_eq_true (List.all_eq_true.mp dA_X8_inn_0 (33, .aload_n 0, 1) (List.mem_of_getElem? (i := 16) rfl))
theorem dX8_inn_34 : decode cX8_inn 34 = .ok (.getfield 10, 3) := of_decide_eq_true (List.all_eq_true.mp dA_X8_inn_0 (34, .getfield 10, 3) (List.mem_of_getElem? (i := 17) rfl))
theorem dX8_inn_37 : decode cX8_inn 37 = .ok (.iload_n 1, 1) := of_decide_eq_true (List.all_eq_true.mp dA_X8_inn_0 (37, .iload_n 1, 1) (List.mem_of_getElem? (i := 18) rfl))
theorem dX8_inn_38 : decode cX8_inn 38 = .ok (.iload_n 2, 1) := of_decide_eq_true (List.all_eq_true.mp dA_X8_inn_0 (38, .iload_n 2, 1) (List.mem_of_getElem? (i := 19) rfl))
theorem dX8_inn_39 : decode cX8_inn 39 = .ok (.invokevirtual 74, 3) := of_decide_eq_true (List.all_eq_true.mp dA_X8_inn_0 (39, .invokevirtual 74, 3) (List.mem_of_getElem? (i := 20) rfl))
theorem dX8_inn_42 : decode cX8_inn 42 = .ok (.iload_n 3, 1) := of_decide_eq_true (List.all_eq_true.mp dA_X8_inn_0 (42, .iload_n 3, 1) (List.mem_of_getElem? (i := 21) rfl))
theorem dX8_inn_43 : decode cX8_inn 43 = .ok (.ireturn, 1) := of_decide_eq_true (List.all_eq_true.mp dA_X8_inn_0 (43, .ireturn, 1) (List.mem_of_getElem? (i := 22) rfl))
set_option maxRecDepth 20000 in
theorem ggX8_landlord_X8_isKind : GoodIn wsX8_landlord wsX8_isKind := goodIn_r _ [5, 6, 7, 4, 8] (by decide +kernel) (by decide +kernel)
set_option maxRecDepth 20000 in
theorem gX8_landlord_X8_isKind : GoodIn wsX8_landlord (va_wsS RX8 53 yX8_isKind wsX8_isKind) := goodIn_app (goodIn_of _ (by decide +kernel)) ggX8_landlord_X8_isKind
set_option maxRecDepth 20000 in
theorem ggX8_landlord_X8_bad : GoodIn wsX8_landlord wsX8_bad := goodIn_r _ [12, 13, 20, 21, 22, 23, 24, 25, 26, 27, 28, 29, 30, 31, 32, 33] (by decide +kernel) (by decide +kernel)
set_option maxRecDepth 20000 in
theorem gX8_landlord_X8_bad : GoodIn wsX8_landlord (wsV RX8 61 RX8 yX8_bad wsX8_bad) := goodIn_app (goodIn_of _ (by decide +kernel)) ggX8_landlord_X8_bad
set_option maxRecDepth 20000 in
theorem ggX8_landlord_X5_empty : GoodIn wsX8_landlord wsX5_empty := goodIn_r _ [18, 19, 45, 46, 47, 48] (by decide +kernel) (by decide +kernel)
set_option maxRecDepth 20000 in
theorem gX8_landlord_X5_empty : GoodIn wsX8_landlord (wsV RX8 84 RX5 yX5_empty wsX5_empty) := goodIn_app (goodIn_of _ (by decide +kernel)) ggX8_landlord_X5_empty
set_option maxRecDepth 20000 in
theorem dA_X8_landlord_0 : (([(0, .iload_n 1, 1), (1, .invokestatic 53, 3), (4, .ifCond .ne 8, 3), (7, .aload_n 0, 1), (8, .invokevirtual 61, 3), (11, .ireturn, 1), (12, .aload_n 0, 1), (13, .getfield 10, 3), (16, .getfield 78, 3), (19, .istore_n 2, 1), (20, .aload_n 0, 1), (21, .getfield 10, 3), (24, .iload_n 1, 1), (25, .putfield 78, 3), (28, .aload_n 0, 1), (29, .getfield 10, 3), (32, .getfield 81, 3), (35, .invokevirtual 84, 3), (38, .iload_n 2, 1), (39, .ireturn, 1)] : List (Nat × Instr × Nat)).all fun q => decide (decode cX8_landlord q.1 = .ok (q.2.1, q.2.2))) = true := by decide +kernel
theorem dX8_landlord_0 : decode cX8_landlord 0 = .ok (.iload_n 1, 1) := of_decide_eq_true (List.all_eq_true.mp dA_X8_landlord_0 (0, .iload_n 1, 1) (List.mem_of_getElem? (i := 0) rfl))
theorem dX8_landlord_1 : decode cX8_landlord 1 = .ok (.invokestatic 53, 3) := of_decide_eq_true (List.all_eq_true.mp dA_X8_landlord_0 (1, .invokestatic 53, 3) (List.mem_of_getElem? (i := 1) rfl))
theorem dX8_landlord_4 : decode cX8_landlord 4 = .ok (.ifCond .ne 8, 3) := of_decide_eq_true (List.all_eq_true.mp dA_X8_landlord_0 (4, .ifCond .ne 8, 3) (List.mem_of_getElem? (i := 2) rfl))
theorem dX8_landlord_7 : decode cX8_landlord 7 = .ok (.aload_n 0, 1) := of_decide_eq_true (List.all_eq_true.mp dA_X8_landlord_0 (7, .aload_n 0, 1) (List.mem_of_getElem? (i := 3) rfl))
theorem dX8_landlord_8 : decode cX8_landlord 8 = .ok (.invokevirtual 61, 3) := of_decide_eq_true (List.all_eq_true.mp dA_X8_landlord_0 (8, .invokevirtual 61, 3) (List.mem_of_getElem? (i := 4) rfl))
theorem dX8_landlord_11 : decode cX8_landlord 11 = .ok (.ireturn, 1) := of_decide_eq_true (List.all_eq_true.mp dA_X8_landlord_0 (11, .ireturn, 1) (List.mem_of_getElem? (i := 5) rfl))
theorem dX8_landlord_12 : decode cX8_landlord 12 = .ok (.aload_n 0, 1) := of_decide_eq_true (List.all_eq_true.mp dA_X8_landlord_0 (12, .aload_n 0, 1) (List.mem_of_getElem? (i := 6) rfl))
theorem dX8_landlord_13 : decode cX8_landlord 13 = .ok (.getfield 10, 3) := of_decide_eq_true (List.all_eq_true.mp dA_X8_landlord_0 (13, .getfield 10, 3) (List.mem_of_getElem? (i := 7) rfl))
theorem dX8_landlord_16 : decode cX8_landlord 16 = .ok (.getfield 78, 3) := of_decide_eq_true (List.all_eq_true.mp dA_X8_landlord_0 (16, .getfield 78, 3) (List.mem_of_getElem? (i := 8) rfl))
theorem dX8_landlord_19 : decode cX8_landlord 19 = .ok (.istore_n 2, 1) := of_decide_eq_true (List.all_eq_true.mp dA_X8_landlord_0 (19, .istore_n 2, 1) (List.mem_of_getElem? (i := 9) rfl))
theorem dX8_landlord_20 : decode cX8_landlord 20 = .ok (.aload_n 0, 1) := of_decide_eq_true (List.all_eq_true.mp dA_X8_landlord_0 (20, .aload_n 0, 1) (List.mem_of_getElem? (i := 10) rfl))
theorem dX8_landlord_21 : decode cX8_landlord 21 = .ok (.getfield 10, 3) := of_decide_eq_true (List.all_eq_true.mp dA_X8_landlord_0 (21, .getfield 10, 3) (List.mem_of_getElem? (i := 11) rfl))
theorem dX8_landlord_24 : decode cX8_landlord 24 = .ok (.iload_n 1, 1) := of_decide_eq_true (List.all_eq_true.mp dA_X8_landlord_0 (24, .iload_n 1, 1) (List.mem_of_getElem? (i := 12) rfl))
theorem dX8_landlord_25 : decode cX8_landlord 25 = .ok (.putfield 78, 3) := of_decide_eq_true (List.all_eq_true.mp dA_X8_landlord_0 (25, .putfield 78, 3) (List.mem_of_getElem? (i := 13) rfl))
theorem dX8_landlord_28 : decode cX8_landlord 28 = .ok (.aload_n 0, 1) := of_decide_eq_true (List.all_eq_true.mp dA_X8_landlord_0 (28, .aload_n 0, 1) (List.mem_of_getElem? (i := 14) rfl))
theorem dX8_landlord_29 : decode cX8_landlord 29 = .ok (.getfield 10, 3) := of_decide_eq_true (List.all_eq_true.mp dA_X8_landlord_0 (29, .getfield 10, 3) (List.mem_of_getElem? (i := 15) rfl))
theorem dX8_landlord_32 : decode cX8_landlord 32 = .ok (.getfield 81, 3) := of_decide_eq_true (List.all_eq_true.mp dA_X8_landlord_0 (32, .getfield 81, 3) (List.mem_of_getElem? (i := 16) rfl))
theorem dX8_landlord_35 : decode cX8_landlord 35 = .ok (.invokevirtual 84, 3) := of_decide_eq_true (List.all_eq_true.mp dA_X8_landlord_0 (35, .invokevirtual 84, 3) (List.mem_of_getElem? (i := 17) rfl))
theorem dX8_landlord_38 : decode cX8_landlord 38 = .ok (.iload_n 2, 1) := of_decide_eq_true (List.all_eq_true.mp dA_X8_landlord_0 (38, .iload_n 2, 1) (List.mem_of_getElem? (i := 18) rfl))
theorem dX8_landlord_39 : decode cX8_landlord 39 = .ok (.ireturn, 1) := of_decide_eq_true (List.all_eq_true.mp dA_X8_landlord_0 (39, .ireturn, 1) (List.mem_of_getElem? (i := 19) rfl))
set_option maxRecDepth 20000 in
theorem ggX8_wet_X8_within : GoodIn wsX8_wet wsX8_within := goodIn_r _ [5] (by decide +kernel) (by decide +kernel)
set_option maxRecDepth 20000 in
theorem gX8_wet_X8_within : GoodIn wsX8_wet (va_wsS RX8 57 yX8_within wsX8_within) := goodIn_app (goodIn_of _ (by decide +kernel)) ggX8_wet_X8_within
set_option maxRecDepth 20000 in
theorem ggX8_wet_X8_bad : GoodIn wsX8_wet wsX8_bad := goodIn_r _ [9, 10, 27, 28, 29, 30, 31, 32, 33, 34, 35, 36, 37, 38, 39, 40] (by decide +kernel) (by decide +kernel)
set_option maxRecDepth 20000 in
theorem gX8_wet_X8_bad : GoodIn wsX8_wet (wsV RX8 61 RX8 yX8_bad wsX8_bad) := goodIn_app (goodIn_of _ (by decide +kernel)) ggX8_wet_X8_bad
set_option maxRecDepth 20000 in
theorem ggX8_wet_X1_wetOf : GoodIn wsX8_wet wsX1_wetOf := goodIn_r _ [15, 16, 41, 42, 43, 44, 45, 46, 47, 48, 49, 50, 51] (by decide +kernel) (by decide +kernel)
set_option maxRecDepth 20000 in
theorem gX8_wet_X1_wetOf : GoodIn wsX8_wet (wsV RX8 87 RX1 yX1_wetOf wsX1_wetOf) := goodIn_app (goodIn_of _ (by decide +kernel)) ggX8_wet_X1_wetOf
set_option maxRecDepth 20000 in
theorem ggX8_wet_X1_setWet : GoodIn wsX8_wet wsX1_setWet := goodIn_r _ [20, 16, 41, 42, 43, 44, 45, 46, 47, 48, 49, 50, 51] (by decide +kernel) (by decide +kernel)
set_option maxRecDepth 20000 in
theorem gX8_wet_X1_setWet : GoodIn wsX8_wet (wsV RX8 91 RX1 yX1_setWet wsX1_setWet) := goodIn_app (goodIn_of _ (by decide +kernel)) ggX8_wet_X1_setWet
set_option maxRecDepth 20000 in
theorem ggX8_wet_X5_empty : GoodIn wsX8_wet wsX5_empty := goodIn_r _ [25, 26, 52, 53, 54, 55] (by decide +kernel) (by decide +kernel)
set_option maxRecDepth 20000 in
theorem gX8_wet_X5_empty : GoodIn wsX8_wet (wsV RX8 84 RX5 yX5_empty wsX5_empty) := goodIn_app (goodIn_of _ (by decide +kernel)) ggX8_wet_X5_empty
set_option maxRecDepth 20000 in
theorem dA_X8_wet_0 : (([(0, .iload_n 1, 1), (1, .iconst 0, 1), (2, .iconst 5, 1), (3, .invokestatic 57, 3), (6, .ifCond .eq 12, 3), (9, .iload_n 2, 1), (10, .iconst 0, 1), (11, .iconst 4, 1), (12, .invokestatic 57, 3), (15, .ifCond .ne 8, 3), (18, .aload_n 0, 1), (19, .invokevirtual 61, 3), (22, .ireturn, 1), (23, .aload_n 0, 1), (24, .getfield 10, 3), (27, .iload_n 1, 1), (28, .invokevirtual 87, 3), (31, .istore_n 3, 1), (32, .aload_n 0, 1), (33, .getfield 10, 3), (36, .iload_n 1, 1), (37, .iload_n 2, 1), (38, .invokevirtual 91, 3), (41, .aload_n 0, 1), (42, .getfield 10, 3), (45, .getfield 81, 3), (48, .invokevirtual 84, 3), (51, .iload_n 3, 1), (52, .ireturn, 1)] : List (Nat × Instr × Nat)).all fun q => decide (decode cX8_wet q.1 = .ok (q.2.1, q.2.2))) = true := by decide +kernel
theorem dX8_wet_0 : decode cX8_wet 0 = .ok (.iload_n 1, 1) := of_decide_eq_true (List.all_eq_true.mp dA_X8_wet_0 (0, .iload_n 1, 1) (List.mem_of_getElem? (i := 0) rfl))
theorem dX8_wet_1 : decode cX8_wet 1 = .ok (.iconst 0, 1) := of_decide_eq_true (List.all_eq_true.mp dA_X8_wet_0 (1, .iconst 0, 1) (List.mem_of_getElem? (i := 1) rfl))
theorem dX8_wet_2 : decode cX8_wet 2 = .ok (.iconst 5, 1) := of_decide_eq_true (List.all_eq_true.mp dA_X8_wet_0 (2, .iconst 5, 1) (List.mem_of_getElem? (i := 2) rfl))
theorem dX8_wet_3 : decode cX8_wet 3 = .ok (.invokestatic 57, 3) := of_decide_eq_true (List.all_eq_true.mp dA_X8_wet_0 (3, .invokestatic 57, 3) (List.mem_of_getElem? (i := 3) rfl))
theorem dX8_wet_6 : decode cX8_wet 6 = .ok (.ifCond .eq 12, 3) := of_decide_eq_true (List.all_eq_true.mp dA_X8_wet_0 (6, .ifCond .eq 12, 3) (List.mem_of_getElem? (i := 4) rfl))
theorem dX8_wet_9 : decode cX8_wet 9 = .ok (.iload_n 2, 1) := of_decide_eq_true (List.all_eq_true.mp dA_X8_wet_0 (9, .iload_n 2, 1) (List.mem_of_getElem? (i := 5) rfl))
theorem dX8_wet_10 : decode cX8_wet 10 = .ok (.iconst 0, 1) := of_decide_eq_true (List.all_eq_true.mp dA_X8_wet_0 (10, .iconst 0, 1) (List.mem_of_getElem? (i := 6) rfl))
theorem dX8_wet_11 : decode cX8_wet 11 = .ok (.iconst 4, 1) := of_decide_eq_true (List.all_eq_true.mp dA_X8_wet_0 (11, .iconst 4, 1) (List.mem_of_getElem? (i := 7) rfl))
theorem dX8_wet_12 : decode cX8_wet 12 = .ok (.invokestatic 57, 3) := of_decide_eq_true (List.all_eq_true.mp dA_X8_wet_0 (12, .invokestatic 57, 3) (List.mem_of_getElem? (i := 8) rfl))
theorem dX8_wet_15 : decode cX8_wet 15 = .ok (.ifCond .ne 8, 3) := of_decide_eq_true (List.all_eq_true.mp dA_X8_wet_0 (15, .ifCond .ne 8, 3) (List.mem_of_getElem? (i := 9) rfl))
theorem dX8_wet_18 : decode cX8_wet 18 = .ok (.aload_n 0, 1) := of_decide_eq_true (List.all_eq_true.mp dA_X8_wet_0 (18, .aload_n 0, 1) (List.mem_of_getElem? (i := 10) rfl))
theorem dX8_wet_19 : decode cX8_wet 19 = .ok (.invokevirtual 61, 3) := of_decide_eq_true (List.all_eq_true.mp dA_X8_wet_0 (19, .invokevirtual 61, 3) (List.mem_of_getElem? (i := 11) rfl))
theorem dX8_wet_22 : decode cX8_wet 22 = .ok (.ireturn, 1) := of_decide_eq_true (List.all_eq_true.mp dA_X8_wet_0 (22, .ireturn, 1) (List.mem_of_getElem? (i := 12) rfl))
theorem dX8_wet_23 : decode cX8_wet 23 = .ok (.aload_n 0, 1) := of_decide_eq_true (List.all_eq_true.mp dA_X8_wet_0 (23, .aload_n 0, 1) (List.mem_of_getElem? (i := 13) rfl))
theorem dX8_wet_24 : decode cX8_wet 24 = .ok (.getfield 10, 3) := of_decide_eq_true (List.all_eq_true.mp dA_X8_wet_0 (24, .getfield 10, 3) (List.mem_of_getElem? (i := 14) rfl))
theorem dX8_wet_27 : decode cX8_wet 27 = .ok (.iload_n 1, 1) := of_decide_eq_true (List.all_eq_true.mp dA_X8_wet_0 (27, .iload_n 1, 1) (List.mem_of_getElem? (i := 15) rfl))
theorem dX8_wet_28 : decode cX8_wet 28 = .ok (.invokevirtual 87, 3) := of_decide_eq_true (List.all_eq_true.mp dA_X8_wet_0 (28, .invokevirtual 87, 3) (List.mem_of_getElem? (i := 16) rfl))
theorem dX8_wet_31 : decode cX8_wet 31 = .ok (.istore_n 3, 1) := of_decide_eq_true (List.all_eq_true.mp dA_X8_wet_0 (31, .istore_n 3, 1) (List.mem_of_getElem? (i := 17) rfl))
theorem dX8_wet_32 : decode cX8_wet 32 = .ok (.aload_n 0, 1) := of_decide_eq_true (List.all_eq_true.mp dA_X8_wet_0 (32, .aload_n 0, 1) (List.mem_of_getElem? (i := 18) rfl))
theorem dX8_wet_33 : decode cX8_wet 33 = .ok (.getfield 10, 3) := of_decide_eq_true (List.all_eq_true.mp dA_X8_wet_0 (33, .getfield 10, 3) (List.mem_of_getElem? (i := 19) rfl))
theorem dX8_wet_36 : decode cX8_wet 36 = .ok (.iload_n 1, 1) := of_decide_eq_true (List.all_eq_true.mp dA_X8_wet_0 (36, .iload_n 1, 1) (List.mem_of_getElem? (i := 20) rfl))
theorem dX8_wet_37 : decode cX8_wet 37 = .ok (.iload_n 2, 1) := of_decide_eq_true (List.all_eq_true.mp dA_X8_wet_0 (37, .iload_n 2, 1) (List.mem_of_getElem? (i := 21) rfl))
theorem dX8_wet_38 : decode cX8_wet 38 = .ok (.invokevirtual 91, 3) := of_decide_eq_true (List.all_eq_true.mp dA_X8_wet_0 (38, .invokevirtual 91, 3) (List.mem_of_getElem? (i := 22) rfl))
theorem dX8_wet_41 : decode cX8_wet 41 = .ok (.aload_n 0, 1) := of_decide_eq_true (List.all_eq_true.mp dA_X8_wet_0 (41, .aload_n 0, 1) (List.mem_of_getElem? (i := 23) rfl))
theorem dX8_wet_42 : decode cX8_wet 42 = .ok (.getfield 10, 3) := of_decide_eq_true (List.all_eq_true.mp dA_X8_wet_0 (42, .getfield 10, 3) (List.mem_of_getElem? (i := 24) rfl))
theorem dX8_wet_45 : decode cX8_wet 45 = .ok (.getfield 81, 3) := of_decide_eq_true (List.all_eq_true.mp dA_X8_wet_0 (45, .getfield 81, 3) (List.mem_of_getElem? (i := 25) rfl))
theorem dX8_wet_48 : decode cX8_wet 48 = .ok (.invokevirtual 84, 3) := of_decide_eq_true (List.all_eq_true.mp dA_X8_wet_0 (48, .invokevirtual 84, 3) (List.mem_of_getElem? (i := 26) rfl))
theorem dX8_wet_51 : decode cX8_wet 51 = .ok (.iload_n 3, 1) := of_decide_eq_true (List.all_eq_true.mp dA_X8_wet_0 (51, .iload_n 3, 1) (List.mem_of_getElem? (i := 27) rfl))
theorem dX8_wet_52 : decode cX8_wet 52 = .ok (.ireturn, 1) := of_decide_eq_true (List.all_eq_true.mp dA_X8_wet_0 (52, .ireturn, 1) (List.mem_of_getElem? (i := 28) rfl))
set_option maxRecDepth 20000 in
theorem ggX8_one_X8_isKind : GoodIn wsX8_one wsX8_isKind := goodIn_r _ [5, 6, 7, 4, 8] (by decide +kernel) (by decide +kernel)
set_option maxRecDepth 20000 in
theorem gX8_one_X8_isKind : GoodIn wsX8_one (va_wsS RX8 53 yX8_isKind wsX8_isKind) := goodIn_app (goodIn_of _ (by decide +kernel)) ggX8_one_X8_isKind
set_option maxRecDepth 20000 in
theorem ggX8_one_X8_isWord : GoodIn wsX8_one wsX8_isWord := goodIn_r _ [11, 6, 7, 4, 8] (by decide +kernel) (by decide +kernel)
set_option maxRecDepth 20000 in
theorem gX8_one_X8_isWord : GoodIn wsX8_one (va_wsS RX8 94 yX8_isWord wsX8_isWord) := goodIn_app (goodIn_of _ (by decide +kernel)) ggX8_one_X8_isWord
set_option maxRecDepth 20000 in
theorem ggX8_one_X8_bad : GoodIn wsX8_one wsX8_bad := goodIn_r _ [15, 16, 51, 52, 53, 54, 55, 56, 57, 58, 59, 60, 61, 62, 63, 64] (by decide +kernel) (by decide +kernel)
set_option maxRecDepth 20000 in
theorem gX8_one_X8_bad : GoodIn wsX8_one (wsV RX8 61 RX8 yX8_bad wsX8_bad) := goodIn_app (goodIn_of _ (by decide +kernel)) ggX8_one_X8_bad
set_option maxRecDepth 20000 in
theorem ggX8_one_X5_isFull : GoodIn wsX8_one wsX5_isFull := goodIn_r _ [21, 22, 23, 76, 77, 78, 79] (by decide +kernel) (by decide +kernel)
set_option maxRecDepth 20000 in
theorem gX8_one_X5_isFull : GoodIn wsX8_one (wsV RX8 97 RX5 yX5_isFull wsX5_isFull) := goodIn_app (goodIn_of _ (by decide +kernel)) ggX8_one_X5_isFull
set_option maxRecDepth 20000 in
theorem ggX8_one_X8_full : GoodIn wsX8_one wsX8_full := goodIn_r _ [27, 28, 51, 52, 53, 54, 55, 56, 57, 58, 59, 60, 61, 62, 63, 64] (by decide +kernel) (by decide +kernel)
set_option maxRecDepth 20000 in
theorem gX8_one_X8_full : GoodIn wsX8_one (wsV RX8 101 RX8 yX8_full wsX8_full) := goodIn_app (goodIn_of _ (by decide +kernel)) ggX8_one_X8_full
set_option maxRecDepth 20000 in
theorem ggX8_one_X5_empty : GoodIn wsX8_one wsX5_empty := goodIn_r _ [32, 22, 76, 77, 78, 79] (by decide +kernel) (by decide +kernel)
set_option maxRecDepth 20000 in
theorem gX8_one_X5_empty : GoodIn wsX8_one (wsV RX8 84 RX5 yX5_empty wsX5_empty) := goodIn_app (goodIn_of _ (by decide +kernel)) ggX8_one_X5_empty
set_option maxRecDepth 20000 in
theorem ggX8_one_X1_welcome : GoodIn wsX8_one wsX1_welcome := goodIn_r _ [37, 38, 39, 40, 41, 20, 42, 22, 43, 44, 18, 19, 21, 23, 45, 46, 47, 48, 49, 50, 65, 66, 67, 68, 69, 70, 71, 72, 73, 74, 75, 76, 77, 78, 79] (by decide +kernel) (by decide +kernel)
set_option maxRecDepth 20000 in
theorem gX8_one_X1_welcome : GoodIn wsX8_one (wsV RX8 104 RX1 yX1_welcome wsX1_welcome) := goodIn_app (goodIn_of _ (by decide +kernel)) ggX8_one_X1_welcome
set_option maxRecDepth 20000 in
theorem dA_X8_one_0 : (([(0, .iload_n 1, 1), (1, .invokestatic 53, 3), (4, .ifCond .eq 10, 3), (7, .iload_n 2, 1), (8, .invokestatic 94, 3), (11, .ifCond .ne 8, 3), (14, .aload_n 0, 1), (15, .invokevirtual 61, 3), (18, .ireturn, 1), (19, .aload_n 0, 1), (20, .getfield 10, 3), (23, .getfield 65, 3), (26, .invokevirtual 97, 3), (29, .ifCond .eq 8, 3), (32, .aload_n 0, 1), (33, .invokevirtual 101, 3), (36, .ireturn, 1), (37, .aload_n 0, 1), (38, .getfield 10, 3), (41, .getfield 81, 3), (44, .invokevirtual 84, 3), (47, .aload_n 0, 1), (48, .getfield 10, 3), (51, .iload_n 1, 1), (52, .iload_n 2, 1), (53, .invokevirtual 104, 3), (56, .ireturn, 1)] : List (Nat × Instr × Nat)).all fun q => decide (decode cX8_one q.1 = .ok (q.2.1, q.2.2))) = true := by decide +kernel
theorem dX8_one_0 : decode cX8_one 0 = .ok (.iload_n 1, 1) := of_decide_eq_true (List.all_eq_true.mp dA_X8_one_0 (0, .iload_n 1, 1) (List.mem_of_getElem? (i := 0) rfl))
theorem dX8_one_1 : decode cX8_one 1 = .ok (.invokestatic 53, 3) := of_decide_eq_true (List.all_eq_true.mp dA_X8_one_0 (1, .invokestatic 53, 3) (List.mem_of_getElem? (i := 1) rfl))
theorem dX8_one_4 : decode cX8_one 4 = .ok (.ifCond .eq 10, 3) := of_decide_eq_true (List.all_eq_true.mp dA_X8_one_0 (4, .ifCond .eq 10, 3) (List.mem_of_getElem? (i := 2) rfl))
theorem dX8_one_7 : decode cX8_one 7 = .ok (.iload_n 2, 1) := of_decide_eq_true (List.all_eq_true.mp dA_X8_one_0 (7, .iload_n 2, 1) (List.mem_of_getElem? (i := 3) rfl))
theorem dX8_one_8 : decode cX8_one 8 = .ok (.invokestatic 94, 3) := of_decide_eq_true (List.all_eq_true.mp dA_X8_one_0 (8, .invokestatic 94, 3) (List.mem_of_getElem? (i := 4) rfl))
theorem dX8_one_11 : decode cX8_one 11 = .ok (.ifCond .ne 8, 3) := of_decide_eq_true (List.all_eq_true.mp dA_X8_one_0 (11, .ifCond .ne 8, 3) (List.mem_of_getElem? (i := 5) rfl))
theorem dX8_one_14 : decode cX8_one 14 = .ok (.aload_n 0, 1) := of_decide_eq_true (List.all_eq_true.mp dA_X8_one_0 (14, .aload_n 0, 1) (List.mem_of_getElem? (i := 6) rfl))
theorem dX8_one_15 : decode cX8_one 15 = .ok (.invokevirtual 61, 3) := of_decide_eq_true (List.all_eq_true.mp dA_X8_one_0 (15, .invokevirtual 61, 3) (List.mem_of_getElem? (i := 7) rfl))
theorem dX8_one_18 : decode cX8_one 18 = .ok (.ireturn, 1) := of_decide_eq_true (List.all_eq_true.mp dA_X8_one_0 (18, .ireturn, 1) (List.mem_of_getElem? (i := 8) rfl))
theorem dX8_one_19 : decode cX8_one 19 = .ok (.aload_n 0, 1) := of_decide_eq_true (List.all_eq_true.mp dA_X8_one_0 (19, .aload_n 0, 1) (List.mem_of_getElem? (i := 9) rfl))
theorem dX8_one_20 : decode cX8_one 20 = .ok (.getfield 10, 3) := of_decide_eq_true (List.all_eq_true.mp dA_X8_one_0 (20, .getfield 10, 3) (List.mem_of_getElem? (i := 10) rfl))
theorem dX8_one_23 : decode cX8_one 23 = .ok (.getfield 65, 3) := of_decide_eq_true (List.all_eq_true.mp dA_X8_one_0 (23, .getfield 65, 3) (List.mem_of_getElem? (i := 11) rfl))
theorem dX8_one_26 : decode cX8_one 26 = .ok (.invokevirtual 97, 3) := of_decide_eq_true (List.all_eq_true.mp dA_X8_one_0 (26, .invokevirtual 97, 3) (List.mem_of_getElem? (i := 12) rfl))
theorem dX8_one_29 : decode cX8_one 29 = .ok (.ifCond .eq 8, 3) := of_decide_eq_true (List.all_eq_true.mp dA_X8_one_0 (29, .ifCond .eq 8, 3) (List.mem_of_getElem? (i := 13) rfl))
theorem dX8_one_32 : decode cX8_one 32 = .ok (.aload_n 0, 1) := of_decide_eq_true (List.all_eq_true.mp dA_X8_one_0 (32, .aload_n 0, 1) (List.mem_of_getElem? (i := 14) rfl))
theorem dX8_one_33 : decode cX8_one 33 = .ok (.invokevirtual 101, 3) := of_decide_eq_true (List.all_eq_true.mp dA_X8_one_0 (33, .invokevirtual 101, 3) (List.mem_of_getElem? (i := 15) rfl))
theorem dX8_one_36 : decode cX8_one 36 = .ok (.ireturn, 1) := of_decide_eq_true (List.all_eq_true.mp dA_X8_one_0 (36, .ireturn, 1) (List.mem_of_getElem? (i := 16) rfl))
theorem dX8_one_37 : decode cX8_one 37 = .ok (.aload_n 0, 1) := of_decide_eq_true (List.all_eq_true.mp dA_X8_one_0 (37, .aload_n 0, 1) (List.mem_of_getElem? (i := 17) rfl))
theorem dX8_one_38 : decode cX8_one 38 = .ok (.getfield 10, 3) := of_decide_eq_true (List.all_eq_true.mp dA_X8_one_0 (38, .getfield 10, 3) (List.mem_of_getElem? (i := 18) rfl))
theorem dX8_one_41 : decode cX8_one 41 = .ok (.getfield 81, 3) := of_decide_eq_true (List.all_eq_true.mp dA_X8_one_0 (41, .getfield 81, 3) (List.mem_of_getElem? (i := 19) rfl))
theorem dX8_one_44 : decode cX8_one 44 = .ok (.invokevirtual 84, 3) := of_decide_eq_true (List.all_eq_true.mp dA_X8_one_0 (44, .invokevirtual 84, 3) (List.mem_of_getElem? (i := 20) rfl))
theorem dX8_one_47 : decode cX8_one 47 = .ok (.aload_n 0, 1) := of_decide_eq_true (List.all_eq_true.mp dA_X8_one_0 (47, .aload_n 0, 1) (List.mem_of_getElem? (i := 21) rfl))
theorem dX8_one_48 : decode cX8_one 48 = .ok (.getfield 10, 3) := of_decide_eq_true (List.all_eq_true.mp dA_X8_one_0 (48, .getfield 10, 3) (List.mem_of_getElem? (i := 22) rfl))
theorem dX8_one_51 : decode cX8_one 51 = .ok (.iload_n 1, 1) := of_decide_eq_true (List.all_eq_true.mp dA_X8_one_0 (51, .iload_n 1, 1) (List.mem_of_getElem? (i := 23) rfl))
theorem dX8_one_52 : decode cX8_one 52 = .ok (.iload_n 2, 1) := of_decide_eq_true (List.all_eq_true.mp dA_X8_one_0 (52, .iload_n 2, 1) (List.mem_of_getElem? (i := 24) rfl))
theorem dX8_one_53 : decode cX8_one 53 = .ok (.invokevirtual 104, 3) := of_decide_eq_true (List.all_eq_true.mp dA_X8_one_0 (53, .invokevirtual 104, 3) (List.mem_of_getElem? (i := 25) rfl))
theorem dX8_one_56 : decode cX8_one 56 = .ok (.ireturn, 1) := of_decide_eq_true (List.all_eq_true.mp dA_X8_one_0 (56, .ireturn, 1) (List.mem_of_getElem? (i := 26) rfl))
set_option maxRecDepth 20000 in
theorem ggX8_type_X8_within : GoodIn wsX8_type wsX8_within := goodIn_r _ [5] (by decide +kernel) (by decide +kernel)
set_option maxRecDepth 20000 in
theorem gX8_type_X8_within : GoodIn wsX8_type (va_wsS RX8 57 yX8_within wsX8_within) := goodIn_app (goodIn_of _ (by decide +kernel)) ggX8_type_X8_within
set_option maxRecDepth 20000 in
theorem ggX8_type_X8_bad : GoodIn wsX8_type wsX8_bad := goodIn_r _ [9, 10, 27, 28, 29, 30, 31, 32, 33, 34, 35, 36, 37, 38, 39, 40] (by decide +kernel) (by decide +kernel)
set_option maxRecDepth 20000 in
theorem gX8_type_X8_bad : GoodIn wsX8_type (wsV RX8 61 RX8 yX8_bad wsX8_bad) := goodIn_app (goodIn_of _ (by decide +kernel)) ggX8_type_X8_bad
set_option maxRecDepth 20000 in
theorem ggX8_type_X4_isFull : GoodIn wsX8_type wsX4_isFull := goodIn_r _ [15, 16, 41, 42, 43, 44, 45, 46] (by decide +kernel) (by decide +kernel)
set_option maxRecDepth 20000 in
theorem gX8_type_X4_isFull : GoodIn wsX8_type (wsV RX8 108 RX4 yX4_isFull wsX4_isFull) := goodIn_app (goodIn_of _ (by decide +kernel)) ggX8_type_X4_isFull
set_option maxRecDepth 20000 in
theorem ggX8_type_X8_full : GoodIn wsX8_type wsX8_full := goodIn_r _ [20, 21, 27, 28, 29, 30, 31, 32, 33, 34, 35, 36, 37, 38, 39, 40] (by decide +kernel) (by decide +kernel)
set_option maxRecDepth 20000 in
theorem gX8_type_X8_full : GoodIn wsX8_type (wsV RX8 101 RX8 yX8_full wsX8_full) := goodIn_app (goodIn_of _ (by decide +kernel)) ggX8_type_X8_full
set_option maxRecDepth 20000 in
theorem ggX8_type_X4_append : GoodIn wsX8_type wsX4_append := goodIn_r _ [25, 16, 26, 41, 42, 43, 44, 45, 46] (by decide +kernel) (by decide +kernel)
set_option maxRecDepth 20000 in
theorem gX8_type_X4_append : GoodIn wsX8_type (wsV RX8 109 RX4 yX4_append wsX4_append) := goodIn_app (goodIn_of _ (by decide +kernel)) ggX8_type_X4_append
set_option maxRecDepth 20000 in
theorem dA_X8_type_0 : (([(0, .iload_n 1, 1), (1, .iconst 0, 1), (2, .bipush 127, 2), (4, .invokestatic 57, 3), (7, .ifCond .ne 8, 3), (10, .aload_n 0, 1), (11, .invokevirtual 61, 3), (14, .ireturn, 1), (15, .aload_n 0, 1), (16, .getfield 28, 3), (19, .invokevirtual 108, 3), (22, .ifCond .eq 8, 3), (25, .aload_n 0, 1), (26, .invokevirtual 101, 3), (29, .ireturn, 1), (30, .aload_n 0, 1), (31, .getfield 28, 3), (34, .iload_n 1, 1), (35, .invokevirtual 109, 3), (38, .aload_n 0, 1), (39, .getfield 28, 3), (42, .getfield 113, 3), (45, .ireturn, 1)] : List (Nat × Instr × Nat)).all fun q => decide (decode cX8_type q.1 = .ok (q.2.1, q.2.2))) = true := by decide +kernel
theorem dX8_type_0 : decode cX8_type 0 = .ok (.iload_n 1, 1) := of_decide_eq_true (List.all_eq_true.mp dA_X8_type_0 (0, .iload_n 1, 1) (List.mem_of_getElem? (i := 0) rfl))
theorem dX8_type_1 : decode cX8_type 1 = .ok (.iconst 0, 1) := of_decide_eq_true (List.all_eq_true.mp dA_X8_type_0 (1, .iconst 0, 1) (List.mem_of_getElem? (i := 1) rfl))
theorem dX8_type_2 : decode cX8_type 2 = .ok (.bipush 127, 2) := of_decide_eq_true (List.all_eq_true.mp dA_X8_type_0 (2, .bipush 127, 2) (List.mem_of_getElem? (i := 2) rfl))
theorem dX8_type_4 : decode cX8_type 4 = .ok (.invokestatic 57, 3) := of_decide_eq_true (List.all_eq_true.mp dA_X8_type_0 (4, .invokestatic 57, 3) (List.mem_of_getElem? (i := 3) rfl))
theorem dX8_type_7 : decode cX8_type 7 = .ok (.ifCond .ne 8, 3) := of_decide_eq_true (List.all_eq_true.mp dA_X8_type_0 (7, .ifCond .ne 8, 3) (List.mem_of_getElem? (i := 4) rfl))
theorem dX8_type_10 : decode cX8_type 10 = .ok (.aload_n 0, 1) := of_decide_eq_true (List.all_eq_true.mp dA_X8_type_0 (10, .aload_n 0, 1) (List.mem_of_getElem? (i := 5) rfl))
theorem dX8_type_11 : decode cX8_type 11 = .ok (.invokevirtual 61, 3) := of_decide_eq_true (List.all_eq_true.mp dA_X8_type_0 (11, .invokevirtual 61, 3) (List.mem_of_getElem? (i := 6) rfl))
theorem dX8_type_14 : decode cX8_type 14 = .ok (.ireturn, 1) := of_decide_eq_true (List.all_eq_true.mp dA_X8_type_0 (14, .ireturn, 1) (List.mem_of_getElem? (i := 7) rfl))
theorem dX8_type_15 : decode cX8_type 15 = .ok (.aload_n 0, 1) := of_decide_eq_true (List.all_eq_true.mp dA_X8_type_0 (15, .aload_n 0, 1) (List.mem_of_getElem? (i := 8) rfl))
theorem dX8_type_16 : decode cX8_type 16 = .ok (.getfield 28, 3) := of_decide_eq_true (List.all_eq_true.mp dA_X8_type_0 (16, .getfield 28, 3) (List.mem_of_getElem? (i := 9) rfl))
theorem dX8_type_19 : decode cX8_type 19 = .ok (.invokevirtual 108, 3) := of_decide_eq_true (List.all_eq_true.mp dA_X8_type_0 (19, .invokevirtual 108, 3) (List.mem_of_getElem? (i := 10) rfl))
theorem dX8_type_22 : decode cX8_type 22 = .ok (.ifCond .eq 8, 3) := of_decide_eq_true (List.all_eq_true.mp dA_X8_type_0 (22, .ifCond .eq 8, 3) (List.mem_of_getElem? (i := 11) rfl))
theorem dX8_type_25 : decode cX8_type 25 = .ok (.aload_n 0, 1) := of_decide_eq_true (List.all_eq_true.mp dA_X8_type_0 (25, .aload_n 0, 1) (List.mem_of_getElem? (i := 12) rfl))
theorem dX8_type_26 : decode cX8_type 26 = .ok (.invokevirtual 101, 3) := of_decide_eq_true (List.all_eq_true.mp dA_X8_type_0 (26, .invokevirtual 101, 3) (List.mem_of_getElem? (i := 13) rfl))
theorem dX8_type_29 : decode cX8_type 29 = .ok (.ireturn, 1) := of_decide_eq_true (List.all_eq_true.mp dA_X8_type_0 (29, .ireturn, 1) (List.mem_of_getElem? (i := 14) rfl))
theorem dX8_type_30 : decode cX8_type 30 = .ok (.aload_n 0, 1) := of_decide_eq_true (List.all_eq_true.mp dA_X8_type_0 (30, .aload_n 0, 1) (List.mem_of_getElem? (i := 15) rfl))
theorem dX8_type_31 : decode cX8_type 31 = .ok (.getfield 28, 3) := of_decide_eq_true (List.all_eq_true.mp dA_X8_type_0 (31, .getfield 28, 3) (List.mem_of_getElem? (i := 16) rfl))
theorem dX8_type_34 : decode cX8_type 34 = .ok (.iload_n 1, 1) := of_decide_eq_true (List.all_eq_true.mp dA_X8_type_0 (34, .iload_n 1, 1) (List.mem_of_getElem? (i := 17) rfl))
theorem dX8_type_35 : decode cX8_type 35 = .ok (.invokevirtual 109, 3) := of_decide_eq_true (List.all_eq_true.mp dA_X8_type_0 (35, .invokevirtual 109, 3) (List.mem_of_getElem? (i := 18) rfl))
theorem dX8_type_38 : decode cX8_type 38 = .ok (.aload_n 0, 1) := of_decide_eq_true (List.all_eq_true.mp dA_X8_type_0 (38, .aload_n 0, 1) (List.mem_of_getElem? (i := 19) rfl))
theorem dX8_type_39 : decode cX8_type 39 = .ok (.getfield 28, 3) := of_decide_eq_true (List.all_eq_true.mp dA_X8_type_0 (39, .getfield 28, 3) (List.mem_of_getElem? (i := 20) rfl))
theorem dX8_type_42 : decode cX8_type 42 = .ok (.getfield 113, 3) := of_decide_eq_true (List.all_eq_true.mp dA_X8_type_0 (42, .getfield 113, 3) (List.mem_of_getElem? (i := 21) rfl))
theorem dX8_type_45 : decode cX8_type 45 = .ok (.ireturn, 1) := of_decide_eq_true (List.all_eq_true.mp dA_X8_type_0 (45, .ireturn, 1) (List.mem_of_getElem? (i := 22) rfl))
set_option maxRecDepth 20000 in
theorem dA_X8_clear_0 : (([(0, .aload_n 0, 1), (1, .getfield 28, 3), (4, .getfield 113, 3), (7, .istore_n 1, 1), (8, .aload_n 0, 1), (9, .getfield 28, 3), (12, .iconst 0, 1), (13, .putfield 113, 3), (16, .iload_n 1, 1), (17, .ireturn, 1)] : List (Nat × Instr × Nat)).all fun q => decide (decode cX8_clear q.1 = .ok (q.2.1, q.2.2))) = true := by decide +kernel
theorem dX8_clear_0 : decode cX8_clear 0 = .ok (.aload_n 0, 1) := of_decide_eq_true (List.all_eq_true.mp dA_X8_clear_0 (0, .aload_n 0, 1) (List.mem_of_getElem? (i := 0) rfl))
theorem dX8_clear_1 : decode cX8_clear 1 = .ok (.getfield 28, 3) := of_decide_eq_true (List.all_eq_true.mp dA_X8_clear_0 (1, .getfield 28, 3) (List.mem_of_getElem? (i := 1) rfl))
theorem dX8_clear_4 : decode cX8_clear 4 = .ok (.getfield 113, 3) := of_decide_eq_true (List.all_eq_true.mp dA_X8_clear_0 (4, .getfield 113, 3) (List.mem_of_getElem? (i := 2) rfl))
theorem dX8_clear_7 : decode cX8_clear 7 = .ok (.istore_n 1, 1) := of_decide_eq_true (List.all_eq_true.mp dA_X8_clear_0 (7, .istore_n 1, 1) (List.mem_of_getElem? (i := 3) rfl))
theorem dX8_clear_8 : decode cX8_clear 8 = .ok (.aload_n 0, 1) := of_decide_eq_true (List.all_eq_true.mp dA_X8_clear_0 (8, .aload_n 0, 1) (List.mem_of_getElem? (i := 4) rfl))
theorem dX8_clear_9 : decode cX8_clear 9 = .ok (.getfield 28, 3) := of_decide_eq_true (List.all_eq_true.mp dA_X8_clear_0 (9, .getfield 28, 3) (List.mem_of_getElem? (i := 5) rfl))
theorem dX8_clear_12 : decode cX8_clear 12 = .ok (.iconst 0, 1) := of_decide_eq_true (List.all_eq_true.mp dA_X8_clear_0 (12, .iconst 0, 1) (List.mem_of_getElem? (i := 6) rfl))
theorem dX8_clear_13 : decode cX8_clear 13 = .ok (.putfield 113, 3) := of_decide_eq_true (List.all_eq_true.mp dA_X8_clear_0 (13, .putfield 113, 3) (List.mem_of_getElem? (i := 7) rfl))
theorem dX8_clear_16 : decode cX8_clear 16 = .ok (.iload_n 1, 1) := of_decide_eq_true (List.all_eq_true.mp dA_X8_clear_0 (16, .iload_n 1, 1) (List.mem_of_getElem? (i := 8) rfl))
theorem dX8_clear_17 : decode cX8_clear 17 = .ok (.ireturn, 1) := of_decide_eq_true (List.all_eq_true.mp dA_X8_clear_0 (17, .ireturn, 1) (List.mem_of_getElem? (i := 9) rfl))
set_option maxRecDepth 20000 in
theorem ggX8_read_X6_build : GoodIn wsX8_read wsX6_build := goodIn_r _ [7, 8, 9, 10, 11, 12, 13, 14, 15, 6, 16, 17, 18, 19, 20, 21, 22, 23, 24, 25, 26, 27, 28, 29, 30, 31, 32, 33, 34, 35, 36, 37, 38, 39, 40, 41, 42, 43, 44, 45, 46, 47, 48, 49, 50, 51, 52, 53, 54, 55, 56, 57, 58, 59, 60, 61, 62, 63, 64, 65, 66, 67, 68, 69, 70, 71, 72, 73, 74, 75, 76, 77, 78, 79, 80, 81, 82, 83, 84, 85, 86, 87, 88, 89, 90, 91, 92, 93, 94, 95, 96, 97, 98, 99, 100, 101, 102, 103, 104, 105, 106, 107, 108, 109, 110, 111, 112, 113, 114, 115, 116, 117, 118, 119, 120, 121, 122, 123, 124, 125, 126, 127, 128, 129, 130, 131, 132, 133, 134, 135, 136, 137, 138, 139, 140, 141, 142, 143, 144, 145, 146, 147, 148, 149, 150, 151, 152, 153, 154, 155, 156, 157, 158, 159, 160, 161, 162, 163, 164, 165, 166, 167, 168, 169, 170, 171, 172, 173, 174, 175, 176, 177, 178, 179, 180, 181, 182, 183, 184, 185, 186, 187, 188, 189, 190, 191, 192, 193, 194, 195, 196, 197, 198, 199, 200, 201, 202, 203, 204, 205, 206, 207, 208, 209, 210, 211, 212, 213, 214, 215, 216, 217, 218, 219, 220, 221, 222, 223, 224, 251, 252, 253, 254, 255, 256, 257, 258, 259, 260, 261, 262, 263, 264, 265, 266, 267, 268, 269, 270, 271] (by decide +kernel) (by decide +kernel)
set_option maxRecDepth 20000 in
theorem gX8_read_X6_build : GoodIn wsX8_read (va_wsS RX8 116 yX6_build wsX6_build) := goodIn_app (goodIn_of _ (by decide +kernel)) ggX8_read_X6_build
set_option maxRecDepth 20000 in
theorem ggX8_read_X1_copy : GoodIn wsX8_read wsX1_copy := goodIn_r _ [228, 104, 105, 106, 107, 108, 109, 110, 111, 112, 113, 179, 180, 181, 102, 182, 118, 114, 115, 116, 117, 229, 230, 231, 122, 232, 154, 233, 234, 235, 236, 124, 257, 258, 259, 260, 261, 262, 263, 264, 265, 266, 267, 268, 269, 270, 271] (by decide +kernel) (by decide +kernel)
set_option maxRecDepth 20000 in
theorem gX8_read_X1_copy : GoodIn wsX8_read (wsV RX8 122 RX1 yX1_copy wsX1_copy) := goodIn_app (goodIn_of _ (by decide +kernel)) ggX8_read_X1_copy
set_option maxRecDepth 20000 in
theorem dA_X8_read_0 : (([(0, .aload_n 0, 1), (1, .getfield 28, 3), (4, .aload_n 0, 1), (5, .getfield 16, 3), (8, .invokestatic 116, 3), (11, .istore_n 1, 1), (12, .iload_n 1, 1), (13, .ifCond .le 14, 3), (16, .aload_n 0, 1), (17, .getfield 10, 3), (20, .aload_n 0, 1), (21, .getfield 16, 3), (24, .invokevirtual 122, 3), (27, .iload_n 1, 1), (28, .ireturn, 1)] : List (Nat × Instr × Nat)).all fun q => decide (decode cX8_read q.1 = .ok (q.2.1, q.2.2))) = true := by decide +kernel
theorem dX8_read_0 : decode cX8_read 0 = .ok (.aload_n 0, 1) := of_decide_eq_true (List.all_eq_true.mp dA_X8_read_0 (0, .aload_n 0, 1) (List.mem_of_getElem? (i := 0) rfl))
theorem dX8_read_1 : decode cX8_read 1 = .ok (.getfield 28, 3) := of_decide_eq_true (List.all_eq_true.mp dA_X8_read_0 (1, .getfield 28, 3) (List.mem_of_getElem? (i := 1) rfl))
theorem dX8_read_4 : decode cX8_read 4 = .ok (.aload_n 0, 1) := of_decide_eq_true (List.all_eq_true.mp dA_X8_read_0 (4, .aload_n 0, 1) (List.mem_of_getElem? (i := 2) rfl))
theorem dX8_read_5 : decode cX8_read 5 = .ok (.getfield 16, 3) := of_decide_eq_true (List.all_eq_true.mp dA_X8_read_0 (5, .getfield 16, 3) (List.mem_of_getElem? (i := 3) rfl))
theorem dX8_read_8 : decode cX8_read 8 = .ok (.invokestatic 116, 3) := of_decide_eq_true (List.all_eq_true.mp dA_X8_read_0 (8, .invokestatic 116, 3) (List.mem_of_getElem? (i := 4) rfl))
theorem dX8_read_11 : decode cX8_read 11 = .ok (.istore_n 1, 1) := of_decide_eq_true (List.all_eq_true.mp dA_X8_read_0 (11, .istore_n 1, 1) (List.mem_of_getElem? (i := 5) rfl))
theorem dX8_read_12 : decode cX8_read 12 = .ok (.iload_n 1, 1) := of_decide_eq_true (List.all_eq_true.mp dA_X8_read_0 (12, .iload_n 1, 1) (List.mem_of_getElem? (i := 6) rfl))
theorem dX8_read_13 : decode cX8_read 13 = .ok (.ifCond .le 14, 3) := of_decide_eq_true (List.all_eq_true.mp dA_X8_read_0 (13, .ifCond .le 14, 3) (List.mem_of_getElem? (i := 7) rfl))
theorem dX8_read_16 : decode cX8_read 16 = .ok (.aload_n 0, 1) := of_decide_eq_true (List.all_eq_true.mp dA_X8_read_0 (16, .aload_n 0, 1) (List.mem_of_getElem? (i := 8) rfl))
theorem dX8_read_17 : decode cX8_read 17 = .ok (.getfield 10, 3) := of_decide_eq_true (List.all_eq_true.mp dA_X8_read_0 (17, .getfield 10, 3) (List.mem_of_getElem? (i := 9) rfl))
theorem dX8_read_20 : decode cX8_read 20 = .ok (.aload_n 0, 1) := of_decide_eq_true (List.all_eq_true.mp dA_X8_read_0 (20, .aload_n 0, 1) (List.mem_of_getElem? (i := 10) rfl))
theorem dX8_read_21 : decode cX8_read 21 = .ok (.getfield 16, 3) := of_decide_eq_true (List.all_eq_true.mp dA_X8_read_0 (21, .getfield 16, 3) (List.mem_of_getElem? (i := 11) rfl))
theorem dX8_read_24 : decode cX8_read 24 = .ok (.invokevirtual 122, 3) := of_decide_eq_true (List.all_eq_true.mp dA_X8_read_0 (24, .invokevirtual 122, 3) (List.mem_of_getElem? (i := 12) rfl))
theorem dX8_read_27 : decode cX8_read 27 = .ok (.iload_n 1, 1) := of_decide_eq_true (List.all_eq_true.mp dA_X8_read_0 (27, .iload_n 1, 1) (List.mem_of_getElem? (i := 13) rfl))
theorem dX8_read_28 : decode cX8_read 28 = .ok (.ireturn, 1) := of_decide_eq_true (List.all_eq_true.mp dA_X8_read_0 (28, .ireturn, 1) (List.mem_of_getElem? (i := 14) rfl))
set_option maxRecDepth 20000 in
theorem ggX8_comes_X1_isThere : GoodIn wsX8_comes wsX1_isThere := goodIn_r _ [6, 7, 8, 9, 10, 124, 125, 126, 127, 128, 129, 130, 131, 132, 133, 134, 135, 136, 137, 138] (by decide +kernel) (by decide +kernel)
set_option maxRecDepth 20000 in
theorem gX8_comes_X1_isThere : GoodIn wsX8_comes (wsV RX8 126 RX1 yX1_isThere wsX1_isThere) := goodIn_app (goodIn_of _ (by decide +kernel)) ggX8_comes_X1_isThere
set_option maxRecDepth 20000 in
theorem ggX8_comes_X8_bad : GoodIn wsX8_comes wsX8_bad := goodIn_r _ [14, 15, 110, 111, 112, 113, 114, 115, 116, 117, 118, 119, 120, 121, 122, 123] (by decide +kernel) (by decide +kernel)
set_option maxRecDepth 20000 in
theorem gX8_comes_X8_bad : GoodIn wsX8_comes (wsV RX8 61 RX8 yX8_bad wsX8_bad) := goodIn_app (goodIn_of _ (by decide +kernel)) ggX8_comes_X8_bad
set_option maxRecDepth 20000 in
theorem ggX8_comes_X1_isIn : GoodIn wsX8_comes wsX1_isIn := goodIn_r _ [19, 7, 20, 21, 22, 23, 24, 25, 26, 27, 124, 125, 126, 127, 128, 129, 130, 131, 132, 133, 134, 135, 136, 137, 138] (by decide +kernel) (by decide +kernel)
set_option maxRecDepth 20000 in
theorem gX8_comes_X1_isIn : GoodIn wsX8_comes (wsV RX8 129 RX1 yX1_isIn wsX1_isIn) := goodIn_app (goodIn_of _ (by decide +kernel)) ggX8_comes_X1_isIn
set_option maxRecDepth 20000 in
theorem ggX8_comes_X8_no : GoodIn wsX8_comes wsX8_no := goodIn_r _ [31, 32, 110, 111, 112, 113, 114, 115, 116, 117, 118, 119, 120, 121, 122, 123] (by decide +kernel) (by decide +kernel)
set_option maxRecDepth 20000 in
theorem gX8_comes_X8_no : GoodIn wsX8_comes (wsV RX8 132 RX8 yX8_no wsX8_no) := goodIn_app (goodIn_of _ (by decide +kernel)) ggX8_comes_X8_no
set_option maxRecDepth 20000 in
theorem ggX8_comes_X1_keep : GoodIn wsX8_comes wsX1_keep := goodIn_r _ [36, 37, 38, 39, 40, 7, 41, 42, 43, 23, 44, 25, 45, 46, 47, 48, 49, 27, 26, 50, 51, 52, 53, 54, 55, 56, 57, 58, 59, 60, 61, 62, 63, 64, 65, 5, 66, 20, 21, 22, 24, 124, 125, 126, 127, 128, 129, 130, 131, 132, 133, 134, 135, 136, 137, 138] (by decide +kernel) (by decide +kernel)
set_option maxRecDepth 20000 in
theorem gX8_comes_X1_keep : GoodIn wsX8_comes (wsV RX8 135 RX1 yX1_keep wsX1_keep) := goodIn_app (goodIn_of _ (by decide +kernel)) ggX8_comes_X1_keep
set_option maxRecDepth 20000 in
theorem ggX8_comes_X1_arrive : GoodIn wsX8_comes wsX1_arrive := goodIn_r _ [70, 7, 71, 72, 73, 74, 40, 39, 75, 76, 77, 5, 78, 38, 79, 80, 81, 82, 83, 84, 85, 86, 87, 88, 89, 90, 91, 92, 93, 94, 95, 96, 23, 97, 25, 98, 21, 22, 24, 26, 27, 99, 100, 101, 102, 20, 103, 104, 105, 106, 107, 108, 109, 63, 60, 61, 62, 124, 125, 126, 127, 128, 129, 130, 131, 132, 133, 134, 135, 136, 137, 138] (by decide +kernel) (by decide +kernel)
set_option maxRecDepth 20000 in
theorem gX8_comes_X1_arrive : GoodIn wsX8_comes (wsV RX8 138 RX1 yX1_arrive wsX1_arrive) := goodIn_app (goodIn_of _ (by decide +kernel)) ggX8_comes_X1_arrive
set_option maxRecDepth 20000 in
theorem dA_X8_comes_0 : (([(0, .aload_n 0, 1), (1, .getfield 10, 3), (4, .iload_n 1, 1), (5, .invokevirtual 126, 3), (8, .ifCond .ne 8, 3), (11, .aload_n 0, 1), (12, .invokevirtual 61, 3), (15, .ireturn, 1), (16, .aload_n 0, 1), (17, .getfield 10, 3), (20, .iload_n 1, 1), (21, .invokevirtual 129, 3), (24, .ifCond .eq 8, 3), (27, .aload_n 0, 1), (28, .invokevirtual 132, 3), (31, .ireturn, 1), (32, .aload_n 0, 1), (33, .getfield 10, 3), (36, .invokevirtual 135, 3), (39, .aload_n 0, 1), (40, .getfield 10, 3), (43, .iload_n 1, 1), (44, .invokevirtual 138, 3), (47, .ifCond .eq 7, 3), (50, .iconst 1, 1), (51, .goto 4, 3), (54, .iconst 0, 1), (55, .ireturn, 1)] : List (Nat × Instr × Nat)).all fun q => decide (decode cX8_comes q.1 = .ok (q.2.1, q.2.2))) = true := by decide +kernel
theorem dX8_comes_0 : decode cX8_comes 0 = .ok (.aload_n 0, 1) := of_decide_eq_true (List.all_eq_true.mp dA_X8_comes_0 (0, .aload_n 0, 1) (List.mem_of_getElem? (i := 0) rfl))
theorem dX8_comes_1 : decode cX8_comes 1 = .ok (.getfield 10, 3) := of_decide_eq_true (List.all_eq_true.mp dA_X8_comes_0 (1, .getfield 10, 3) (List.mem_of_getElem? (i := 1) rfl))
theorem dX8_comes_4 : decode cX8_comes 4 = .ok (.iload_n 1, 1) := of_decide_eq_true (List.all_eq_true.mp dA_X8_comes_0 (4, .iload_n 1, 1) (List.mem_of_getElem? (i := 2) rfl))
theorem dX8_comes_5 : decode cX8_comes 5 = .ok (.invokevirtual 126, 3) := of_decide_eq_true (List.all_eq_true.mp dA_X8_comes_0 (5, .invokevirtual 126, 3) (List.mem_of_getElem? (i := 3) rfl))
theorem dX8_comes_8 : decode cX8_comes 8 = .ok (.ifCond .ne 8, 3) := of_decide_eq_true (List.all_eq_true.mp dA_X8_comes_0 (8, .ifCond .ne 8, 3) (List.mem_of_getElem? (i := 4) rfl))
theorem dX8_comes_11 : decode cX8_comes 11 = .ok (.aload_n 0, 1) := of_decide_eq_true (List.all_eq_true.mp dA_X8_comes_0 (11, .aload_n 0, 1) (List.mem_of_getElem? (i := 5) rfl))
theorem dX8_comes_12 : decode cX8_comes 12 = .ok (.invokevirtual 61, 3) := of_decide_eq_true (List.all_eq_true.mp dA_X8_comes_0 (12, .invokevirtual 61, 3) (List.mem_of_getElem? (i := 6) rfl))
theorem dX8_comes_15 : decode cX8_comes 15 = .ok (.ireturn, 1) := of_decide_eq_true (List.all_eq_true.mp dA_X8_comes_0 (15, .ireturn, 1) (List.mem_of_getElem? (i := 7) rfl))
theorem dX8_comes_16 : decode cX8_comes 16 = .ok (.aload_n 0, 1) := of_decide_eq_true (List.all_eq_true.mp dA_X8_comes_0 (16, .aload_n 0, 1) (List.mem_of_getElem? (i := 8) rfl))
theorem dX8_comes_17 : decode cX8_comes 17 = .ok (.getfield 10, 3) := of_decide_eq_true (List.all_eq_true.mp dA_X8_comes_0 (17, .getfield 10, 3) (List.mem_of_getElem? (i := 9) rfl))
theorem dX8_comes_20 : decode cX8_comes 20 = .ok (.iload_n 1, 1) := of_decide_eq_true (List.all_eq_true.mp dA_X8_comes_0 (20, .iload_n 1, 1) (List.mem_of_getElem? (i := 10) rfl))
theorem dX8_comes_21 : decode cX8_comes 21 = .ok (.invokevirtual 129, 3) := of_decide_eq_true (List.all_eq_true.mp dA_X8_comes_0 (21, .invokevirtual 129, 3) (List.mem_of_getElem? (i := 11) rfl))
theorem dX8_comes_24 : decode cX8_comes 24 = .ok (.ifCond .eq 8, 3) := of_decide_eq_true (List.all_eq_true.mp dA_X8_comes_0 (24, .ifCond .eq 8, 3) (List.mem_of_getElem? (i := 12) rfl))
theorem dX8_comes_27 : decode cX8_comes 27 = .ok (.aload_n 0, 1) := of_decide_eq_true (List.all_eq_true.mp dA_X8_comes_0 (27, .aload_n 0, 1) (List.mem_of_getElem? (i := 13) rfl))
theorem dX8_comes_28 : decode cX8_comes 28 = .ok (.invokevirtual 132, 3) := of_decide_eq_true (List.all_eq_true.mp dA_X8_comes_0 (28, .invokevirtual 132, 3) (List.mem_of_getElem? (i := 14) rfl))
theorem dX8_comes_31 : decode cX8_comes 31 = .ok (.ireturn, 1) := of_decide_eq_true (List.all_eq_true.mp dA_X8_comes_0 (31, .ireturn, 1) (List.mem_of_getElem? (i := 15) rfl))
theorem dX8_comes_32 : decode cX8_comes 32 = .ok (.aload_n 0, 1) := of_decide_eq_true (List.all_eq_true.mp dA_X8_comes_0 (32, .aload_n 0, 1) (List.mem_of_getElem? (i := 16) rfl))
theorem dX8_comes_33 : decode cX8_comes 33 = .ok (.getfield 10, 3) := of_decide_eq_true (List.all_eq_true.mp dA_X8_comes_0 (33, .getfield 10, 3) (List.mem_of_getElem? (i := 17) rfl))
theorem dX8_comes_36 : decode cX8_comes 36 = .ok (.invokevirtual 135, 3) := of_decide_eq_true (List.all_eq_true.mp dA_X8_comes_0 (36, .invokevirtual 135, 3) (List.mem_of_getElem? (i := 18) rfl))
theorem dX8_comes_39 : decode cX8_comes 39 = .ok (.aload_n 0, 1) := of_decide_eq_true (List.all_eq_true.mp dA_X8_comes_0 (39, .aload_n 0, 1) (List.mem_of_getElem? (i := 19) rfl))
theorem dX8_comes_40 : decode cX8_comes 40 = .ok (.getfield 10, 3) := of_decide_eq_true (List.all_eq_true.mp dA_X8_comes_0 (40, .getfield 10, 3) (List.mem_of_getElem? (i := 20) rfl))
theorem dX8_comes_43 : decode cX8_comes 43 = .ok (.iload_n 1, 1) := of_decide_eq_true (List.all_eq_true.mp dA_X8_comes_0 (43, .iload_n 1, 1) (List.mem_of_getElem? (i := 21) rfl))
theorem dX8_comes_44 : decode cX8_comes 44 = .ok (.invokevirtual 138, 3) := of_decide_eq_true (List.all_eq_true.mp dA_X8_comes_0 (44, .invokevirtual 138, 3) (List.mem_of_getElem? (i := 22) rfl))
theorem dX8_comes_47 : decode cX8_comes 47 = .ok (.ifCond .eq 7, 3) := of_decide_eq_true (List.all_eq_true.mp dA_X8_comes_0 (47, .ifCond .eq 7, 3) (List.mem_of_getElem? (i := 23) rfl))
theorem dX8_comes_50 : decode cX8_comes 50 = .ok (.iconst 1, 1) := of_decide_eq_true (List.all_eq_true.mp dA_X8_comes_0 (50, .iconst 1, 1) (List.mem_of_getElem? (i := 24) rfl))
theorem dX8_comes_51 : decode cX8_comes 51 = .ok (.goto 4, 3) := of_decide_eq_true (List.all_eq_true.mp dA_X8_comes_0 (51, .goto 4, 3) (List.mem_of_getElem? (i := 25) rfl))
theorem dX8_comes_54 : decode cX8_comes 54 = .ok (.iconst 0, 1) := of_decide_eq_true (List.all_eq_true.mp dA_X8_comes_0 (54, .iconst 0, 1) (List.mem_of_getElem? (i := 26) rfl))
theorem dX8_comes_55 : decode cX8_comes 55 = .ok (.ireturn, 1) := of_decide_eq_true (List.all_eq_true.mp dA_X8_comes_0 (55, .ireturn, 1) (List.mem_of_getElem? (i := 27) rfl))
set_option maxRecDepth 20000 in
theorem ggX8_goes_X1_isThere : GoodIn wsX8_goes wsX1_isThere := goodIn_r _ [6, 7, 8, 9, 10, 94, 95, 96, 97, 98, 99, 100, 101, 102, 103, 104, 105, 106, 107, 108] (by decide +kernel) (by decide +kernel)
set_option maxRecDepth 20000 in
theorem gX8_goes_X1_isThere : GoodIn wsX8_goes (wsV RX8 126 RX1 yX1_isThere wsX1_isThere) := goodIn_app (goodIn_of _ (by decide +kernel)) ggX8_goes_X1_isThere
set_option maxRecDepth 20000 in
theorem ggX8_goes_X8_bad : GoodIn wsX8_goes wsX8_bad := goodIn_r _ [14, 15, 80, 81, 82, 83, 84, 85, 86, 87, 88, 89, 90, 91, 92, 93] (by decide +kernel) (by decide +kernel)
set_option maxRecDepth 20000 in
theorem gX8_goes_X8_bad : GoodIn wsX8_goes (wsV RX8 61 RX8 yX8_bad wsX8_bad) := goodIn_app (goodIn_of _ (by decide +kernel)) ggX8_goes_X8_bad
set_option maxRecDepth 20000 in
theorem ggX8_goes_X1_isIn : GoodIn wsX8_goes wsX1_isIn := goodIn_r _ [19, 7, 20, 21, 22, 23, 24, 25, 26, 27, 94, 95, 96, 97, 98, 99, 100, 101, 102, 103, 104, 105, 106, 107, 108] (by decide +kernel) (by decide +kernel)
set_option maxRecDepth 20000 in
theorem gX8_goes_X1_isIn : GoodIn wsX8_goes (wsV RX8 129 RX1 yX1_isIn wsX1_isIn) := goodIn_app (goodIn_of _ (by decide +kernel)) ggX8_goes_X1_isIn
set_option maxRecDepth 20000 in
theorem ggX8_goes_X8_no : GoodIn wsX8_goes wsX8_no := goodIn_r _ [31, 32, 80, 81, 82, 83, 84, 85, 86, 87, 88, 89, 90, 91, 92, 93] (by decide +kernel) (by decide +kernel)
set_option maxRecDepth 20000 in
theorem gX8_goes_X8_no : GoodIn wsX8_goes (wsV RX8 132 RX8 yX8_no wsX8_no) := goodIn_app (goodIn_of _ (by decide +kernel)) ggX8_goes_X8_no
set_option maxRecDepth 20000 in
theorem ggX8_goes_X1_keep : GoodIn wsX8_goes wsX1_keep := goodIn_r _ [36, 37, 38, 39, 40, 7, 41, 42, 43, 23, 44, 25, 45, 46, 47, 48, 49, 27, 26, 50, 51, 52, 53, 54, 55, 56, 57, 58, 59, 60, 61, 62, 63, 64, 65, 5, 66, 20, 21, 22, 24, 94, 95, 96, 97, 98, 99, 100, 101, 102, 103, 104, 105, 106, 107, 108] (by decide +kernel) (by decide +kernel)
set_option maxRecDepth 20000 in
theorem gX8_goes_X1_keep : GoodIn wsX8_goes (wsV RX8 135 RX1 yX1_keep wsX1_keep) := goodIn_app (goodIn_of _ (by decide +kernel)) ggX8_goes_X1_keep
set_option maxRecDepth 20000 in
theorem ggX8_goes_X1_leave : GoodIn wsX8_goes wsX1_leave := goodIn_r _ [70, 7, 63, 60, 61, 23, 62, 25, 26, 27, 94, 95, 96, 97, 98, 99, 100, 101, 102, 103, 104, 105, 106, 107, 108] (by decide +kernel) (by decide +kernel)
set_option maxRecDepth 20000 in
theorem gX8_goes_X1_leave : GoodIn wsX8_goes (wsV RX8 141 RX1 yX1_leave wsX1_leave) := goodIn_app (goodIn_of _ (by decide +kernel)) ggX8_goes_X1_leave
set_option maxRecDepth 20000 in
theorem ggX8_goes_X1_howManyIn : GoodIn wsX8_goes wsX1_howManyIn := goodIn_r _ [74, 7, 75, 76, 77, 23, 78, 25, 79, 21, 22, 24, 26, 27, 94, 95, 96, 97, 98, 99, 100, 101, 102, 103, 104, 105, 106, 107, 108] (by decide +kernel) (by decide +kernel)
set_option maxRecDepth 20000 in
theorem gX8_goes_X1_howManyIn : GoodIn wsX8_goes (wsV RX8 144 RX1 yX1_howManyIn wsX1_howManyIn) := goodIn_app (goodIn_of _ (by decide +kernel)) ggX8_goes_X1_howManyIn
set_option maxRecDepth 20000 in
theorem dA_X8_goes_0 : (([(0, .aload_n 0, 1), (1, .getfield 10, 3), (4, .iload_n 1, 1), (5, .invokevirtual 126, 3), (8, .ifCond .ne 8, 3), (11, .aload_n 0, 1), (12, .invokevirtual 61, 3), (15, .ireturn, 1), (16, .aload_n 0, 1), (17, .getfield 10, 3), (20, .iload_n 1, 1), (21, .invokevirtual 129, 3), (24, .ifCond .ne 8, 3), (27, .aload_n 0, 1), (28, .invokevirtual 132, 3), (31, .ireturn, 1), (32, .aload_n 0, 1), (33, .getfield 10, 3), (36, .invokevirtual 135, 3), (39, .aload_n 0, 1), (40, .getfield 10, 3), (43, .iload_n 1, 1), (44, .invokevirtual 141, 3), (47, .aload_n 0, 1), (48, .getfield 10, 3), (51, .invokevirtual 144, 3), (54, .ireturn, 1)] : List (Nat × Instr × Nat)).all fun q => decide (decode cX8_goes q.1 = .ok (q.2.1, q.2.2))) = true := by decide +kernel
theorem dX8_goes_0 : decode cX8_goes 0 = .ok (.aload_n 0, 1) := of_decide_eq_true (List.all_eq_true.mp dA_X8_goes_0 (0, .aload_n 0, 1) (List.mem_of_getElem? (i := 0) rfl))
theorem dX8_goes_1 : decode cX8_goes 1 = .ok (.getfield 10, 3) := of_decide_eq_true (List.all_eq_true.mp dA_X8_goes_0 (1, .getfield 10, 3) (List.mem_of_getElem? (i := 1) rfl))
theorem dX8_goes_4 : decode cX8_goes 4 = .ok (.iload_n 1, 1) := of_decide_eq_true (List.all_eq_true.mp dA_X8_goes_0 (4, .iload_n 1, 1) (List.mem_of_getElem? (i := 2) rfl))
theorem dX8_goes_5 : decode cX8_goes 5 = .ok (.invokevirtual 126, 3) := of_decide_eq_true (List.all_eq_true.mp dA_X8_goes_0 (5, .invokevirtual 126, 3) (List.mem_of_getElem? (i := 3) rfl))
theorem dX8_goes_8 : decode cX8_goes 8 = .ok (.ifCond .ne 8, 3) := of_decide_eq_true (List.all_eq_true.mp dA_X8_goes_0 (8, .ifCond .ne 8, 3) (List.mem_of_getElem? (i := 4) rfl))
theorem dX8_goes_11 : decode cX8_goes 11 = .ok (.aload_n 0, 1) := of_decide_eq_true (List.all_eq_true.mp dA_X8_goes_0 (11, .aload_n 0, 1) (List.mem_of_getElem? (i := 5) rfl))
theorem dX8_goes_12 : decode cX8_goes 12 = .ok (.invokevirtual 61, 3) := of_decide_eq_true (List.all_eq_true.mp dA_X8_goes_0 (12, .invokevirtual 61, 3) (List.mem_of_getElem? (i := 6) rfl))
theorem dX8_goes_15 : decode cX8_goes 15 = .ok (.ireturn, 1) := of_decide_eq_true (List.all_eq_true.mp dA_X8_goes_0 (15, .ireturn, 1) (List.mem_of_getElem? (i := 7) rfl))
theorem dX8_goes_16 : decode cX8_goes 16 = .ok (.aload_n 0, 1) := of_decide_eq_true (List.all_eq_true.mp dA_X8_goes_0 (16, .aload_n 0, 1) (List.mem_of_getElem? (i := 8) rfl))
theorem dX8_goes_17 : decode cX8_goes 17 = .ok (.getfield 10, 3) := of_decide_eq_true (List.all_eq_true.mp dA_X8_goes_0 (17, .getfield 10, 3) (List.mem_of_getElem? (i := 9) rfl))
theorem dX8_goes_20 : decode cX8_goes 20 = .ok (.iload_n 1, 1) := of_decide_eq_true (List.all_eq_true.mp dA_X8_goes_0 (20, .iload_n 1, 1) (List.mem_of_getElem? (i := 10) rfl))
theorem dX8_goes_21 : decode cX8_goes 21 = .ok (.invokevirtual 129, 3) := of_decide_eq_true (List.all_eq_true.mp dA_X8_goes_0 (21, .invokevirtual 129, 3) (List.mem_of_getElem? (i := 11) rfl))
theorem dX8_goes_24 : decode cX8_goes 24 = .ok (.ifCond .ne 8, 3) := of_decide_eq_true (List.all_eq_true.mp dA_X8_goes_0 (24, .ifCond .ne 8, 3) (List.mem_of_getElem? (i := 12) rfl))
theorem dX8_goes_27 : decode cX8_goes 27 = .ok (.aload_n 0, 1) := of_decide_eq_true (List.all_eq_true.mp dA_X8_goes_0 (27, .aload_n 0, 1) (List.mem_of_getElem? (i := 13) rfl))
theorem dX8_goes_28 : decode cX8_goes 28 = .ok (.invokevirtual 132, 3) := of_decide_eq_true (List.all_eq_true.mp dA_X8_goes_0 (28, .invokevirtual 132, 3) (List.mem_of_getElem? (i := 14) rfl))
theorem dX8_goes_31 : decode cX8_goes 31 = .ok (.ireturn, 1) := of_decide_eq_true (List.all_eq_true.mp dA_X8_goes_0 (31, .ireturn, 1) (List.mem_of_getElem? (i := 15) rfl))
theorem dX8_goes_32 : decode cX8_goes 32 = .ok (.aload_n 0, 1) := of_decide_eq_true (List.all_eq_true.mp dA_X8_goes_0 (32, .aload_n 0, 1) (List.mem_of_getElem? (i := 16) rfl))
theorem dX8_goes_33 : decode cX8_goes 33 = .ok (.getfield 10, 3) := of_decide_eq_true (List.all_eq_true.mp dA_X8_goes_0 (33, .getfield 10, 3) (List.mem_of_getElem? (i := 17) rfl))
theorem dX8_goes_36 : decode cX8_goes 36 = .ok (.invokevirtual 135, 3) := of_decide_eq_true (List.all_eq_true.mp dA_X8_goes_0 (36, .invokevirtual 135, 3) (List.mem_of_getElem? (i := 18) rfl))
theorem dX8_goes_39 : decode cX8_goes 39 = .ok (.aload_n 0, 1) := of_decide_eq_true (List.all_eq_true.mp dA_X8_goes_0 (39, .aload_n 0, 1) (List.mem_of_getElem? (i := 19) rfl))
theorem dX8_goes_40 : decode cX8_goes 40 = .ok (.getfield 10, 3) := of_decide_eq_true (List.all_eq_true.mp dA_X8_goes_0 (40, .getfield 10, 3) (List.mem_of_getElem? (i := 20) rfl))
theorem dX8_goes_43 : decode cX8_goes 43 = .ok (.iload_n 1, 1) := of_decide_eq_true (List.all_eq_true.mp dA_X8_goes_0 (43, .iload_n 1, 1) (List.mem_of_getElem? (i := 21) rfl))
theorem dX8_goes_44 : decode cX8_goes 44 = .ok (.invokevirtual 141, 3) := of_decide_eq_true (List.all_eq_true.mp dA_X8_goes_0 (44, .invokevirtual 141, 3) (List.mem_of_getElem? (i := 22) rfl))
theorem dX8_goes_47 : decode cX8_goes 47 = .ok (.aload_n 0, 1) := of_decide_eq_true (List.all_eq_true.mp dA_X8_goes_0 (47, .aload_n 0, 1) (List.mem_of_getElem? (i := 23) rfl))
theorem dX8_goes_48 : decode cX8_goes 48 = .ok (.getfield 10, 3) := of_decide_eq_true (List.all_eq_true.mp dA_X8_goes_0 (48, .getfield 10, 3) (List.mem_of_getElem? (i := 24) rfl))
theorem dX8_goes_51 : decode cX8_goes 51 = .ok (.invokevirtual 144, 3) := of_decide_eq_true (List.all_eq_true.mp dA_X8_goes_0 (51, .invokevirtual 144, 3) (List.mem_of_getElem? (i := 25) rfl))
theorem dX8_goes_54 : decode cX8_goes 54 = .ok (.ireturn, 1) := of_decide_eq_true (List.all_eq_true.mp dA_X8_goes_0 (54, .ireturn, 1) (List.mem_of_getElem? (i := 26) rfl))
set_option maxRecDepth 20000 in
theorem ggX8_letter_X1_isThere : GoodIn wsX8_letter wsX1_isThere := goodIn_r _ [6, 7, 8, 9, 10, 83, 84, 85, 86, 87, 88, 89, 90, 91, 92, 93, 94, 95, 96, 97] (by decide +kernel) (by decide +kernel)
set_option maxRecDepth 20000 in
theorem gX8_letter_X1_isThere : GoodIn wsX8_letter (wsV RX8 126 RX1 yX1_isThere wsX1_isThere) := goodIn_app (goodIn_of _ (by decide +kernel)) ggX8_letter_X1_isThere
set_option maxRecDepth 20000 in
theorem ggX8_letter_X8_isWord : GoodIn wsX8_letter wsX8_isWord := goodIn_r _ [13, 14, 8, 9, 10] (by decide +kernel) (by decide +kernel)
set_option maxRecDepth 20000 in
theorem gX8_letter_X8_isWord : GoodIn wsX8_letter (va_wsS RX8 94 yX8_isWord wsX8_isWord) := goodIn_app (goodIn_of _ (by decide +kernel)) ggX8_letter_X8_isWord
set_option maxRecDepth 20000 in
theorem ggX8_letter_X8_bad : GoodIn wsX8_letter wsX8_bad := goodIn_r _ [18, 19, 69, 70, 71, 72, 73, 74, 75, 76, 77, 78, 79, 80, 81, 82] (by decide +kernel) (by decide +kernel)
set_option maxRecDepth 20000 in
theorem gX8_letter_X8_bad : GoodIn wsX8_letter (wsV RX8 61 RX8 yX8_bad wsX8_bad) := goodIn_app (goodIn_of _ (by decide +kernel)) ggX8_letter_X8_bad
set_option maxRecDepth 20000 in
theorem ggX8_letter_X5_cell : GoodIn wsX8_letter wsX5_cell := goodIn_r _ [24, 25, 26, 27, 94, 95, 96, 97] (by decide +kernel) (by decide +kernel)
set_option maxRecDepth 20000 in
theorem gX8_letter_X5_cell : GoodIn wsX8_letter (wsV RX8 147 RX5 yX5_cell wsX5_cell) := goodIn_app (goodIn_of _ (by decide +kernel)) ggX8_letter_X5_cell
set_option maxRecDepth 20000 in
theorem ggX8_letter_X8_no : GoodIn wsX8_letter wsX8_no := goodIn_r _ [31, 32, 69, 70, 71, 72, 73, 74, 75, 76, 77, 78, 79, 80, 81, 82] (by decide +kernel) (by decide +kernel)
set_option maxRecDepth 20000 in
theorem gX8_letter_X8_no : GoodIn wsX8_letter (wsV RX8 132 RX8 yX8_no wsX8_no) := goodIn_app (goodIn_of _ (by decide +kernel)) ggX8_letter_X8_no
set_option maxRecDepth 20000 in
theorem ggX8_letter_X1_keep : GoodIn wsX8_letter wsX1_keep := goodIn_r _ [36, 37, 38, 39, 40, 7, 41, 42, 43, 23, 44, 25, 45, 46, 47, 48, 49, 27, 26, 50, 51, 52, 53, 54, 55, 56, 57, 58, 59, 60, 61, 62, 63, 64, 65, 5, 66, 67, 21, 22, 24, 83, 84, 85, 86, 87, 88, 89, 90, 91, 92, 93, 94, 95, 96, 97] (by decide +kernel) (by decide +kernel)
set_option maxRecDepth 20000 in
theorem gX8_letter_X1_keep : GoodIn wsX8_letter (wsV RX8 135 RX1 yX1_keep wsX1_keep) := goodIn_app (goodIn_of _ (by decide +kernel)) ggX8_letter_X1_keep
set_option maxRecDepth 20000 in
theorem ggX8_letter_X5_put : GoodIn wsX8_letter wsX5_put := goodIn_r _ [62, 25, 26, 27, 94, 95, 96, 97] (by decide +kernel) (by decide +kernel)
set_option maxRecDepth 20000 in
theorem gX8_letter_X5_put : GoodIn wsX8_letter (wsV RX8 150 RX5 yX5_put wsX5_put) := goodIn_app (goodIn_of _ (by decide +kernel)) ggX8_letter_X5_put
set_option maxRecDepth 20000 in
theorem dA_X8_letter_0 : (([(0, .aload_n 0, 1), (1, .getfield 10, 3), (4, .iload_n 1, 1), (5, .invokevirtual 126, 3), (8, .ifCond .eq 10, 3), (11, .iload_n 2, 1), (12, .invokestatic 94, 3), (15, .ifCond .ne 8, 3), (18, .aload_n 0, 1), (19, .invokevirtual 61, 3), (22, .ireturn, 1), (23, .aload_n 0, 1), (24, .getfield 10, 3), (27, .getfield 65, 3), (30, .iload_n 1, 1), (31, .iconst 1, 1), (32, .invokevirtual 147, 3), (35, .istore_n 3, 1), (36, .iload_n 3, 1), (37, .iload_n 2, 1), (38, .if_icmp .ne 8, 3), (41, .aload_n 0, 1), (42, .invokevirtual 132, 3), (45, .ireturn, 1), (46, .aload_n 0, 1), (47, .getfield 10, 3), (50, .invokevirtual 135, 3), (53, .aload_n 0, 1), (54, .getfield 10, 3), (57, .getfield 65, 3), (60, .iload_n 1, 1), (61, .iconst 1, 1), (62, .iload_n 2, 1), (63, .invokevirtual 150, 3), (66, .iload_n 3, 1), (67, .ireturn, 1)] : List (Nat × Instr × Nat)).all fun q => decide (decode cX8_letter q.1 = .ok (q.2.1, q.2.2))) = true := by decide +kernel
theorem dX8_letter_0 : decode cX8_letter 0 = .ok (.aload_n 0, 1) := of_decide_eq_true (List.all_eq_true.mp dA_X8_letter_0 (0, .aload_n 0, 1) (List.mem_of_getElem? (i := 0) rfl))
theorem dX8_letter_1 : decode cX8_letter 1 = .ok (.getfield 10, 3) := of_decide_eq_true (List.all_eq_true.mp dA_X8_letter_0 (1, .getfield 10, 3) (List.mem_of_getElem? (i := 1) rfl))
theorem dX8_letter_4 : decode cX8_letter 4 = .ok (.iload_n 1, 1) := of_decide_eq_true (List.all_eq_true.mp dA_X8_letter_0 (4, .iload_n 1, 1) (List.mem_of_getElem? (i := 2) rfl))
theorem dX8_letter_5 : decode cX8_letter 5 = .ok (.invokevirtual 126, 3) := of_decide_eq_true (List.all_eq_true.mp dA_X8_letter_0 (5, .invokevirtual 126, 3) (List.mem_of_getElem? (i := 3) rfl))
theorem dX8_letter_8 : decode cX8_letter 8 = .ok (.ifCond .eq 10, 3) := of_decide_eq_true (List.all_eq_true.mp dA_X8_letter_0 (8, .ifCond .eq 10, 3) (List.mem_of_getElem? (i := 4) rfl))
theorem dX8_letter_11 : decode cX8_letter 11 = .ok (.iload_n 2, 1) := of_decide_eq_true (List.all_eq_true.mp dA_X8_letter_0 (11, .iload_n 2, 1) (List.mem_of_getElem? (i := 5) rfl))
theorem dX8_letter_12 : decode cX8_letter 12 = .ok (.invokestatic 94, 3) := of_decide_eq_true (List.all_eq_true.mp dA_X8_letter_0 (12, .invokestatic 94, 3) (List.mem_of_getElem? (i := 6) rfl))
theorem dX8_letter_15 : decode cX8_letter 15 = .ok (.ifCond .ne 8, 3) := of_decide_eq_true (List.all_eq_true.mp dA_X8_letter_0 (15, .ifCond .ne 8, 3) (List.mem_of_getElem? (i := 7) rfl))
theorem dX8_letter_18 : decode cX8_letter 18 = .ok (.aload_n 0, 1) := of_decide_eq_true (List.all_eq_true.mp dA_X8_letter_0 (18, .aload_n 0, 1) (List.mem_of_getElem? (i := 8) rfl))
theorem dX8_letter_19 : decode cX8_letter 19 = .ok (.invokevirtual 61, 3) := of_decide_eq_true (List.all_eq_true.mp dA_X8_letter_0 (19, .invokevirtual 61, 3) (List.mem_of_getElem? (i := 9) rfl))
theorem dX8_letter_22 : decode cX8_letter 22 = .ok (.ireturn, 1) := of_decide_eq_true (List.all_eq_true.mp dA_X8_letter_0 (22, .ireturn, 1) (List.mem_of_getElem? (i := 10) rfl))
theorem dX8_letter_23 : decode cX8_letter 23 = .ok (.aload_n 0, 1) := of_decide_eq_true (List.all_eq_true.mp dA_X8_letter_0 (23, .aload_n 0, 1) (List.mem_of_getElem? (i := 11) rfl))
theorem dX8_letter_24 : decode cX8_letter 24 = .ok (.getfield 10, 3) := of_decide_eq_true (List.all_eq_true.mp dA_X8_letter_0 (24, .getfield 10, 3) (List.mem_of_getElem? (i := 12) rfl))
theorem dX8_letter_27 : decode cX8_letter 27 = .ok (.getfield 65, 3) := of_decide_eq_true (List.all_eq_true.mp dA_X8_letter_0 (27, .getfield 65, 3) (List.mem_of_getElem? (i := 13) rfl))
theorem dX8_letter_30 : decode cX8_letter 30 = .ok (.iload_n 1, 1) := of_decide_eq_true (List.all_eq_true.mp dA_X8_letter_0 (30, .iload_n 1, 1) (List.mem_of_getElem? (i := 14) rfl))
theorem dX8_letter_31 : decode cX8_letter 31 = .ok (.iconst 1, 1) := of_decide_eq_true (List.all_eq_true.mp dA_X8_letter_0 (31, .iconst 1, 1) (List.mem_of_getElem? (i := 15) rfl))
theorem dX8_letter_32 : decode cX8_letter 32 = .ok (.invokevirtual 147, 3) := of_decide_eq_true (List.all_eq_true.mp dA_X8_letter_0 (32, .invokevirtual 147, 3) (List.mem_of_getElem? (i := 16) rfl))
theorem dX8_letter_35 : decode cX8_letter 35 = .ok (.istore_n 3, 1) := of_decide_eq_true (List.all_eq_true.mp dA_X8_letter_0 (35, .istore_n 3, 1) (List.mem_of_getElem? (i := 17) rfl))
theorem dX8_letter_36 : decode cX8_letter 36 = .ok (.iload_n 3, 1) := of_decide_eq_true (List.all_eq_true.mp dA_X8_letter_0 (36, .iload_n 3, 1) (List.mem_of_getElem? (i := 18) rfl))
theorem dX8_letter_37 : decode cX8_letter 37 = .ok (.iload_n 2, 1) := of_decide_eq_true (List.all_eq_true.mp dA_X8_letter_0 (37, .iload_n 2, 1) (List.mem_of_getElem? (i := 19) rfl))
theorem dX8_letter_38 : decode cX8_letter 38 = .ok (.if_icmp .ne 8, 3) := of_decide_eq_true (List.all_eq_true.mp dA_X8_letter_0 (38, .if_icmp .ne 8, 3) (List.mem_of_getElem? (i := 20) rfl))
theorem dX8_letter_41 : decode cX8_letter 41 = .ok (.aload_n 0, 1) := of_decide_eq_true (List.all_eq_true.mp dA_X8_letter_0 (41, .aload_n 0, 1) (List.mem_of_getElem? (i := 21) rfl))
theorem dX8_letter_42 : decode cX8_letter 42 = .ok (.invokevirtual 132, 3) := of_decide_eq_true (List.all_eq_true.mp dA_X8_letter_0 (42, .invokevirtual 132, 3) (List.mem_of_getElem? (i := 22) rfl))
theorem dX8_letter_45 : decode cX8_letter 45 = .ok (.ireturn, 1) := of_decide_eq_true (List.all_eq_true.mp dA_X8_letter_0 (45, .ireturn, 1) (List.mem_of_getElem? (i := 23) rfl))
theorem dX8_letter_46 : decode cX8_letter 46 = .ok (.aload_n 0, 1) := of_decide_eq_true (List.all_eq_true.mp dA_X8_letter_0 (46, .aload_n 0, 1) (List.mem_of_getElem? (i := 24) rfl))
theorem dX8_letter_47 : decode cX8_letter 47 = .ok (.getfield 10, 3) := of_decide_eq_true (List.all_eq_true.mp dA_X8_letter_0 (47, .getfield 10, 3) (List.mem_of_getElem? (i := 25) rfl))
theorem dX8_letter_50 : decode cX8_letter 50 = .ok (.invokevirtual 135, 3) := of_decide_eq_true (List.all_eq_true.mp dA_X8_letter_0 (50, .invokevirtual 135, 3) (List.mem_of_getElem? (i := 26) rfl))
theorem dX8_letter_53 : decode cX8_letter 53 = .ok (.aload_n 0, 1) := of_decide_eq_true (List.all_eq_true.mp dA_X8_letter_0 (53, .aload_n 0, 1) (List.mem_of_getElem? (i := 27) rfl))
theorem dX8_letter_54 : decode cX8_letter 54 = .ok (.getfield 10, 3) := of_decide_eq_true (List.all_eq_true.mp dA_X8_letter_0 (54, .getfield 10, 3) (List.mem_of_getElem? (i := 28) rfl))
theorem dX8_letter_57 : decode cX8_letter 57 = .ok (.getfield 65, 3) := of_decide_eq_true (List.all_eq_true.mp dA_X8_letter_0 (57, .getfield 65, 3) (List.mem_of_getElem? (i := 29) rfl))
theorem dX8_letter_60 : decode cX8_letter 60 = .ok (.iload_n 1, 1) := of_decide_eq_true (List.all_eq_true.mp dA_X8_letter_0 (60, .iload_n 1, 1) (List.mem_of_getElem? (i := 30) rfl))
theorem dX8_letter_61 : decode cX8_letter 61 = .ok (.iconst 1, 1) := of_decide_eq_true (List.all_eq_true.mp dA_X8_letter_0 (61, .iconst 1, 1) (List.mem_of_getElem? (i := 31) rfl))
theorem dX8_letter_62 : decode cX8_letter 62 = .ok (.iload_n 2, 1) := of_decide_eq_true (List.all_eq_true.mp dA_X8_letter_0 (62, .iload_n 2, 1) (List.mem_of_getElem? (i := 32) rfl))
theorem dX8_letter_63 : decode cX8_letter 63 = .ok (.invokevirtual 150, 3) := of_decide_eq_true (List.all_eq_true.mp dA_X8_letter_0 (63, .invokevirtual 150, 3) (List.mem_of_getElem? (i := 33) rfl))
theorem dX8_letter_66 : decode cX8_letter 66 = .ok (.iload_n 3, 1) := of_decide_eq_true (List.all_eq_true.mp dA_X8_letter_0 (66, .iload_n 3, 1) (List.mem_of_getElem? (i := 34) rfl))
theorem dX8_letter_67 : decode cX8_letter 67 = .ok (.ireturn, 1) := of_decide_eq_true (List.all_eq_true.mp dA_X8_letter_0 (67, .ireturn, 1) (List.mem_of_getElem? (i := 35) rfl))
set_option maxRecDepth 20000 in
theorem ggX8_nights_X8_within : GoodIn wsX8_nights wsX8_within := goodIn_r _ [5] (by decide +kernel) (by decide +kernel)
set_option maxRecDepth 20000 in
theorem gX8_nights_X8_within : GoodIn wsX8_nights (va_wsS RX8 57 yX8_within wsX8_within) := goodIn_app (goodIn_of _ (by decide +kernel)) ggX8_nights_X8_within
set_option maxRecDepth 20000 in
theorem ggX8_nights_X8_bad : GoodIn wsX8_nights wsX8_bad := goodIn_r _ [9, 10, 63, 64, 65, 66, 67, 68, 69, 70, 71, 72, 73, 74, 75, 76] (by decide +kernel) (by decide +kernel)
set_option maxRecDepth 20000 in
theorem gX8_nights_X8_bad : GoodIn wsX8_nights (wsV RX8 61 RX8 yX8_bad wsX8_bad) := goodIn_app (goodIn_of _ (by decide +kernel)) ggX8_nights_X8_bad
set_option maxRecDepth 20000 in
theorem ggX8_nights_X1_keep : GoodIn wsX8_nights wsX1_keep := goodIn_r _ [15, 16, 17, 18, 19, 20, 21, 22, 23, 24, 25, 26, 27, 28, 29, 30, 31, 32, 33, 34, 35, 36, 37, 38, 39, 40, 41, 42, 43, 44, 45, 46, 47, 48, 49, 14, 50, 51, 52, 53, 54, 77, 78, 79, 80, 81, 82, 83, 84, 85, 86, 87, 88, 89, 90, 91] (by decide +kernel) (by decide +kernel)
set_option maxRecDepth 20000 in
theorem gX8_nights_X1_keep : GoodIn wsX8_nights (wsV RX8 135 RX1 yX1_keep wsX1_keep) := goodIn_app (goodIn_of _ (by decide +kernel)) ggX8_nights_X1_keep
set_option maxRecDepth 20000 in
theorem ggX8_nights_X1_sleep : GoodIn wsX8_nights wsX1_sleep := goodIn_r _ [58, 17, 59, 60, 61, 62, 18, 77, 78, 79, 80, 81, 82, 83, 84, 85, 86, 87] (by decide +kernel) (by decide +kernel)
set_option maxRecDepth 20000 in
theorem gX8_nights_X1_sleep : GoodIn wsX8_nights (wsV RX8 154 RX1 yX1_sleep wsX1_sleep) := goodIn_app (goodIn_of _ (by decide +kernel)) ggX8_nights_X1_sleep
set_option maxRecDepth 20000 in
theorem dA_X8_nights_0 : (([(0, .iload_n 1, 1), (1, .iconst 1, 1), (2, .bipush 99, 2), (4, .invokestatic 57, 3), (7, .ifCond .ne 8, 3), (10, .aload_n 0, 1), (11, .invokevirtual 61, 3), (14, .ireturn, 1), (15, .aload_n 0, 1), (16, .getfield 10, 3), (19, .invokevirtual 135, 3), (22, .aload_n 0, 1), (23, .getfield 10, 3), (26, .iload_n 1, 1), (27, .invokevirtual 154, 3), (30, .aload_n 0, 1), (31, .getfield 10, 3), (34, .getfield 157, 3), (37, .ireturn, 1)] : List (Nat × Instr × Nat)).all fun q => decide (decode cX8_nights q.1 = .ok (q.2.1, q.2.2))) = true := by decide +kernel
theorem dX8_nights_0 : decode cX8_nights 0 = .ok (.iload_n 1, 1) := of_decide_eq_true (List.all_eq_true.mp dA_X8_nights_0 (0, .iload_n 1, 1) (List.mem_of_getElem? (i := 0) rfl))
theorem dX8_nights_1 : decode cX8_nights 1 = .ok (.iconst 1, 1) := of_decide_eq_true (List.all_eq_true.mp dA_X8_nights_0 (1, .iconst 1, 1) (List.mem_of_getElem? (i := 1) rfl))
theorem dX8_nights_2 : decode cX8_nights 2 = .ok (.bipush 99, 2) := of_decide_eq_true (List.all_eq_true.mp dA_X8_nights_0 (2, .bipush 99, 2) (List.mem_of_getElem? (i := 2) rfl))
theorem dX8_nights_4 : decode cX8_nights 4 = .ok (.invokestatic 57, 3) := of_decide_eq_true (List.all_eq_true.mp dA_X8_nights_0 (4, .invokestatic 57, 3) (List.mem_of_getElem? (i := 3) rfl))
theorem dX8_nights_7 : decode cX8_nights 7 = .ok (.ifCond .ne 8, 3) := of_decide_eq_true (List.all_eq_true.mp dA_X8_nights_0 (7, .ifCond .ne 8, 3) (List.mem_of_getElem? (i := 4) rfl))
theorem dX8_nights_10 : decode cX8_nights 10 = .ok (.aload_n 0, 1) := of_decide_eq_true (List.all_eq_true.mp dA_X8_nights_0 (10, .aload_n 0, 1) (List.mem_of_getElem? (i := 5) rfl))
theorem dX8_nights_11 : decode cX8_nights 11 = .ok (.invokevirtual 61, 3) := of_decide_eq_true (List.all_eq_true.mp dA_X8_nights_0 (11, .invokevirtual 61, 3) (List.mem_of_getElem? (i := 6) rfl))
theorem dX8_nights_14 : decode cX8_nights 14 = .ok (.ireturn, 1) := of_decide_eq_true (List.all_eq_true.mp dA_X8_nights_0 (14, .ireturn, 1) (List.mem_of_getElem? (i := 7) rfl))
theorem dX8_nights_15 : decode cX8_nights 15 = .ok (.aload_n 0, 1) := of_decide_eq_true (List.all_eq_true.mp dA_X8_nights_0 (15, .aload_n 0, 1) (List.mem_of_getElem? (i := 8) rfl))
theorem dX8_nights_16 : decode cX8_nights 16 = .ok (.getfield 10, 3) := of_decide_eq_true (List.all_eq_true.mp dA_X8_nights_0 (16, .getfield 10, 3) (List.mem_of_getElem? (i := 9) rfl))
theorem dX8_nights_19 : decode cX8_nights 19 = .ok (.invokevirtual 135, 3) := of_decide_eq_true (List.all_eq_true.mp dA_X8_nights_0 (19, .invokevirtual 135, 3) (List.mem_of_getElem? (i := 10) rfl))
theorem dX8_nights_22 : decode cX8_nights 22 = .ok (.aload_n 0, 1) := of_decide_eq_true (List.all_eq_true.mp dA_X8_nights_0 (22, .aload_n 0, 1) (List.mem_of_getElem? (i := 11) rfl))
theorem dX8_nights_23 : decode cX8_nights 23 = .ok (.getfield 10, 3) := of_decide_eq_true (List.all_eq_true.mp dA_X8_nights_0 (23, .getfield 10, 3) (List.mem_of_getElem? (i := 12) rfl))
theorem dX8_nights_26 : decode cX8_nights 26 = .ok (.iload_n 1, 1) := of_decide_eq_true (List.all_eq_true.mp dA_X8_nights_0 (26, .iload_n 1, 1) (List.mem_of_getElem? (i := 13) rfl))
theorem dX8_nights_27 : decode cX8_nights 27 = .ok (.invokevirtual 154, 3) := of_decide_eq_true (List.all_eq_true.mp dA_X8_nights_0 (27, .invokevirtual 154, 3) (List.mem_of_getElem? (i := 14) rfl))
theorem dX8_nights_30 : decode cX8_nights 30 = .ok (.aload_n 0, 1) := of_decide_eq_true (List.all_eq_true.mp dA_X8_nights_0 (30, .aload_n 0, 1) (List.mem_of_getElem? (i := 15) rfl))
theorem dX8_nights_31 : decode cX8_nights 31 = .ok (.getfield 10, 3) := of_decide_eq_true (List.all_eq_true.mp dA_X8_nights_0 (31, .getfield 10, 3) (List.mem_of_getElem? (i := 16) rfl))
theorem dX8_nights_34 : decode cX8_nights 34 = .ok (.getfield 157, 3) := of_decide_eq_true (List.all_eq_true.mp dA_X8_nights_0 (34, .getfield 157, 3) (List.mem_of_getElem? (i := 17) rfl))
theorem dX8_nights_37 : decode cX8_nights 37 = .ok (.ireturn, 1) := of_decide_eq_true (List.all_eq_true.mp dA_X8_nights_0 (37, .ireturn, 1) (List.mem_of_getElem? (i := 18) rfl))
set_option maxRecDepth 20000 in
theorem ggX8_undo_X8_no : GoodIn wsX8_undo wsX8_no := goodIn_r _ [6, 7, 37, 38, 39, 40, 41, 42, 43, 44, 45, 46, 47, 48, 49, 50] (by decide +kernel) (by decide +kernel)
set_option maxRecDepth 20000 in
theorem gX8_undo_X8_no : GoodIn wsX8_undo (wsV RX8 132 RX8 yX8_no wsX8_no) := goodIn_app (goodIn_of _ (by decide +kernel)) ggX8_undo_X8_no
set_option maxRecDepth 20000 in
theorem ggX8_undo_X1_goBack : GoodIn wsX8_undo wsX1_goBack := goodIn_r _ [12, 13, 14, 15, 16, 17, 18, 19, 20, 21, 22, 23, 24, 25, 26, 27, 11, 28, 29, 30, 31, 32, 33, 34, 35, 36, 51, 52, 53, 54, 55, 56, 57, 58, 59, 60, 61, 62, 63, 64, 65] (by decide +kernel) (by decide +kernel)
set_option maxRecDepth 20000 in
theorem gX8_undo_X1_goBack : GoodIn wsX8_undo (wsV RX8 160 RX1 yX1_goBack wsX1_goBack) := goodIn_app (goodIn_of _ (by decide +kernel)) ggX8_undo_X1_goBack
set_option maxRecDepth 20000 in
theorem dA_X8_undo_0 : (([(0, .aload_n 0, 1), (1, .getfield 10, 3), (4, .getfield 81, 3), (7, .getfield 69, 3), (10, .ifCond .ne 8, 3), (13, .aload_n 0, 1), (14, .invokevirtual 132, 3), (17, .ireturn, 1), (18, .aload_n 0, 1), (19, .getfield 10, 3), (22, .invokevirtual 160, 3), (25, .aload_n 0, 1), (26, .getfield 10, 3), (29, .getfield 157, 3), (32, .ireturn, 1)] : List (Nat × Instr × Nat)).all fun q => decide (decode cX8_undo q.1 = .ok (q.2.1, q.2.2))) = true := by decide +kernel
theorem dX8_undo_0 : decode cX8_undo 0 = .ok (.aload_n 0, 1) := of_decide_eq_true (List.all_eq_true.mp dA_X8_undo_0 (0, .aload_n 0, 1) (List.mem_of_getElem? (i := 0) rfl))
theorem dX8_undo_1 : decode cX8_undo 1 = .ok (.getfield 10, 3) := of_decide_eq_true (List.all_eq_true.mp dA_X8_undo_0 (1, .getfield 10, 3) (List.mem_of_getElem? (i := 1) rfl))
theorem dX8_undo_4 : decode cX8_undo 4 = .ok (.getfield 81, 3) := of_decide_eq_true (List.all_eq_true.mp dA_X8_undo_0 (4, .getfield 81, 3) (List.mem_of_getElem? (i := 2) rfl))
theorem dX8_undo_7 : decode cX8_undo 7 = .ok (.getfield 69, 3) := of_decide_eq_true (List.all_eq_true.mp dA_X8_undo_0 (7, .getfield 69, 3) (List.mem_of_getElem? (i := 3) rfl))
theorem dX8_undo_10 : decode cX8_undo 10 = .ok (.ifCond .ne 8, 3) := of_decide_eq_true (List.all_eq_true.mp dA_X8_undo_0 (10, .ifCond .ne 8, 3) (List.mem_of_getElem? (i := 4) rfl))
theorem dX8_undo_13 : decode cX8_undo 13 = .ok (.aload_n 0, 1) := of_decide_eq_true (List.all_eq_true.mp dA_X8_undo_0 (13, .aload_n 0, 1) (List.mem_of_getElem? (i := 5) rfl))
theorem dX8_undo_14 : decode cX8_undo 14 = .ok (.invokevirtual 132, 3) := of_decide_eq_true (List.all_eq_true.mp dA_X8_undo_0 (14, .invokevirtual 132, 3) (List.mem_of_getElem? (i := 6) rfl))
theorem dX8_undo_17 : decode cX8_undo 17 = .ok (.ireturn, 1) := of_decide_eq_true (List.all_eq_true.mp dA_X8_undo_0 (17, .ireturn, 1) (List.mem_of_getElem? (i := 7) rfl))
theorem dX8_undo_18 : decode cX8_undo 18 = .ok (.aload_n 0, 1) := of_decide_eq_true (List.all_eq_true.mp dA_X8_undo_0 (18, .aload_n 0, 1) (List.mem_of_getElem? (i := 8) rfl))
theorem dX8_undo_19 : decode cX8_undo 19 = .ok (.getfield 10, 3) := of_decide_eq_true (List.all_eq_true.mp dA_X8_undo_0 (19, .getfield 10, 3) (List.mem_of_getElem? (i := 9) rfl))
theorem dX8_undo_22 : decode cX8_undo 22 = .ok (.invokevirtual 160, 3) := of_decide_eq_true (List.all_eq_true.mp dA_X8_undo_0 (22, .invokevirtual 160, 3) (List.mem_of_getElem? (i := 10) rfl))
theorem dX8_undo_25 : decode cX8_undo 25 = .ok (.aload_n 0, 1) := of_decide_eq_true (List.all_eq_true.mp dA_X8_undo_0 (25, .aload_n 0, 1) (List.mem_of_getElem? (i := 11) rfl))
theorem dX8_undo_26 : decode cX8_undo 26 = .ok (.getfield 10, 3) := of_decide_eq_true (List.all_eq_true.mp dA_X8_undo_0 (26, .getfield 10, 3) (List.mem_of_getElem? (i := 12) rfl))
theorem dX8_undo_29 : decode cX8_undo 29 = .ok (.getfield 157, 3) := of_decide_eq_true (List.all_eq_true.mp dA_X8_undo_0 (29, .getfield 157, 3) (List.mem_of_getElem? (i := 13) rfl))
theorem dX8_undo_32 : decode cX8_undo 32 = .ok (.ireturn, 1) := of_decide_eq_true (List.all_eq_true.mp dA_X8_undo_0 (32, .ireturn, 1) (List.mem_of_getElem? (i := 14) rfl))
set_option maxRecDepth 20000 in
theorem ggX8_of_X1_isThere : GoodIn wsX8_of wsX1_isThere := goodIn_r _ [6, 7, 8, 9, 10, 49, 50, 51, 52, 53, 54, 55, 56, 57, 58, 59, 60, 61, 62, 63] (by decide +kernel) (by decide +kernel)
set_option maxRecDepth 20000 in
theorem gX8_of_X1_isThere : GoodIn wsX8_of (wsV RX8 126 RX1 yX1_isThere wsX1_isThere) := goodIn_app (goodIn_of _ (by decide +kernel)) ggX8_of_X1_isThere
set_option maxRecDepth 20000 in
theorem ggX8_of_X8_within : GoodIn wsX8_of wsX8_within := goodIn_r _ [10] (by decide +kernel) (by decide +kernel)
set_option maxRecDepth 20000 in
theorem gX8_of_X8_within : GoodIn wsX8_of (va_wsS RX8 57 yX8_within wsX8_within) := goodIn_app (goodIn_of _ (by decide +kernel)) ggX8_of_X8_within
set_option maxRecDepth 20000 in
theorem ggX8_of_X8_bad : GoodIn wsX8_of wsX8_bad := goodIn_r _ [15, 16, 35, 36, 37, 38, 39, 40, 41, 42, 43, 44, 45, 46, 47, 48] (by decide +kernel) (by decide +kernel)
set_option maxRecDepth 20000 in
theorem gX8_of_X8_bad : GoodIn wsX8_of (wsV RX8 61 RX8 yX8_bad wsX8_bad) := goodIn_app (goodIn_of _ (by decide +kernel)) ggX8_of_X8_bad
set_option maxRecDepth 20000 in
theorem ggX8_of_X1_likelyNow : GoodIn wsX8_of wsX1_likelyNow := goodIn_r _ [20, 7, 21, 22, 23, 24, 25, 26, 27, 28, 29, 30, 31, 32, 33, 49, 50, 51, 52, 53, 54, 55, 56, 57, 58, 59, 60, 61, 62, 63] (by decide +kernel) (by decide +kernel)
set_option maxRecDepth 20000 in
theorem gX8_of_X1_likelyNow : GoodIn wsX8_of (wsV RX8 163 RX1 yX1_likelyNow wsX1_likelyNow) := goodIn_app (goodIn_of _ (by decide +kernel)) ggX8_of_X1_likelyNow
set_option maxRecDepth 20000 in
theorem ggX8_of_X5_cell : GoodIn wsX8_of wsX5_cell := goodIn_r _ [26, 27, 28, 29, 60, 61, 62, 63] (by decide +kernel) (by decide +kernel)
set_option maxRecDepth 20000 in
theorem gX8_of_X5_cell : GoodIn wsX8_of (wsV RX8 147 RX5 yX5_cell wsX5_cell) := goodIn_app (goodIn_of _ (by decide +kernel)) ggX8_of_X5_cell
set_option maxRecDepth 20000 in
theorem dA_X8_of_0 : (([(0, .aload_n 0, 1), (1, .getfield 10, 3), (4, .iload_n 1, 1), (5, .invokevirtual 126, 3), (8, .ifCond .eq 12, 3), (11, .iload_n 2, 1), (12, .iconst 0, 1), (13, .iconst 4, 1), (14, .invokestatic 57, 3), (17, .ifCond .ne 8, 3), (20, .aload_n 0, 1), (21, .invokevirtual 61, 3), (24, .ireturn, 1), (25, .iload_n 2, 1), (26, .iconst 4, 1), (27, .if_icmp .ne 14, 3), (30, .aload_n 0, 1), (31, .getfield 10, 3), (34, .iload_n 1, 1), (35, .invokevirtual 163, 3), (38, .goto 15, 3), (41, .aload_n 0, 1), (42, .getfield 10, 3), (45, .getfield 65, 3), (48, .iload_n 1, 1), (49, .iload_n 2, 1), (50, .invokevirtual 147, 3), (53, .ireturn, 1)] : List (Nat × Instr × Nat)).all fun q => decide (decode cX8_of q.1 = .ok (q.2.1, q.2.2))) = true := by decide +kernel
theorem dX8_of_0 : decode cX8_of 0 = .ok (.aload_n 0, 1) := of_decide_eq_true (List.all_eq_true.mp dA_X8_of_0 (0, .aload_n 0, 1) (List.mem_of_getElem? (i := 0) rfl))
theorem dX8_of_1 : decode cX8_of 1 = .ok (.getfield 10, 3) := of_decide_eq_true (List.all_eq_true.mp dA_X8_of_0 (1, .getfield 10, 3) (List.mem_of_getElem? (i := 1) rfl))
theorem dX8_of_4 : decode cX8_of 4 = .ok (.iload_n 1, 1) := of_decide_eq_true (List.all_eq_true.mp dA_X8_of_0 (4, .iload_n 1, 1) (List.mem_of_getElem? (i := 2) rfl))
theorem dX8_of_5 : decode cX8_of 5 = .ok (.invokevirtual 126, 3) := of_decide_eq_true (List.all_eq_true.mp dA_X8_of_0 (5, .invokevirtual 126, 3) (List.mem_of_getElem? (i := 3) rfl))
theorem dX8_of_8 : decode cX8_of 8 = .ok (.ifCond .eq 12, 3) := of_decide_eq_true (List.all_eq_true.mp dA_X8_of_0 (8, .ifCond .eq 12, 3) (List.mem_of_getElem? (i := 4) rfl))
theorem dX8_of_11 : decode cX8_of 11 = .ok (.iload_n 2, 1) := of_decide_eq_true (List.all_eq_true.mp dA_X8_of_0 (11, .iload_n 2, 1) (List.mem_of_getElem? (i := 5) rfl))
theorem dX8_of_12 : decode cX8_of 12 = .ok (.iconst 0, 1) := of_decide_eq_true (List.all_eq_true.mp dA_X8_of_0 (12, .iconst 0, 1) (List.mem_of_getElem? (i := 6) rfl))
theorem dX8_of_13 : decode cX8_of 13 = .ok (.iconst 4, 1) := of_decide_eq_true (List.all_eq_true.mp dA_X8_of_0 (13, .iconst 4, 1) (List.mem_of_getElem? (i := 7) rfl))
theorem dX8_of_14 : decode cX8_of 14 = .ok (.invokestatic 57, 3) := of_decide_eq_true (List.all_eq_true.mp dA_X8_of_0 (14, .invokestatic 57, 3) (List.mem_of_getElem? (i := 8) rfl))
theorem dX8_of_17 : decode cX8_of 17 = .ok (.ifCond .ne 8, 3) := of_decide_eq_true (List.all_eq_true.mp dA_X8_of_0 (17, .ifCond .ne 8, 3) (List.mem_of_getElem? (i := 9) rfl))
theorem dX8_of_20 : decode cX8_of 20 = .ok (.aload_n 0, 1) := of_decide_eq_true (List.all_eq_true.mp dA_X8_of_0 (20, .aload_n 0, 1) (List.mem_of_getElem? (i := 10) rfl))
theorem dX8_of_21 : decode cX8_of 21 = .ok (.invokevirtual 61, 3) := of_decide_eq_true (List.all_eq_true.mp dA_X8_of_0 (21, .invokevirtual 61, 3) (List.mem_of_getElem? (i := 11) rfl))
theorem dX8_of_24 : decode cX8_of 24 = .ok (.ireturn, 1) := of_decide_eq_true (List.all_eq_true.mp dA_X8_of_0 (24, .ireturn, 1) (List.mem_of_getElem? (i := 12) rfl))
theorem dX8_of_25 : decode cX8_of 25 = .ok (.iload_n 2, 1) := of_decide_eq_true (List.all_eq_true.mp dA_X8_of_0 (25, .iload_n 2, 1) (List.mem_of_getElem? (i := 13) rfl))
theorem dX8_of_26 : decode cX8_of 26 = .ok (.iconst 4, 1) := of_decide_eq_true (List.all_eq_true.mp dA_X8_of_0 (26, .iconst 4, 1) (List.mem_of_getElem? (i := 14) rfl))
theorem dX8_of_27 : decode cX8_of 27 = .ok (.if_icmp .ne 14, 3) := of_decide_eq_true (List.all_eq_true.mp dA_X8_of_0 (27, .if_icmp .ne 14, 3) (List.mem_of_getElem? (i := 15) rfl))
theorem dX8_of_30 : decode cX8_of 30 = .ok (.aload_n 0, 1) := of_decide_eq_true (List.all_eq_true.mp dA_X8_of_0 (30, .aload_n 0, 1) (List.mem_of_getElem? (i := 16) rfl))
theorem dX8_of_31 : decode cX8_of 31 = .ok (.getfield 10, 3) := of_decide_eq_true (List.all_eq_true.mp dA_X8_of_0 (31, .getfield 10, 3) (List.mem_of_getElem? (i := 17) rfl))
theorem dX8_of_34 : decode cX8_of 34 = .ok (.iload_n 1, 1) := of_decide_eq_true (List.all_eq_true.mp dA_X8_of_0 (34, .iload_n 1, 1) (List.mem_of_getElem? (i := 18) rfl))
theorem dX8_of_35 : decode cX8_of 35 = .ok (.invokevirtual 163, 3) := of_decide_eq_true (List.all_eq_true.mp dA_X8_of_0 (35, .invokevirtual 163, 3) (List.mem_of_getElem? (i := 19) rfl))
theorem dX8_of_38 : decode cX8_of 38 = .ok (.goto 15, 3) := of_decide_eq_true (List.all_eq_true.mp dA_X8_of_0 (38, .goto 15, 3) (List.mem_of_getElem? (i := 20) rfl))
theorem dX8_of_41 : decode cX8_of 41 = .ok (.aload_n 0, 1) := of_decide_eq_true (List.all_eq_true.mp dA_X8_of_0 (41, .aload_n 0, 1) (List.mem_of_getElem? (i := 21) rfl))
theorem dX8_of_42 : decode cX8_of 42 = .ok (.getfield 10, 3) := of_decide_eq_true (List.all_eq_true.mp dA_X8_of_0 (42, .getfield 10, 3) (List.mem_of_getElem? (i := 22) rfl))
theorem dX8_of_45 : decode cX8_of 45 = .ok (.getfield 65, 3) := of_decide_eq_true (List.all_eq_true.mp dA_X8_of_0 (45, .getfield 65, 3) (List.mem_of_getElem? (i := 23) rfl))
theorem dX8_of_48 : decode cX8_of 48 = .ok (.iload_n 1, 1) := of_decide_eq_true (List.all_eq_true.mp dA_X8_of_0 (48, .iload_n 1, 1) (List.mem_of_getElem? (i := 24) rfl))
theorem dX8_of_49 : decode cX8_of 49 = .ok (.iload_n 2, 1) := of_decide_eq_true (List.all_eq_true.mp dA_X8_of_0 (49, .iload_n 2, 1) (List.mem_of_getElem? (i := 25) rfl))
theorem dX8_of_50 : decode cX8_of 50 = .ok (.invokevirtual 147, 3) := of_decide_eq_true (List.all_eq_true.mp dA_X8_of_0 (50, .invokevirtual 147, 3) (List.mem_of_getElem? (i := 26) rfl))
theorem dX8_of_53 : decode cX8_of 53 = .ok (.ireturn, 1) := of_decide_eq_true (List.all_eq_true.mp dA_X8_of_0 (53, .ireturn, 1) (List.mem_of_getElem? (i := 27) rfl))
set_option maxRecDepth 20000 in
theorem ggX8_now_X8_within : GoodIn wsX8_now wsX8_within := goodIn_r _ [4] (by decide +kernel) (by decide +kernel)
set_option maxRecDepth 20000 in
theorem gX8_now_X8_within : GoodIn wsX8_now (va_wsS RX8 57 yX8_within wsX8_within) := goodIn_app (goodIn_of _ (by decide +kernel)) ggX8_now_X8_within
set_option maxRecDepth 20000 in
theorem ggX8_now_X8_bad : GoodIn wsX8_now wsX8_bad := goodIn_r _ [8, 9, 36, 37, 38, 39, 40, 41, 42, 43, 44, 45, 46, 47, 48, 49] (by decide +kernel) (by decide +kernel)
set_option maxRecDepth 20000 in
theorem gX8_now_X8_bad : GoodIn wsX8_now (wsV RX8 61 RX8 yX8_bad wsX8_bad) := goodIn_app (goodIn_of _ (by decide +kernel)) ggX8_now_X8_bad
set_option maxRecDepth 20000 in
theorem ggX8_now_X8_standing : GoodIn wsX8_now wsX8_standing := goodIn_r _ [13, 14, 15, 16, 17, 18, 19, 20, 21, 22, 23, 24, 25, 26, 27, 28, 29, 30, 31, 32, 33, 34, 35, 36, 37, 38, 39, 40, 41, 42, 43, 44, 45, 46, 47, 48, 49, 50, 51, 52, 53, 54, 55, 56, 57, 58, 59, 60] (by decide +kernel) (by decide +kernel)
set_option maxRecDepth 20000 in
theorem gX8_now_X8_standing : GoodIn wsX8_now (wsV RX8 166 RX8 yX8_standing wsX8_standing) := goodIn_app (goodIn_of _ (by decide +kernel)) ggX8_now_X8_standing
set_option maxRecDepth 20000 in
theorem dA_X8_now_0 : (([(0, .iload_n 1, 1), (1, .iconst 0, 1), (2, .iconst 5, 1), (3, .invokestatic 57, 3), (6, .ifCond .ne 12, 3), (9, .aload_n 0, 1), (10, .invokevirtual 61, 3), (13, .pop, 1), (14, .sipush (-1000), 3), (17, .ireturn, 1), (18, .aload_n 0, 1), (19, .iload_n 1, 1), (20, .invokevirtual 166, 3), (23, .ireturn, 1)] : List (Nat × Instr × Nat)).all fun q => decide (decode cX8_now q.1 = .ok (q.2.1, q.2.2))) = true := by decide +kernel
theorem dX8_now_0 : decode cX8_now 0 = .ok (.iload_n 1, 1) := of_decide_eq_true (List.all_eq_true.mp dA_X8_now_0 (0, .iload_n 1, 1) (List.mem_of_getElem? (i := 0) rfl))
theorem dX8_now_1 : decode cX8_now 1 = .ok (.iconst 0, 1) := of_decide_eq_true (List.all_eq_true.mp dA_X8_now_0 (1, .iconst 0, 1) (List.mem_of_getElem? (i := 1) rfl))
theorem dX8_now_2 : decode cX8_now 2 = .ok (.iconst 5, 1) := of_decide_eq_true (List.all_eq_true.mp dA_X8_now_0 (2, .iconst 5, 1) (List.mem_of_getElem? (i := 2) rfl))
theorem dX8_now_3 : decode cX8_now 3 = .ok (.invokestatic 57, 3) := of_decide_eq_true (List.all_eq_true.mp dA_X8_now_0 (3, .invokestatic 57, 3) (List.mem_of_getElem? (i := 3) rfl))
theorem dX8_now_6 : decode cX8_now 6 = .ok (.ifCond .ne 12, 3) := of_decide_eq_true (List.all_eq_true.mp dA_X8_now_0 (6, .ifCond .ne 12, 3) (List.mem_of_getElem? (i := 4) rfl))
theorem dX8_now_9 : decode cX8_now 9 = .ok (.aload_n 0, 1) := of_decide_eq_true (List.all_eq_true.mp dA_X8_now_0 (9, .aload_n 0, 1) (List.mem_of_getElem? (i := 5) rfl))
theorem dX8_now_10 : decode cX8_now 10 = .ok (.invokevirtual 61, 3) := of_decide_eq_true (List.all_eq_true.mp dA_X8_now_0 (10, .invokevirtual 61, 3) (List.mem_of_getElem? (i := 6) rfl))
theorem dX8_now_13 : decode cX8_now 13 = .ok (.pop, 1) := of_decide_eq_true (List.all_eq_true.mp dA_X8_now_0 (13, .pop, 1) (List.mem_of_getElem? (i := 7) rfl))
theorem dX8_now_14 : decode cX8_now 14 = .ok (.sipush (-1000), 3) := of_decide_eq_true (List.all_eq_true.mp dA_X8_now_0 (14, .sipush (-1000), 3) (List.mem_of_getElem? (i := 8) rfl))
theorem dX8_now_17 : decode cX8_now 17 = .ok (.ireturn, 1) := of_decide_eq_true (List.all_eq_true.mp dA_X8_now_0 (17, .ireturn, 1) (List.mem_of_getElem? (i := 9) rfl))
theorem dX8_now_18 : decode cX8_now 18 = .ok (.aload_n 0, 1) := of_decide_eq_true (List.all_eq_true.mp dA_X8_now_0 (18, .aload_n 0, 1) (List.mem_of_getElem? (i := 10) rfl))
theorem dX8_now_19 : decode cX8_now 19 = .ok (.iload_n 1, 1) := of_decide_eq_true (List.all_eq_true.mp dA_X8_now_0 (19, .iload_n 1, 1) (List.mem_of_getElem? (i := 11) rfl))
theorem dX8_now_20 : decode cX8_now 20 = .ok (.invokevirtual 166, 3) := of_decide_eq_true (List.all_eq_true.mp dA_X8_now_0 (20, .invokevirtual 166, 3) (List.mem_of_getElem? (i := 12) rfl))
theorem dX8_now_23 : decode cX8_now 23 = .ok (.ireturn, 1) := of_decide_eq_true (List.all_eq_true.mp dA_X8_now_0 (23, .ireturn, 1) (List.mem_of_getElem? (i := 13) rfl))
set_option maxRecDepth 20000 in
theorem ggX8_may_X1_isIn : GoodIn wsX8_may wsX1_isIn := goodIn_r _ [6, 7, 8, 9, 10, 11, 12, 13, 14, 15, 67, 68, 69, 70, 71, 72, 73, 74, 75, 76, 77, 78, 79, 80, 81] (by decide +kernel) (by decide +kernel)
set_option maxRecDepth 20000 in
theorem gX8_may_X1_isIn : GoodIn wsX8_may (wsV RX8 129 RX1 yX1_isIn wsX1_isIn) := goodIn_app (goodIn_of _ (by decide +kernel)) ggX8_may_X1_isIn
set_option maxRecDepth 20000 in
theorem ggX8_may_X1_wetNow : GoodIn wsX8_may wsX1_wetNow := goodIn_r _ [19, 20, 21, 22, 23, 5, 24, 25, 67, 68, 69, 70, 71, 72, 73, 74, 75, 76, 77] (by decide +kernel) (by decide +kernel)
set_option maxRecDepth 20000 in
theorem gX8_may_X1_wetNow : GoodIn wsX8_may (wsV RX8 169 RX1 yX1_wetNow wsX1_wetNow) := goodIn_app (goodIn_of _ (by decide +kernel)) ggX8_may_X1_wetNow
set_option maxRecDepth 20000 in
theorem ggX8_may_X1_opensTo : GoodIn wsX8_may wsX1_opensTo := goodIn_r _ [29, 30, 31, 32, 33, 34, 5, 35, 7, 36, 37, 38, 39, 11, 40, 13, 41, 9, 10, 12, 14, 15, 42, 43, 44, 45, 20, 8, 46, 47, 48, 49, 50, 51, 52, 67, 68, 69, 70, 71, 72, 73, 74, 75, 76, 77, 78, 79, 80, 81] (by decide +kernel) (by decide +kernel)
set_option maxRecDepth 20000 in
theorem gX8_may_X1_opensTo : GoodIn wsX8_may (wsV RX8 172 RX1 yX1_opensTo wsX1_opensTo) := goodIn_app (goodIn_of _ (by decide +kernel)) ggX8_may_X1_opensTo
set_option maxRecDepth 20000 in
theorem dA_X8_may_0 : (([(0, .iconst 0, 1), (1, .istore_n 1, 1), (2, .iconst 0, 1), (3, .istore_n 2, 1), (4, .iload_n 2, 1), (5, .aload_n 0, 1), (6, .getfield 10, 3), (9, .getfield 65, 3), (12, .getfield 69, 3), (15, .if_icmp .ge 44, 3), (18, .aload_n 0, 1), (19, .getfield 10, 3), (22, .iload_n 2, 1), (23, .invokevirtual 129, 3), (26, .ifCond .ne 27, 3), (29, .aload_n 0, 1), (30, .getfield 10, 3), (33, .iload_n 2, 1), (34, .aload_n 0, 1), (35, .getfield 10, 3), (38, .invokevirtual 169, 3), (41, .invokevirtual 172, 3), (44, .ifCond .eq 9, 3), (47, .iload_n 1, 1), (48, .iconst 1, 1), (49, .iload_n 2, 1), (50, .ishl, 1), (51, .ior, 1), (52, .istore_n 1, 1), (53, .iinc 2 1, 3), (56, .goto (-52), 3), (59, .iload_n 1, 1), (60, .ireturn, 1)] : List (Nat × Instr × Nat)).all fun q => decide (decode cX8_may q.1 = .ok (q.2.1, q.2.2))) = true := by decide +kernel
theorem dX8_may_0 : decode cX8_may 0 = .ok (.iconst 0, 1) := of_decide_eq_true (List.all_eq_true.mp dA_X8_may_0 (0, .iconst 0, 1) (List.mem_of_getElem? (i := 0) rfl))
theorem dX8_may_1 : decode cX8_may 1 = .ok (.istore_n 1, 1) := of_decide_eq_true (List.all_eq_true.mp dA_X8_may_0 (1, .istore_n 1, 1) (List.mem_of_getElem? (i := 1) rfl))
theorem dX8_may_2 : decode cX8_may 2 = .ok (.iconst 0, 1) := of_decide_eq_true (List.all_eq_true.mp dA_X8_may_0 (2, .iconst 0, 1) (List.mem_of_getElem? (i := 2) rfl))
theorem dX8_may_3 : decode cX8_may 3 = .ok (.istore_n 2, 1) := of_decide_eq_true (List.all_eq_true.mp dA_X8_may_0 (3, .istore_n 2, 1) (List.mem_of_getElem? (i := 3) rfl))
theorem dX8_may_4 : decode cX8_may 4 = .ok (.iload_n 2, 1) := of_decide_eq_true (List.all_eq_true.mp dA_X8_may_0 (4, .iload_n 2, 1) (List.mem_of_getElem? (i := 4) rfl))
theorem dX8_may_5 : decode cX8_may 5 = .ok (.aload_n 0, 1) := of_decide_eq_true (List.all_eq_true.mp dA_X8_may_0 (5, .aload_n 0, 1) (List.mem_of_getElem? (i := 5) rfl))
theorem dX8_may_6 : decode cX8_may 6 = .ok (.getfield 10, 3) := of_decide_eq_true (List.all_eq_true.mp dA_X8_may_0 (6, .getfield 10, 3) (List.mem_of_getElem? (i := 6) rfl))
theorem dX8_may_9 : decode cX8_may 9 = .ok (.getfield 65, 3) := of_decide_eq_true (List.all_eq_true.mp dA_X8_may_0 (9, .getfield 65, 3) (List.mem_of_getElem? (i := 7) rfl))
theorem dX8_may_12 : decode cX8_may 12 = .ok (.getfield 69, 3) := of_decide_eq_true (List.all_eq_true.mp dA_X8_may_0 (12, .getfield 69, 3) (List.mem_of_getElem? (i := 8) rfl))
theorem dX8_may_15 : decode cX8_may 15 = .ok (.if_icmp .ge 44, 3) := of_decide_eq_true (List.all_eq_true.mp dA_X8_may_0 (15, .if_icmp .ge 44, 3) (List.mem_of_getElem? (i := 9) rfl))
theorem dX8_may_18 : decode cX8_may 18 = .ok (.aload_n 0, 1) := of_decide_eq_true (List.all_eq_true.mp dA_X8_may_0 (18, .aload_n 0, 1) (List.mem_of_getElem? (i := 10) rfl))
theorem dX8_may_19 : decode cX8_may 19 = .ok (.getfield 10, 3) := of_decide_eq_true (List.all_eq_true.mp dA_X8_may_0 (19, .getfield 10, 3) (List.mem_of_getElem? (i := 11) rfl))
theorem dX8_may_22 : decode cX8_may 22 = .ok (.iload_n 2, 1) := of_decide_eq_true (List.all_eq_true.mp dA_X8_may_0 (22, .iload_n 2, 1) (List.mem_of_getElem? (i := 12) rfl))
theorem dX8_may_23 : decode cX8_may 23 = .ok (.invokevirtual 129, 3) := of_decide_eq_true (List.all_eq_true.mp dA_X8_may_0 (23, .invokevirtual 129, 3) (List.mem_of_getElem? (i := 13) rfl))
theorem dX8_may_26 : decode cX8_may 26 = .ok (.ifCond .ne 27, 3) := of_decide_eq_true (List.all_eq_true.mp dA_X8_may_0 (26, .ifCond .ne 27, 3) (List.mem_of_getElem? (i := 14) rfl))
theorem dX8_may_29 : decode cX8_may 29 = .ok (.aload_n 0, 1) := of_decide_eq_true (List.all_eq_true.mp dA_X8_may_0 (29, .aload_n 0, 1) (List.mem_of_getElem? (i := 15) rfl))
theorem dX8_may_30 : decode cX8_may 30 = .ok (.getfield 10, 3) := of_decide_eq_true (List.all_eq_true.mp dA_X8_may_0 (30, .getfield 10, 3) (List.mem_of_getElem? (i := 16) rfl))
theorem dX8_may_33 : decode cX8_may 33 = .ok (.iload_n 2, 1) := of_decide_eq_true (List.all_eq_true.mp dA_X8_may_0 (33, .iload_n 2, 1) (List.mem_of_getElem? (i := 17) rfl))
theorem dX8_may_34 : decode cX8_may 34 = .ok (.aload_n 0, 1) := of_decide_eq_true (List.all_eq_true.mp dA_X8_may_0 (34, .aload_n 0, 1) (List.mem_of_getElem? (i := 18) rfl))
theorem dX8_may_35 : decode cX8_may 35 = .ok (.getfield 10, 3) := of_decide_eq_true (List.all_eq_true.mp dA_X8_may_0 (35, .getfield 10, 3) (List.mem_of_getElem? (i := 19) rfl))
theorem dX8_may_38 : decode cX8_may 38 = .ok (.invokevirtual 169, 3) := of_decide_eq_true (List.all_eq_true.mp dA_X8_may_0 (38, .invokevirtual 169, 3) (List.mem_of_getElem? (i := 20) rfl))
theorem dX8_may_41 : decode cX8_may 41 = .ok (.invokevirtual 172, 3) := of_decide_eq_true (List.all_eq_true.mp dA_X8_may_0 (41, .invokevirtual 172, 3) (List.mem_of_getElem? (i := 21) rfl))
theorem dX8_may_44 : decode cX8_may 44 = .ok (.ifCond .eq 9, 3) := of_decide_eq_true (List.all_eq_true.mp dA_X8_may_0 (44, .ifCond .eq 9, 3) (List.mem_of_getElem? (i := 22) rfl))
theorem dX8_may_47 : decode cX8_may 47 = .ok (.iload_n 1, 1) := of_decide_eq_true (List.all_eq_true.mp dA_X8_may_0 (47, .iload_n 1, 1) (List.mem_of_getElem? (i := 23) rfl))
theorem dX8_may_48 : decode cX8_may 48 = .ok (.iconst 1, 1) := of_decide_eq_true (List.all_eq_true.mp dA_X8_may_0 (48, .iconst 1, 1) (List.mem_of_getElem? (i := 24) rfl))
theorem dX8_may_49 : decode cX8_may 49 = .ok (.iload_n 2, 1) := of_decide_eq_true (List.all_eq_true.mp dA_X8_may_0 (49, .iload_n 2, 1) (List.mem_of_getElem? (i := 25) rfl))
theorem dX8_may_50 : decode cX8_may 50 = .ok (.ishl, 1) := of_decide_eq_true (List.all_eq_true.mp dA_X8_may_0 (50, .ishl, 1) (List.mem_of_getElem? (i := 26) rfl))
theorem dX8_may_51 : decode cX8_may 51 = .ok (.ior, 1) := of_decide_eq_true (List.all_eq_true.mp dA_X8_may_0 (51, .ior, 1) (List.mem_of_getElem? (i := 27) rfl))
theorem dX8_may_52 : decode cX8_may 52 = .ok (.istore_n 1, 1) := of_decide_eq_true (List.all_eq_true.mp dA_X8_may_0 (52, .istore_n 1, 1) (List.mem_of_getElem? (i := 28) rfl))
theorem dX8_may_53 : decode cX8_may 53 = .ok (.iinc 2 1, 3) := of_decide_eq_true (List.all_eq_true.mp dA_X8_may_0 (53, .iinc 2 1, 3) (List.mem_of_getElem? (i := 29) rfl))
theorem dX8_may_56 : decode cX8_may 56 = .ok (.goto (-52), 3) := of_decide_eq_true (List.all_eq_true.mp dA_X8_may_0 (56, .goto (-52), 3) (List.mem_of_getElem? (i := 30) rfl))
theorem dX8_may_59 : decode cX8_may 59 = .ok (.iload_n 1, 1) := of_decide_eq_true (List.all_eq_true.mp dA_X8_may_0 (59, .iload_n 1, 1) (List.mem_of_getElem? (i := 31) rfl))
theorem dX8_may_60 : decode cX8_may 60 = .ok (.ireturn, 1) := of_decide_eq_true (List.all_eq_true.mp dA_X8_may_0 (60, .ireturn, 1) (List.mem_of_getElem? (i := 32) rfl))
set_option maxRecDepth 20000 in
theorem ggX8_when_X1_isThere : GoodIn wsX8_when wsX1_isThere := goodIn_r _ [6, 7, 8, 9, 10, 74, 75, 76, 77, 78, 79, 80, 81, 82, 83, 84, 85, 86, 87, 88] (by decide +kernel) (by decide +kernel)
set_option maxRecDepth 20000 in
theorem gX8_when_X1_isThere : GoodIn wsX8_when (wsV RX8 126 RX1 yX1_isThere wsX1_isThere) := goodIn_app (goodIn_of _ (by decide +kernel)) ggX8_when_X1_isThere
set_option maxRecDepth 20000 in
theorem ggX8_when_X8_bad : GoodIn wsX8_when wsX8_bad := goodIn_r _ [14, 15, 60, 61, 62, 63, 64, 65, 66, 67, 68, 69, 70, 71, 72, 73] (by decide +kernel) (by decide +kernel)
set_option maxRecDepth 20000 in
theorem gX8_when_X8_bad : GoodIn wsX8_when (wsV RX8 61 RX8 yX8_bad wsX8_bad) := goodIn_app (goodIn_of _ (by decide +kernel)) ggX8_when_X8_bad
set_option maxRecDepth 20000 in
theorem ggX8_when_X1_isIn : GoodIn wsX8_when wsX1_isIn := goodIn_r _ [19, 7, 20, 21, 22, 23, 24, 25, 26, 27, 74, 75, 76, 77, 78, 79, 80, 81, 82, 83, 84, 85, 86, 87, 88] (by decide +kernel) (by decide +kernel)
set_option maxRecDepth 20000 in
theorem gX8_when_X1_isIn : GoodIn wsX8_when (wsV RX8 129 RX1 yX1_isIn wsX1_isIn) := goodIn_app (goodIn_of _ (by decide +kernel)) ggX8_when_X1_isIn
set_option maxRecDepth 20000 in
theorem ggX8_when_X1_hasRoom : GoodIn wsX8_when wsX1_hasRoom := goodIn_r _ [31, 7, 32, 33, 34, 35, 23, 36, 25, 37, 21, 22, 24, 26, 27, 74, 75, 76, 77, 78, 79, 80, 81, 82, 83, 84, 85, 86, 87, 88] (by decide +kernel) (by decide +kernel)
set_option maxRecDepth 20000 in
theorem gX8_when_X1_hasRoom : GoodIn wsX8_when (wsV RX8 176 RX1 yX1_hasRoom wsX1_hasRoom) := goodIn_app (goodIn_of _ (by decide +kernel)) ggX8_when_X1_hasRoom
set_option maxRecDepth 20000 in
theorem ggX8_when_X1_wetOf : GoodIn wsX8_when wsX1_wetOf := goodIn_r _ [41, 42, 74, 75, 76, 77, 78, 79, 80, 81, 82, 83, 84] (by decide +kernel) (by decide +kernel)
set_option maxRecDepth 20000 in
theorem gX8_when_X1_wetOf : GoodIn wsX8_when (wsV RX8 87 RX1 yX1_wetOf wsX1_wetOf) := goodIn_app (goodIn_of _ (by decide +kernel)) ggX8_when_X1_wetOf
set_option maxRecDepth 20000 in
theorem ggX8_when_X1_letsPass : GoodIn wsX8_when wsX1_letsPass := goodIn_r _ [46, 47, 48, 49, 50, 51, 74, 75, 76, 77, 78, 79, 80, 81, 82, 83, 84] (by decide +kernel) (by decide +kernel)
set_option maxRecDepth 20000 in
theorem gX8_when_X1_letsPass : GoodIn wsX8_when (wsV RX8 182 RX1 yX1_letsPass wsX1_letsPass) := goodIn_app (goodIn_of _ (by decide +kernel)) ggX8_when_X1_letsPass
set_option maxRecDepth 20000 in
theorem ggX8_when_X5_cell : GoodIn wsX8_when wsX5_cell := goodIn_r _ [24, 25, 26, 27, 85, 86, 87, 88] (by decide +kernel) (by decide +kernel)
set_option maxRecDepth 20000 in
theorem gX8_when_X5_cell : GoodIn wsX8_when (wsV RX8 147 RX5 yX5_cell wsX5_cell) := goodIn_app (goodIn_of _ (by decide +kernel)) ggX8_when_X5_cell
set_option maxRecDepth 20000 in
theorem ggX8_when_X1_likely : GoodIn wsX8_when wsX1_likely := goodIn_r _ [56, 7, 20, 21, 22, 23, 24, 25, 26, 27, 57, 58, 50, 59, 74, 75, 76, 77, 78, 79, 80, 81, 82, 83, 84, 85, 86, 87, 88] (by decide +kernel) (by decide +kernel)
set_option maxRecDepth 20000 in
theorem gX8_when_X1_likely : GoodIn wsX8_when (wsV RX8 185 RX1 yX1_likely wsX1_likely) := goodIn_app (goodIn_of _ (by decide +kernel)) ggX8_when_X1_likely
set_option maxRecDepth 20000 in
theorem dA_X8_when_0 : (([(0, .aload_n 0, 1), (1, .getfield 10, 3), (4, .iload_n 1, 1), (5, .invokevirtual 126, 3), (8, .ifCond .ne 8, 3), (11, .aload_n 0, 1), (12, .invokevirtual 61, 3), (15, .ireturn, 1), (16, .aload_n 0, 1), (17, .getfield 10, 3), (20, .iload_n 1, 1), (21, .invokevirtual 129, 3), (24, .ifCond .ne 13, 3), (27, .aload_n 0, 1), (28, .getfield 10, 3), (31, .invokevirtual 176, 3), (34, .ifCond .ne 5, 3), (37, .iconst (-1), 1), (38, .ireturn, 1), (39, .iconst 0, 1), (40, .istore_n 2, 1), (41, .iload_n 2, 1), (42, .bipush 60, 2), (44, .if_icmp .gt 91, 3), (47, .aload_n 0, 1), (48, .getfield 10, 3), (51, .getfield 157, 3), (54, .iload_n 2, 1), (55, .iadd, 1), (56, .istore_n 3, 1), (57, .aload_n 0, 1), (58, .getfield 10, 3), (61, .aload_n 0, 1), (62, .getfield 10, 3), (65, .iload_n 3, 1), (66, .invokevirtual 87, 3), (69, .iload_n 2, 1), (70, .ifCond .ne 13, 3), (73, .aload_n 0, 1), (74, .getfield 10, 3)] : List (Nat × Instr × Nat)).all fun q => decide (decode cX8_when q.1 = .ok (q.2.1, q.2.2))) = true := by decide +kernel
theorem dX8_when_0 : decode cX8_when 0 = .ok (.aload_n 0, 1) := of_decide_eq_true (List.all_eq_true.mp dA_X8_when_0 (0, .aload_n 0, 1) (List.mem_of_getElem? (i := 0) rfl))
theorem dX8_when_1 : decode cX8_when 1 = .ok (.getfield 10, 3) := of_decide_eq_true (List.all_eq_true.mp dA_X8_when_0 (1, .getfield 10, 3) (List.mem_of_getElem? (i := 1) rfl))
theorem dX8_when_4 : decode cX8_when 4 = .ok (.iload_n 1, 1) := of_decide_eq_true (List.all_eq_true.mp dA_X8_when_0 (4, .iload_n 1, 1) (List.mem_of_getElem? (i := 2) rfl))
theorem dX8_when_5 : decode cX8_when 5 = .ok (.invokevirtual 126, 3) := of_decide_eq_true (List.all_eq_true.mp dA_X8_when_0 (5, .invokevirtual 126, 3) (List.mem_of_getElem? (i := 3) rfl))
theorem dX8_when_8 : decode cX8_when 8 = .ok (.ifCond .ne 8, 3) := of_decide_eq_true (List.all_eq_true.mp dA_X8_when_0 (8, .ifCond .ne 8, 3) (List.mem_of_getElem? (i := 4) rfl))
theorem dX8_when_11 : decode cX8_when 11 = .ok (.aload_n 0, 1) := of_decide_eq_true (List.all_eq_true.mp dA_X8_when_0 (11, .aload_n 0, 1) (List.mem_of_getElem? (i := 5) rfl))
theorem dX8_when_12 : decode cX8_when 12 = .ok (.invokevirtual 61, 3) := of_decide_eq_true (List.all_eq_true.mp dA_X8_when_0 (12, .invokevirtual 61, 3) (List.mem_of_getElem? (i := 6) rfl))
theorem dX8_when_15 : decode cX8_when 15 = .ok (.ireturn, 1) := of_decide_eq_true (List.all_eq_true.mp dA_X8_when_0 (15, .ireturn, 1) (List.mem_of_getElem? (i := 7) rfl))
theorem dX8_when_16 : decode cX8_when 16 = .ok (.aload_n 0, 1) := of_decide_eq_true (List.all_eq_true.mp dA_X8_when_0 (16, .aload_n 0, 1) (List.mem_of_getElem? (i := 8) rfl))
theorem dX8_when_17 : decode cX8_when 17 = .ok (.getfield 10, 3) := of_decide_eq_true (List.all_eq_true.mp dA_X8_when_0 (17, .getfield 10, 3) (List.mem_of_getElem? (i := 9) rfl))
theorem dX8_when_20 : decode cX8_when 20 = .ok (.iload_n 1, 1) := of_decide_eq_true (List.all_eq_true.mp dA_X8_when_0 (20, .iload_n 1, 1) (List.mem_of_getElem? (i := 10) rfl))
theorem dX8_when_21 : decode cX8_when 21 = .ok (.invokevirtual 129, 3) := of_decide_eq_true (List.all_eq_true.mp dA_X8_when_0 (21, .invokevirtual 129, 3) (List.mem_of_getElem? (i := 11) rfl))
theorem dX8_when_24 : decode cX8_when 24 = .ok (.ifCond .ne 13, 3) := of_decide_eq_true (List.all_eq_true.mp dA_X8_when_0 (24, .ifCond .ne 13, 3) (List.mem_of_getElem? (i := 12) rfl))
theorem dX8_when_27 : decode cX8_when 27 = .ok (.aload_n 0, 1) := of_decide_eq_true (List.all_eq_true.mp dA_X8_when_0 (27, .aload_n 0, 1) (List.mem_of_getElem? (i := 13) rfl))
theorem dX8_when_28 : decode cX8_when 28 = .ok (.getfield 10, 3) := of_decide_eq_true (List.all_eq_true.mp dA_X8_when_0 (28, .getfield 10, 3) (List.mem_of_getElem? (i := 14) rfl))
theorem dX8_when_31 : decode cX8_when 31 = .ok (.invokevirtual 176, 3) := of_decide_eq_true (List.all_eq_true.mp dA_X8_when_0 (31, .invokevirtual 176, 3) (List.mem_of_getElem? (i := 15) rfl))
theorem dX8_when_34 : decode cX8_when 34 = .ok (.ifCond .ne 5, 3) := of_decide_eq_true (List.all_eq_true.mp dA_X8_when_0 (34, .ifCond .ne 5, 3) (List.mem_of_getElem? (i := 16) rfl))
theorem dX8_when_37 : decode cX8_when 37 = .ok (.iconst (-1), 1) := of_decide_eq_true (List.all_eq_true.mp dA_X8_when_0 (37, .iconst (-1), 1) (List.mem_of_getElem? (i := 17) rfl))
theorem dX8_when_38 : decode cX8_when 38 = .ok (.ireturn, 1) := of_decide_eq_true (List.all_eq_true.mp dA_X8_when_0 (38, .ireturn, 1) (List.mem_of_getElem? (i := 18) rfl))
theorem dX8_when_39 : decode cX8_when 39 = .ok (.iconst 0, 1) := of_decide_eq_true (List.all_eq_true.mp dA_X8_when_0 (39, .iconst 0, 1) (List.mem_of_getElem? (i := 19) rfl))
theorem dX8_when_40 : decode cX8_when 40 = .ok (.istore_n 2, 1) := of_decide_eq_true (List.all_eq_true.mp dA_X8_when_0 (40, .istore_n 2, 1) (List.mem_of_getElem? (i := 20) rfl))
theorem dX8_when_41 : decode cX8_when 41 = .ok (.iload_n 2, 1) := of_decide_eq_true (List.all_eq_true.mp dA_X8_when_0 (41, .iload_n 2, 1) (List.mem_of_getElem? (i := 21) rfl))
theorem dX8_when_42 : decode cX8_when 42 = .ok (.bipush 60, 2) := of_decide_eq_true (List.all_eq_true.mp dA_X8_when_0 (42, .bipush 60, 2) (List.mem_of_getElem? (i := 22) rfl))
theorem dX8_when_44 : decode cX8_when 44 = .ok (.if_icmp .gt 91, 3) := of_decide_eq_true (List.all_eq_true.mp dA_X8_when_0 (44, .if_icmp .gt 91, 3) (List.mem_of_getElem? (i := 23) rfl))
theorem dX8_when_47 : decode cX8_when 47 = .ok (.aload_n 0, 1) := of_decide_eq_true (List.all_eq_true.mp dA_X8_when_0 (47, .aload_n 0, 1) (List.mem_of_getElem? (i := 24) rfl))
theorem dX8_when_48 : decode cX8_when 48 = .ok (.getfield 10, 3) := of_decide_eq_true (List.all_eq_true.mp dA_X8_when_0 (48, .getfield 10, 3) (List.mem_of_getElem? (i := 25) rfl))
theorem dX8_when_51 : decode cX8_when 51 = .ok (.getfield 157, 3) := of_decide_eq_true (List.all_eq_true.mp dA_X8_when_0 (51, .getfield 157, 3) (List.mem_of_getElem? (i := 26) rfl))
theorem dX8_when_54 : decode cX8_when 54 = .ok (.iload_n 2, 1) := of_decide_eq_true (List.all_eq_true.mp dA_X8_when_0 (54, .iload_n 2, 1) (List.mem_of_getElem? (i := 27) rfl))
theorem dX8_when_55 : decode cX8_when 55 = .ok (.iadd, 1) := of_decide_eq_true (List.all_eq_true.mp dA_X8_when_0 (55, .iadd, 1) (List.mem_of_getElem? (i := 28) rfl))
theorem dX8_when_56 : decode cX8_when 56 = .ok (.istore_n 3, 1) := of_decide_eq_true (List.all_eq_true.mp dA_X8_when_0 (56, .istore_n 3, 1) (List.mem_of_getElem? (i := 29) rfl))
theorem dX8_when_57 : decode cX8_when 57 = .ok (.aload_n 0, 1) := of_decide_eq_true (List.all_eq_true.mp dA_X8_when_0 (57, .aload_n 0, 1) (List.mem_of_getElem? (i := 30) rfl))
theorem dX8_when_58 : decode cX8_when 58 = .ok (.getfield 10, 3) := of_decide_eq_true (List.all_eq_true.mp dA_X8_when_0 (58, .getfield 10, 3) (List.mem_of_getElem? (i := 31) rfl))
theorem dX8_when_61 : decode cX8_when 61 = .ok (.aload_n 0, 1) := of_decide_eq_true (List.all_eq_true.mp dA_X8_when_0 (61, .aload_n 0, 1) (List.mem_of_getElem? (i := 32) rfl))
theorem dX8_when_62 : decode cX8_when 62 = .ok (.getfield 10, 3) := of_decide_eq_true (List.all_eq_true.mp dA_X8_when_0 (62, .getfield 10, 3) (List.mem_of_getElem? (i := 33) rfl))
theorem dX8_when_65 : decode cX8_when 65 = .ok (.iload_n 3, 1) := of_decide_eq_true (List.all_eq_true.mp dA_X8_when_0 (65, .iload_n 3, 1) (List.mem_of_getElem? (i := 34) rfl))
theorem dX8_when_66 : decode cX8_when 66 = .ok (.invokevirtual 87, 3) := of_decide_eq_true (List.all_eq_true.mp dA_X8_when_0 (66, .invokevirtual 87, 3) (List.mem_of_getElem? (i := 35) rfl))
theorem dX8_when_69 : decode cX8_when 69 = .ok (.iload_n 2, 1) := of_decide_eq_true (List.all_eq_true.mp dA_X8_when_0 (69, .iload_n 2, 1) (List.mem_of_getElem? (i := 36) rfl))
theorem dX8_when_70 : decode cX8_when 70 = .ok (.ifCond .ne 13, 3) := of_decide_eq_true (List.all_eq_true.mp dA_X8_when_0 (70, .ifCond .ne 13, 3) (List.mem_of_getElem? (i := 37) rfl))
theorem dX8_when_73 : decode cX8_when 73 = .ok (.aload_n 0, 1) := of_decide_eq_true (List.all_eq_true.mp dA_X8_when_0 (73, .aload_n 0, 1) (List.mem_of_getElem? (i := 38) rfl))
theorem dX8_when_74 : decode cX8_when 74 = .ok (.getfield 10, 3) := of_decide_eq_true (List.all_eq_true.mp dA_X8_when_0 (74, .getfield 10, 3) (List.mem_of_getElem? (i := 39) rfl))
set_option maxRecDepth 20000 in
theorem dA_X8_when_77 : (([(77, .getfield 179, 3), (80, .goto 4, 3), (83, .iconst 0, 1), (84, .invokevirtual 182, 3), (87, .istore 4, 2), (89, .aload_n 0, 1), (90, .getfield 10, 3), (93, .iload_n 1, 1), (94, .aload_n 0, 1), (95, .getfield 10, 3), (98, .getfield 65, 3), (101, .iload_n 1, 1), (102, .iconst 1, 1), (103, .invokevirtual 147, 3), (106, .aload_n 0, 1), (107, .getfield 10, 3), (110, .getfield 65, 3), (113, .iload_n 1, 1), (114, .iconst 2, 1), (115, .invokevirtual 147, 3), (118, .iload_n 3, 1), (119, .invokevirtual 185, 3), (122, .iload 4, 2), (124, .if_icmp .gt 5, 3), (127, .iload_n 2, 1), (128, .ireturn, 1), (129, .iinc 2 1, 3), (132, .goto (-91), 3), (135, .iconst (-1), 1), (136, .ireturn, 1)] : List (Nat × Instr × Nat)).all fun q => decide (decode cX8_when q.1 = .ok (q.2.1, q.2.2))) = true := by decide +kernel
theorem dX8_when_77 : decode cX8_when 77 = .ok (.getfield 179, 3) := of_decide_eq_true (List.all_eq_true.mp dA_X8_when_77 (77, .getfield 179, 3) (List.mem_of_getElem? (i := 0) rfl))
theorem dX8_when_80 : decode cX8_when 80 = .ok (.goto 4, 3) := of_decide_eq_true (List.all_eq_true.mp dA_X8_when_77 (80, .goto 4, 3) (List.mem_of_getElem? (i := 1) rfl))
theorem dX8_when_83 : decode cX8_when 83 = .ok (.iconst 0, 1) := of_decide_eq_true (List.all_eq_true.mp dA_X8_when_77 (83, .iconst 0, 1) (List.mem_of_getElem? (i := 2) rfl))
theorem dX8_when_84 : decode cX8_when 84 = .ok (.invokevirtual 182, 3) := of_decide_eq_true (List.all_eq_true.mp dA_X8_when_77 (84, .invokevirtual 182, 3) (List.mem_of_getElem? (i := 3) rfl))
theorem dX8_when_87 : decode cX8_when 87 = .ok (.istore 4, 2) := of_decide_eq_true (List.all_eq_true.mp dA_X8_when_77 (87, .istore 4, 2) (List.mem_of_getElem? (i := 4) rfl))
theorem dX8_when_89 : decode cX8_when 89 = .ok (.aload_n 0, 1) := of_decide_eq_true (List.all_eq_true.mp dA_X8_when_77 (89, .aload_n 0, 1) (List.mem_of_getElem? (i := 5) rfl))
theorem dX8_when_90 : decode cX8_when 90 = .ok (.getfield 10, 3) := of_decide_eq_true (List.all_eq_true.mp dA_X8_when_77 (90, .getfield 10, 3) (List.mem_of_getElem? (i := 6) rfl))
theorem dX8_when_93 : decode cX8_when 93 = .ok (.iload_n 1, 1) := of_decide_eq_true (List.all_eq_true.mp dA_X8_when_77 (93, .iload_n 1, 1) (List.mem_of_getElem? (i := 7) rfl))
theorem dX8_when_94 : decode cX8_when 94 = .ok (.aload_n 0, 1) := of_decide_eq_true (List.all_eq_true.mp dA_X8_when_77 (94, .aload_n 0, 1) (List.mem_of_getElem? (i := 8) rfl))
theorem dX8_when_95 : decode cX8_when 95 = .ok (.getfield 10, 3) := of_decide_eq_true (List.all_eq_true.mp dA_X8_when_77 (95, .getfield 10, 3) (List.mem_of_getElem? (i := 9) rfl))
theorem dX8_when_98 : decode cX8_when 98 = .ok (.getfield 65, 3) := of_decide_eq_true (List.all_eq_true.mp dA_X8_when_77 (98, .getfield 65, 3) (List.mem_of_getElem? (i := 10) rfl))
theorem dX8_when_101 : decode cX8_when 101 = .ok (.iload_n 1, 1) := of_decide_eq_true (List.all_eq_true.mp dA_X8_when_77 (101, .iload_n 1, 1) (List.mem_of_getElem? (i := 11) rfl))
theorem dX8_when_102 : decode cX8_when 102 = .ok (.iconst 1, 1) := of_decide_eq_true (List.all_eq_true.mp dA_X8_when_77 (102, .iconst 1, 1) (List.mem_of_getElem? (i := 12) rfl))
theorem dX8_when_103 : decode cX8_when 103 = .ok (.invokevirtual 147, 3) := of_decide_eq_true (List.all_eq_true.mp dA_X8_when_77 (103, .invokevirtual 147, 3) (List.mem_of_getElem? (i := 13) rfl))
theorem dX8_when_106 : decode cX8_when 106 = .ok (.aload_n 0, 1) := of_decide_eq_true (List.all_eq_true.mp dA_X8_when_77 (106, .aload_n 0, 1) (List.mem_of_getElem? (i := 14) rfl))
theorem dX8_when_107 : decode cX8_when 107 = .ok (.getfield 10, 3) := of_decide_eq_true (List.all_eq_true.mp dA_X8_when_77 (107, .getfield 10, 3) (List.mem_of_getElem? (i := 15) rfl))
theorem dX8_when_110 : decode cX8_when 110 = .ok (.getfield 65, 3) := of_decide_eq_true (List.all_eq_true.mp dA_X8_when_77 (110, .getfield 65, 3) (List.mem_of_getElem? (i := 16) rfl))
theorem dX8_when_113 : decode cX8_when 113 = .ok (.iload_n 1, 1) := of_decide_eq_true (List.all_eq_true.mp dA_X8_when_77 (113, .iload_n 1, 1) (List.mem_of_getElem? (i := 17) rfl))
theorem dX8_when_114 : decode cX8_when 114 = .ok (.iconst 2, 1) := of_decide_eq_true (List.all_eq_true.mp dA_X8_when_77 (114, .iconst 2, 1) (List.mem_of_getElem? (i := 18) rfl))
theorem dX8_when_115 : decode cX8_when 115 = .ok (.invokevirtual 147, 3) := of_decide_eq_true (List.all_eq_true.mp dA_X8_when_77 (115, .invokevirtual 147, 3) (List.mem_of_getElem? (i := 19) rfl))
theorem dX8_when_118 : decode cX8_when 118 = .ok (.iload_n 3, 1) := of_decide_eq_true (List.all_eq_true.mp dA_X8_when_77 (118, .iload_n 3, 1) (List.mem_of_getElem? (i := 20) rfl))
theorem dX8_when_119 : decode cX8_when 119 = .ok (.invokevirtual 185, 3) := of_decide_eq_true (List.all_eq_true.mp dA_X8_when_77 (119, .invokevirtual 185, 3) (List.mem_of_getElem? (i := 21) rfl))
theorem dX8_when_122 : decode cX8_when 122 = .ok (.iload 4, 2) := of_decide_eq_true (List.all_eq_true.mp dA_X8_when_77 (122, .iload 4, 2) (List.mem_of_getElem? (i := 22) rfl))
theorem dX8_when_124 : decode cX8_when 124 = .ok (.if_icmp .gt 5, 3) := of_decide_eq_true (List.all_eq_true.mp dA_X8_when_77 (124, .if_icmp .gt 5, 3) (List.mem_of_getElem? (i := 23) rfl))
theorem dX8_when_127 : decode cX8_when 127 = .ok (.iload_n 2, 1) := of_decide_eq_true (List.all_eq_true.mp dA_X8_when_77 (127, .iload_n 2, 1) (List.mem_of_getElem? (i := 24) rfl))
theorem dX8_when_128 : decode cX8_when 128 = .ok (.ireturn, 1) := of_decide_eq_true (List.all_eq_true.mp dA_X8_when_77 (128, .ireturn, 1) (List.mem_of_getElem? (i := 25) rfl))
theorem dX8_when_129 : decode cX8_when 129 = .ok (.iinc 2 1, 3) := of_decide_eq_true (List.all_eq_true.mp dA_X8_when_77 (129, .iinc 2 1, 3) (List.mem_of_getElem? (i := 26) rfl))
theorem dX8_when_132 : decode cX8_when 132 = .ok (.goto (-91), 3) := of_decide_eq_true (List.all_eq_true.mp dA_X8_when_77 (132, .goto (-91), 3) (List.mem_of_getElem? (i := 27) rfl))
theorem dX8_when_135 : decode cX8_when 135 = .ok (.iconst (-1), 1) := of_decide_eq_true (List.all_eq_true.mp dA_X8_when_77 (135, .iconst (-1), 1) (List.mem_of_getElem? (i := 28) rfl))
theorem dX8_when_136 : decode cX8_when 136 = .ok (.ireturn, 1) := of_decide_eq_true (List.all_eq_true.mp dA_X8_when_77 (136, .ireturn, 1) (List.mem_of_getElem? (i := 29) rfl))
set_option maxRecDepth 20000 in
theorem ggX8_pen_X1_isThere : GoodIn wsX8_pen wsX1_isThere := goodIn_r _ [6, 7, 8, 9, 10, 76, 77, 78, 79, 80, 81, 82, 83, 84, 85, 86, 87, 88, 89, 90] (by decide +kernel) (by decide +kernel)
set_option maxRecDepth 20000 in
theorem gX8_pen_X1_isThere : GoodIn wsX8_pen (wsV RX8 126 RX1 yX1_isThere wsX1_isThere) := goodIn_app (goodIn_of _ (by decide +kernel)) ggX8_pen_X1_isThere
set_option maxRecDepth 20000 in
theorem ggX8_pen_X8_bad : GoodIn wsX8_pen wsX8_bad := goodIn_r _ [14, 15, 62, 63, 64, 65, 66, 67, 68, 69, 70, 71, 72, 73, 74, 75] (by decide +kernel) (by decide +kernel)
set_option maxRecDepth 20000 in
theorem gX8_pen_X8_bad : GoodIn wsX8_pen (wsV RX8 61 RX8 yX8_bad wsX8_bad) := goodIn_app (goodIn_of _ (by decide +kernel)) ggX8_pen_X8_bad
set_option maxRecDepth 20000 in
theorem ggX8_pen_X1_isIn : GoodIn wsX8_pen wsX1_isIn := goodIn_r _ [19, 7, 20, 21, 22, 23, 24, 25, 26, 27, 76, 77, 78, 79, 80, 81, 82, 83, 84, 85, 86, 87, 88, 89, 90] (by decide +kernel) (by decide +kernel)
set_option maxRecDepth 20000 in
theorem gX8_pen_X1_isIn : GoodIn wsX8_pen (wsV RX8 129 RX1 yX1_isIn wsX1_isIn) := goodIn_app (goodIn_of _ (by decide +kernel)) ggX8_pen_X1_isIn
set_option maxRecDepth 20000 in
theorem ggX8_pen_X1_hasRoom : GoodIn wsX8_pen wsX1_hasRoom := goodIn_r _ [31, 7, 32, 33, 34, 35, 23, 36, 25, 37, 21, 22, 24, 26, 27, 76, 77, 78, 79, 80, 81, 82, 83, 84, 85, 86, 87, 88, 89, 90] (by decide +kernel) (by decide +kernel)
set_option maxRecDepth 20000 in
theorem gX8_pen_X1_hasRoom : GoodIn wsX8_pen (wsV RX8 176 RX1 yX1_hasRoom wsX1_hasRoom) := goodIn_app (goodIn_of _ (by decide +kernel)) ggX8_pen_X1_hasRoom
set_option maxRecDepth 20000 in
theorem ggX8_pen_X5_cell : GoodIn wsX8_pen wsX5_cell := goodIn_r _ [24, 25, 26, 27, 87, 88, 89, 90] (by decide +kernel) (by decide +kernel)
set_option maxRecDepth 20000 in
theorem gX8_pen_X5_cell : GoodIn wsX8_pen (wsV RX8 147 RX5 yX5_cell wsX5_cell) := goodIn_app (goodIn_of _ (by decide +kernel)) ggX8_pen_X5_cell
set_option maxRecDepth 20000 in
theorem ggX8_pen_X1_likely : GoodIn wsX8_pen wsX1_likely := goodIn_r _ [42, 7, 20, 21, 22, 23, 24, 25, 26, 27, 43, 44, 45, 46, 76, 77, 78, 79, 80, 81, 82, 83, 84, 85, 86, 87, 88, 89, 90] (by decide +kernel) (by decide +kernel)
set_option maxRecDepth 20000 in
theorem gX8_pen_X1_likely : GoodIn wsX8_pen (wsV RX8 185 RX1 yX1_likely wsX1_likely) := goodIn_app (goodIn_of _ (by decide +kernel)) ggX8_pen_X1_likely
set_option maxRecDepth 20000 in
theorem ggX8_pen_X1_letsNow : GoodIn wsX8_pen wsX1_letsNow := goodIn_r _ [50, 51, 52, 53, 54, 55, 56, 5, 57, 58, 59, 60, 45, 61, 76, 77, 78, 79, 80, 81, 82, 83, 84, 85, 86] (by decide +kernel) (by decide +kernel)
set_option maxRecDepth 20000 in
theorem gX8_pen_X1_letsNow : GoodIn wsX8_pen (wsV RX8 189 RX1 yX1_letsNow wsX1_letsNow) := goodIn_app (goodIn_of _ (by decide +kernel)) ggX8_pen_X1_letsNow
set_option maxRecDepth 20000 in
theorem dA_X8_pen_0 : (([(0, .aload_n 0, 1), (1, .getfield 10, 3), (4, .iload_n 1, 1), (5, .invokevirtual 126, 3), (8, .ifCond .ne 8, 3), (11, .aload_n 0, 1), (12, .invokevirtual 61, 3), (15, .ireturn, 1), (16, .aload_n 0, 1), (17, .getfield 10, 3), (20, .iload_n 1, 1), (21, .invokevirtual 129, 3), (24, .ifCond .ne 13, 3), (27, .aload_n 0, 1), (28, .getfield 10, 3), (31, .invokevirtual 176, 3), (34, .ifCond .ne 5, 3), (37, .iconst (-1), 1), (38, .ireturn, 1), (39, .bipush 9, 2), (41, .istore_n 2, 1), (42, .iload_n 2, 1), (43, .ifCond .lt 49, 3), (46, .aload_n 0, 1), (47, .getfield 10, 3), (50, .iload_n 1, 1), (51, .iload_n 2, 1), (52, .aload_n 0, 1), (53, .getfield 10, 3), (56, .getfield 65, 3), (59, .iload_n 1, 1), (60, .iconst 2, 1), (61, .invokevirtual 147, 3), (64, .aload_n 0, 1), (65, .getfield 10, 3), (68, .getfield 157, 3), (71, .invokevirtual 185, 3), (74, .aload_n 0, 1), (75, .getfield 10, 3), (78, .invokevirtual 189, 3)] : List (Nat × Instr × Nat)).all fun q => decide (decode cX8_pen q.1 = .ok (q.2.1, q.2.2))) = true := by decide +kernel
theorem dX8_pen_0 : decode cX8_pen 0 = .ok (.aload_n 0, 1) := of_decide_eq_true (List.all_eq_true.mp dA_X8_pen_0 (0, .aload_n 0, 1) (List.mem_of_getElem? (i := 0) rfl))
theorem dX8_pen_1 : decode cX8_pen 1 = .ok (.getfield 10, 3) := of_decide_eq_true (List.all_eq_true.mp dA_X8_pen_0 (1, .getfield 10, 3) (List.mem_of_getElem? (i := 1) rfl))
theorem dX8_pen_4 : decode cX8_pen 4 = .ok (.iload_n 1, 1) := of_decide_eq_true (List.all_eq_true.mp dA_X8_pen_0 (4, .iload_n 1, 1) (List.mem_of_getElem? (i := 2) rfl))
theorem dX8_pen_5 : decode cX8_pen 5 = .ok (.invokevirtual 126, 3) := of_decide_eq_true (List.all_eq_true.mp dA_X8_pen_0 (5, .invokevirtual 126, 3) (List.mem_of_getElem? (i := 3) rfl))
theorem dX8_pen_8 : decode cX8_pen 8 = .ok (.ifCond .ne 8, 3) := of_decide_eq_true (List.all_eq_true.mp dA_X8_pen_0 (8, .ifCond .ne 8, 3) (List.mem_of_getElem? (i := 4) rfl))
theorem dX8_pen_11 : decode cX8_pen 11 = .ok (.aload_n 0, 1) := of_decide_eq_true (List.all_eq_true.mp dA_X8_pen_0 (11, .aload_n 0, 1) (List.mem_of_getElem? (i := 5) rfl))
theorem dX8_pen_12 : decode cX8_pen 12 = .ok (.invokevirtual 61, 3) := of_decide_eq_true (List.all_eq_true.mp dA_X8_pen_0 (12, .invokevirtual 61, 3) (List.mem_of_getElem? (i := 6) rfl))
theorem dX8_pen_15 : decode cX8_pen 15 = .ok (.ireturn, 1) := of_decide_eq_true (List.all_eq_true.mp dA_X8_pen_0 (15, .ireturn, 1) (List.mem_of_getElem? (i := 7) rfl))
theorem dX8_pen_16 : decode cX8_pen 16 = .ok (.aload_n 0, 1) := of_decide_eq_true (List.all_eq_true.mp dA_X8_pen_0 (16, .aload_n 0, 1) (List.mem_of_getElem? (i := 8) rfl))
theorem dX8_pen_17 : decode cX8_pen 17 = .ok (.getfield 10, 3) := of_decide_eq_true (List.all_eq_true.mp dA_X8_pen_0 (17, .getfield 10, 3) (List.mem_of_getElem? (i := 9) rfl))
theorem dX8_pen_20 : decode cX8_pen 20 = .ok (.iload_n 1, 1) := of_decide_eq_true (List.all_eq_true.mp dA_X8_pen_0 (20, .iload_n 1, 1) (List.mem_of_getElem? (i := 10) rfl))
theorem dX8_pen_21 : decode cX8_pen 21 = .ok (.invokevirtual 129, 3) := of_decide_eq_true (List.all_eq_true.mp dA_X8_pen_0 (21, .invokevirtual 129, 3) (List.mem_of_getElem? (i := 11) rfl))
theorem dX8_pen_24 : decode cX8_pen 24 = .ok (.ifCond .ne 13, 3) := of_decide_eq_true (List.all_eq_true.mp dA_X8_pen_0 (24, .ifCond .ne 13, 3) (List.mem_of_getElem? (i := 12) rfl))
theorem dX8_pen_27 : decode cX8_pen 27 = .ok (.aload_n 0, 1) := of_decide_eq_true (List.all_eq_true.mp dA_X8_pen_0 (27, .aload_n 0, 1) (List.mem_of_getElem? (i := 13) rfl))
theorem dX8_pen_28 : decode cX8_pen 28 = .ok (.getfield 10, 3) := of_decide_eq_true (List.all_eq_true.mp dA_X8_pen_0 (28, .getfield 10, 3) (List.mem_of_getElem? (i := 14) rfl))
theorem dX8_pen_31 : decode cX8_pen 31 = .ok (.invokevirtual 176, 3) := of_decide_eq_true (List.all_eq_true.mp dA_X8_pen_0 (31, .invokevirtual 176, 3) (List.mem_of_getElem? (i := 15) rfl))
theorem dX8_pen_34 : decode cX8_pen 34 = .ok (.ifCond .ne 5, 3) := of_decide_eq_true (List.all_eq_true.mp dA_X8_pen_0 (34, .ifCond .ne 5, 3) (List.mem_of_getElem? (i := 16) rfl))
theorem dX8_pen_37 : decode cX8_pen 37 = .ok (.iconst (-1), 1) := of_decide_eq_true (List.all_eq_true.mp dA_X8_pen_0 (37, .iconst (-1), 1) (List.mem_of_getElem? (i := 17) rfl))
theorem dX8_pen_38 : decode cX8_pen 38 = .ok (.ireturn, 1) := of_decide_eq_true (List.all_eq_true.mp dA_X8_pen_0 (38, .ireturn, 1) (List.mem_of_getElem? (i := 18) rfl))
theorem dX8_pen_39 : decode cX8_pen 39 = .ok (.bipush 9, 2) := of_decide_eq_true (List.all_eq_true.mp dA_X8_pen_0 (39, .bipush 9, 2) (List.mem_of_getElem? (i := 19) rfl))
theorem dX8_pen_41 : decode cX8_pen 41 = .ok (.istore_n 2, 1) := of_decide_eq_true (List.all_eq_true.mp dA_X8_pen_0 (41, .istore_n 2, 1) (List.mem_of_getElem? (i := 20) rfl))
theorem dX8_pen_42 : decode cX8_pen 42 = .ok (.iload_n 2, 1) := of_decide_eq_true (List.all_eq_true.mp dA_X8_pen_0 (42, .iload_n 2, 1) (List.mem_of_getElem? (i := 21) rfl))
theorem dX8_pen_43 : decode cX8_pen 43 = .ok (.ifCond .lt 49, 3) := of_decide_eq_true (List.all_eq_true.mp dA_X8_pen_0 (43, .ifCond .lt 49, 3) (List.mem_of_getElem? (i := 22) rfl))
theorem dX8_pen_46 : decode cX8_pen 46 = .ok (.aload_n 0, 1) := of_decide_eq_true (List.all_eq_true.mp dA_X8_pen_0 (46, .aload_n 0, 1) (List.mem_of_getElem? (i := 23) rfl))
theorem dX8_pen_47 : decode cX8_pen 47 = .ok (.getfield 10, 3) := of_decide_eq_true (List.all_eq_true.mp dA_X8_pen_0 (47, .getfield 10, 3) (List.mem_of_getElem? (i := 24) rfl))
theorem dX8_pen_50 : decode cX8_pen 50 = .ok (.iload_n 1, 1) := of_decide_eq_true (List.all_eq_true.mp dA_X8_pen_0 (50, .iload_n 1, 1) (List.mem_of_getElem? (i := 25) rfl))
theorem dX8_pen_51 : decode cX8_pen 51 = .ok (.iload_n 2, 1) := of_decide_eq_true (List.all_eq_true.mp dA_X8_pen_0 (51, .iload_n 2, 1) (List.mem_of_getElem? (i := 26) rfl))
theorem dX8_pen_52 : decode cX8_pen 52 = .ok (.aload_n 0, 1) := of_decide_eq_true (List.all_eq_true.mp dA_X8_pen_0 (52, .aload_n 0, 1) (List.mem_of_getElem? (i := 27) rfl))
theorem dX8_pen_53 : decode cX8_pen 53 = .ok (.getfield 10, 3) := of_decide_eq_true (List.all_eq_true.mp dA_X8_pen_0 (53, .getfield 10, 3) (List.mem_of_getElem? (i := 28) rfl))
theorem dX8_pen_56 : decode cX8_pen 56 = .ok (.getfield 65, 3) := of_decide_eq_true (List.all_eq_true.mp dA_X8_pen_0 (56, .getfield 65, 3) (List.mem_of_getElem? (i := 29) rfl))
theorem dX8_pen_59 : decode cX8_pen 59 = .ok (.iload_n 1, 1) := of_decide_eq_true (List.all_eq_true.mp dA_X8_pen_0 (59, .iload_n 1, 1) (List.mem_of_getElem? (i := 30) rfl))
theorem dX8_pen_60 : decode cX8_pen 60 = .ok (.iconst 2, 1) := of_decide_eq_true (List.all_eq_true.mp dA_X8_pen_0 (60, .iconst 2, 1) (List.mem_of_getElem? (i := 31) rfl))
theorem dX8_pen_61 : decode cX8_pen 61 = .ok (.invokevirtual 147, 3) := of_decide_eq_true (List.all_eq_true.mp dA_X8_pen_0 (61, .invokevirtual 147, 3) (List.mem_of_getElem? (i := 32) rfl))
theorem dX8_pen_64 : decode cX8_pen 64 = .ok (.aload_n 0, 1) := of_decide_eq_true (List.all_eq_true.mp dA_X8_pen_0 (64, .aload_n 0, 1) (List.mem_of_getElem? (i := 33) rfl))
theorem dX8_pen_65 : decode cX8_pen 65 = .ok (.getfield 10, 3) := of_decide_eq_true (List.all_eq_true.mp dA_X8_pen_0 (65, .getfield 10, 3) (List.mem_of_getElem? (i := 34) rfl))
theorem dX8_pen_68 : decode cX8_pen 68 = .ok (.getfield 157, 3) := of_decide_eq_true (List.all_eq_true.mp dA_X8_pen_0 (68, .getfield 157, 3) (List.mem_of_getElem? (i := 35) rfl))
theorem dX8_pen_71 : decode cX8_pen 71 = .ok (.invokevirtual 185, 3) := of_decide_eq_true (List.all_eq_true.mp dA_X8_pen_0 (71, .invokevirtual 185, 3) (List.mem_of_getElem? (i := 36) rfl))
theorem dX8_pen_74 : decode cX8_pen 74 = .ok (.aload_n 0, 1) := of_decide_eq_true (List.all_eq_true.mp dA_X8_pen_0 (74, .aload_n 0, 1) (List.mem_of_getElem? (i := 37) rfl))
theorem dX8_pen_75 : decode cX8_pen 75 = .ok (.getfield 10, 3) := of_decide_eq_true (List.all_eq_true.mp dA_X8_pen_0 (75, .getfield 10, 3) (List.mem_of_getElem? (i := 38) rfl))
theorem dX8_pen_78 : decode cX8_pen 78 = .ok (.invokevirtual 189, 3) := of_decide_eq_true (List.all_eq_true.mp dA_X8_pen_0 (78, .invokevirtual 189, 3) (List.mem_of_getElem? (i := 39) rfl))
set_option maxRecDepth 20000 in
theorem dA_X8_pen_81 : (([(81, .if_icmp .gt 5, 3), (84, .iload_n 2, 1), (85, .ireturn, 1), (86, .iinc 2 (-1), 3), (89, .goto (-47), 3), (92, .iconst (-1), 1), (93, .ireturn, 1)] : List (Nat × Instr × Nat)).all fun q => decide (decode cX8_pen q.1 = .ok (q.2.1, q.2.2))) = true := by decide +kernel
theorem dX8_pen_81 : decode cX8_pen 81 = .ok (.if_icmp .gt 5, 3) := of_decide_eq_true (List.all_eq_true.mp dA_X8_pen_81 (81, .if_icmp .gt 5, 3) (List.mem_of_getElem? (i := 0) rfl))
theorem dX8_pen_84 : decode cX8_pen 84 = .ok (.iload_n 2, 1) := of_decide_eq_true (List.all_eq_true.mp dA_X8_pen_81 (84, .iload_n 2, 1) (List.mem_of_getElem? (i := 1) rfl))
theorem dX8_pen_85 : decode cX8_pen 85 = .ok (.ireturn, 1) := of_decide_eq_true (List.all_eq_true.mp dA_X8_pen_81 (85, .ireturn, 1) (List.mem_of_getElem? (i := 2) rfl))
theorem dX8_pen_86 : decode cX8_pen 86 = .ok (.iinc 2 (-1), 3) := of_decide_eq_true (List.all_eq_true.mp dA_X8_pen_81 (86, .iinc 2 (-1), 3) (List.mem_of_getElem? (i := 3) rfl))
theorem dX8_pen_89 : decode cX8_pen 89 = .ok (.goto (-47), 3) := of_decide_eq_true (List.all_eq_true.mp dA_X8_pen_81 (89, .goto (-47), 3) (List.mem_of_getElem? (i := 4) rfl))
theorem dX8_pen_92 : decode cX8_pen 92 = .ok (.iconst (-1), 1) := of_decide_eq_true (List.all_eq_true.mp dA_X8_pen_81 (92, .iconst (-1), 1) (List.mem_of_getElem? (i := 5) rfl))
theorem dX8_pen_93 : decode cX8_pen 93 = .ok (.ireturn, 1) := of_decide_eq_true (List.all_eq_true.mp dA_X8_pen_81 (93, .ireturn, 1) (List.mem_of_getElem? (i := 6) rfl))
set_option maxRecDepth 20000 in
theorem ggX8_order_X8_bad : GoodIn wsX8_order wsX8_bad := goodIn_r _ [7, 8, 107, 108, 109, 110, 111, 112, 113, 114, 115, 116, 117, 118, 119, 120] (by decide +kernel) (by decide +kernel)
set_option maxRecDepth 20000 in
theorem gX8_order_X8_bad : GoodIn wsX8_order (wsV RX8 61 RX8 yX8_bad wsX8_bad) := goodIn_app (goodIn_of _ (by decide +kernel)) ggX8_order_X8_bad
set_option maxRecDepth 20000 in
theorem ggX8_order_X3_arrange : GoodIn wsX8_order wsX3_arrange := goodIn_r _ [13, 14, 15, 16, 17, 18, 19, 20, 21, 22, 23, 24, 25, 26, 27, 28, 29, 30, 31, 32, 33, 34, 35, 36, 37, 38, 39, 40, 41, 42, 43, 44, 45, 46, 47, 12, 48, 49, 50, 51, 52, 53, 54, 55, 56, 57, 58, 59, 60, 61, 62, 63, 64, 65, 66, 67, 68, 69, 70, 71, 72, 73, 74, 75, 76, 77, 78, 79, 80, 81, 82, 83, 84, 85, 86, 87, 88, 89, 90, 91, 92, 93, 94, 95, 96, 97, 98, 99, 100, 101, 102, 121, 122, 123, 124, 125, 126, 127, 128, 129, 130, 131, 132, 133, 134, 135, 136, 137, 138, 139, 140, 141] (by decide +kernel) (by decide +kernel)
set_option maxRecDepth 20000 in
theorem gX8_order_X3_arrange : GoodIn wsX8_order (wsV RX8 192 RX3 yX3_arrange wsX3_arrange) := goodIn_app (goodIn_of _ (by decide +kernel)) ggX8_order_X3_arrange
set_option maxRecDepth 20000 in
theorem ggX8_order_X3_place : GoodIn wsX8_order wsX3_place := goodIn_r _ [106, 101, 102, 121, 122, 123, 124, 125, 126] (by decide +kernel) (by decide +kernel)
set_option maxRecDepth 20000 in
theorem gX8_order_X3_place : GoodIn wsX8_order (wsV RX8 201 RX3 yX3_place wsX3_place) := goodIn_app (goodIn_of _ (by decide +kernel)) ggX8_order_X3_place
set_option maxRecDepth 20000 in
theorem dA_X8_order_0 : (([(0, .iload_n 1, 1), (1, .iconst (-1), 1), (2, .if_icmp .ge 11, 3), (5, .aload_n 0, 1), (6, .invokevirtual 61, 3), (9, .pop, 1), (10, .bipush (-10), 2), (12, .ireturn, 1), (13, .aload_n 0, 1), (14, .getfield 35, 3), (17, .aload_n 0, 1), (18, .getfield 10, 3), (21, .invokevirtual 192, 3), (24, .iload_n 1, 1), (25, .iconst (-1), 1), (26, .if_icmp .ne 11, 3), (29, .aload_n 0, 1), (30, .getfield 35, 3), (33, .getfield 195, 3), (36, .ireturn, 1), (37, .iload_n 1, 1), (38, .aload_n 0, 1), (39, .getfield 35, 3), (42, .getfield 198, 3), (45, .if_icmp .ge 14, 3), (48, .aload_n 0, 1), (49, .getfield 35, 3), (52, .iload_n 1, 1), (53, .invokevirtual 201, 3), (56, .goto 5, 3), (59, .bipush (-5), 2), (61, .ireturn, 1)] : List (Nat × Instr × Nat)).all fun q => decide (decode cX8_order q.1 = .ok (q.2.1, q.2.2))) = true := by decide +kernel
theorem dX8_order_0 : decode cX8_order 0 = .ok (.iload_n 1, 1) := of_decide_eq_true (List.all_eq_true.mp dA_X8_order_0 (0, .iload_n 1, 1) (List.mem_of_getElem? (i := 0) rfl))
theorem dX8_order_1 : decode cX8_order 1 = .ok (.iconst (-1), 1) := of_decide_eq_true (List.all_eq_true.mp dA_X8_order_0 (1, .iconst (-1), 1) (List.mem_of_getElem? (i := 1) rfl))
theorem dX8_order_2 : decode cX8_order 2 = .ok (.if_icmp .ge 11, 3) := of_decide_eq_true (List.all_eq_true.mp dA_X8_order_0 (2, .if_icmp .ge 11, 3) (List.mem_of_getElem? (i := 2) rfl))
theorem dX8_order_5 : decode cX8_order 5 = .ok (.aload_n 0, 1) := of_decide_eq_true (List.all_eq_true.mp dA_X8_order_0 (5, .aload_n 0, 1) (List.mem_of_getElem? (i := 3) rfl))
theorem dX8_order_6 : decode cX8_order 6 = .ok (.invokevirtual 61, 3) := of_decide_eq_true (List.all_eq_true.mp dA_X8_order_0 (6, .invokevirtual 61, 3) (List.mem_of_getElem? (i := 4) rfl))
theorem dX8_order_9 : decode cX8_order 9 = .ok (.pop, 1) := of_decide_eq_true (List.all_eq_true.mp dA_X8_order_0 (9, .pop, 1) (List.mem_of_getElem? (i := 5) rfl))
theorem dX8_order_10 : decode cX8_order 10 = .ok (.bipush (-10), 2) := of_decide_eq_true (List.all_eq_true.mp dA_X8_order_0 (10, .bipush (-10), 2) (List.mem_of_getElem? (i := 6) rfl))
theorem dX8_order_12 : decode cX8_order 12 = .ok (.ireturn, 1) := of_decide_eq_true (List.all_eq_true.mp dA_X8_order_0 (12, .ireturn, 1) (List.mem_of_getElem? (i := 7) rfl))
theorem dX8_order_13 : decode cX8_order 13 = .ok (.aload_n 0, 1) := of_decide_eq_true (List.all_eq_true.mp dA_X8_order_0 (13, .aload_n 0, 1) (List.mem_of_getElem? (i := 8) rfl))
theorem dX8_order_14 : decode cX8_order 14 = .ok (.getfield 35, 3) := of_decide_eq_true (List.all_eq_true.mp dA_X8_order_0 (14, .getfield 35, 3) (List.mem_of_getElem? (i := 9) rfl))
theorem dX8_order_17 : decode cX8_order 17 = .ok (.aload_n 0, 1) := of_decide_eq_true (List.all_eq_true.mp dA_X8_order_0 (17, .aload_n 0, 1) (List.mem_of_getElem? (i := 10) rfl))
theorem dX8_order_18 : decode cX8_order 18 = .ok (.getfield 10, 3) := of_decide_eq_true (List.all_eq_true.mp dA_X8_order_0 (18, .getfield 10, 3) (List.mem_of_getElem? (i := 11) rfl))
theorem dX8_order_21 : decode cX8_order 21 = .ok (.invokevirtual 192, 3) := of_decide_eq_true (List.all_eq_true.mp dA_X8_order_0 (21, .invokevirtual 192, 3) (List.mem_of_getElem? (i := 12) rfl))
theorem dX8_order_24 : decode cX8_order 24 = .ok (.iload_n 1, 1) := of_decide_eq_true (List.all_eq_true.mp dA_X8_order_0 (24, .iload_n 1, 1) (List.mem_of_getElem? (i := 13) rfl))
theorem dX8_order_25 : decode cX8_order 25 = .ok (.iconst (-1), 1) := of_decide_eq_true (List.all_eq_true.mp dA_X8_order_0 (25, .iconst (-1), 1) (List.mem_of_getElem? (i := 14) rfl))
theorem dX8_order_26 : decode cX8_order 26 = .ok (.if_icmp .ne 11, 3) := of_decide_eq_true (List.all_eq_true.mp dA_X8_order_0 (26, .if_icmp .ne 11, 3) (List.mem_of_getElem? (i := 15) rfl))
theorem dX8_order_29 : decode cX8_order 29 = .ok (.aload_n 0, 1) := of_decide_eq_true (List.all_eq_true.mp dA_X8_order_0 (29, .aload_n 0, 1) (List.mem_of_getElem? (i := 16) rfl))
theorem dX8_order_30 : decode cX8_order 30 = .ok (.getfield 35, 3) := of_decide_eq_true (List.all_eq_true.mp dA_X8_order_0 (30, .getfield 35, 3) (List.mem_of_getElem? (i := 17) rfl))
theorem dX8_order_33 : decode cX8_order 33 = .ok (.getfield 195, 3) := of_decide_eq_true (List.all_eq_true.mp dA_X8_order_0 (33, .getfield 195, 3) (List.mem_of_getElem? (i := 18) rfl))
theorem dX8_order_36 : decode cX8_order 36 = .ok (.ireturn, 1) := of_decide_eq_true (List.all_eq_true.mp dA_X8_order_0 (36, .ireturn, 1) (List.mem_of_getElem? (i := 19) rfl))
theorem dX8_order_37 : decode cX8_order 37 = .ok (.iload_n 1, 1) := of_decide_eq_true (List.all_eq_true.mp dA_X8_order_0 (37, .iload_n 1, 1) (List.mem_of_getElem? (i := 20) rfl))
theorem dX8_order_38 : decode cX8_order 38 = .ok (.aload_n 0, 1) := of_decide_eq_true (List.all_eq_true.mp dA_X8_order_0 (38, .aload_n 0, 1) (List.mem_of_getElem? (i := 21) rfl))
theorem dX8_order_39 : decode cX8_order 39 = .ok (.getfield 35, 3) := of_decide_eq_true (List.all_eq_true.mp dA_X8_order_0 (39, .getfield 35, 3) (List.mem_of_getElem? (i := 22) rfl))
theorem dX8_order_42 : decode cX8_order 42 = .ok (.getfield 198, 3) := of_decide_eq_true (List.all_eq_true.mp dA_X8_order_0 (42, .getfield 198, 3) (List.mem_of_getElem? (i := 23) rfl))
theorem dX8_order_45 : decode cX8_order 45 = .ok (.if_icmp .ge 14, 3) := of_decide_eq_true (List.all_eq_true.mp dA_X8_order_0 (45, .if_icmp .ge 14, 3) (List.mem_of_getElem? (i := 24) rfl))
theorem dX8_order_48 : decode cX8_order 48 = .ok (.aload_n 0, 1) := of_decide_eq_true (List.all_eq_true.mp dA_X8_order_0 (48, .aload_n 0, 1) (List.mem_of_getElem? (i := 25) rfl))
theorem dX8_order_49 : decode cX8_order 49 = .ok (.getfield 35, 3) := of_decide_eq_true (List.all_eq_true.mp dA_X8_order_0 (49, .getfield 35, 3) (List.mem_of_getElem? (i := 26) rfl))
theorem dX8_order_52 : decode cX8_order 52 = .ok (.iload_n 1, 1) := of_decide_eq_true (List.all_eq_true.mp dA_X8_order_0 (52, .iload_n 1, 1) (List.mem_of_getElem? (i := 27) rfl))
theorem dX8_order_53 : decode cX8_order 53 = .ok (.invokevirtual 201, 3) := of_decide_eq_true (List.all_eq_true.mp dA_X8_order_0 (53, .invokevirtual 201, 3) (List.mem_of_getElem? (i := 28) rfl))
theorem dX8_order_56 : decode cX8_order 56 = .ok (.goto 5, 3) := of_decide_eq_true (List.all_eq_true.mp dA_X8_order_0 (56, .goto 5, 3) (List.mem_of_getElem? (i := 29) rfl))
theorem dX8_order_59 : decode cX8_order 59 = .ok (.bipush (-5), 2) := of_decide_eq_true (List.all_eq_true.mp dA_X8_order_0 (59, .bipush (-5), 2) (List.mem_of_getElem? (i := 30) rfl))
theorem dX8_order_61 : decode cX8_order 61 = .ok (.ireturn, 1) := of_decide_eq_true (List.all_eq_true.mp dA_X8_order_0 (61, .ireturn, 1) (List.mem_of_getElem? (i := 31) rfl))
set_option maxRecDepth 20000 in
theorem ggX8_seen_X1_isThere : GoodIn wsX8_seen wsX1_isThere := goodIn_r _ [6, 7, 8, 9, 10, 62, 63, 64, 65, 66, 67, 68, 69, 70, 71, 72, 73, 74, 75, 76] (by decide +kernel) (by decide +kernel)
set_option maxRecDepth 20000 in
theorem gX8_seen_X1_isThere : GoodIn wsX8_seen (wsV RX8 126 RX1 yX1_isThere wsX1_isThere) := goodIn_app (goodIn_of _ (by decide +kernel)) ggX8_seen_X1_isThere
set_option maxRecDepth 20000 in
theorem ggX8_seen_X8_isWord : GoodIn wsX8_seen wsX8_isWord := goodIn_r _ [13, 14, 8, 9, 10] (by decide +kernel) (by decide +kernel)
set_option maxRecDepth 20000 in
theorem gX8_seen_X8_isWord : GoodIn wsX8_seen (va_wsS RX8 94 yX8_isWord wsX8_isWord) := goodIn_app (goodIn_of _ (by decide +kernel)) ggX8_seen_X8_isWord
set_option maxRecDepth 20000 in
theorem ggX8_seen_X8_bad : GoodIn wsX8_seen wsX8_bad := goodIn_r _ [18, 19, 48, 49, 50, 51, 52, 53, 54, 55, 56, 57, 58, 59, 60, 61] (by decide +kernel) (by decide +kernel)
set_option maxRecDepth 20000 in
theorem gX8_seen_X8_bad : GoodIn wsX8_seen (wsV RX8 61 RX8 yX8_bad wsX8_bad) := goodIn_app (goodIn_of _ (by decide +kernel)) ggX8_seen_X8_bad
set_option maxRecDepth 20000 in
theorem ggX8_seen_X8_within : GoodIn wsX8_seen wsX8_within := goodIn_r _ [10] (by decide +kernel) (by decide +kernel)
set_option maxRecDepth 20000 in
theorem gX8_seen_X8_within : GoodIn wsX8_seen (va_wsS RX8 57 yX8_within wsX8_within) := goodIn_app (goodIn_of _ (by decide +kernel)) ggX8_seen_X8_within
set_option maxRecDepth 20000 in
theorem ggX8_seen_X8_written : GoodIn wsX8_seen wsX8_written := goodIn_r _ [23, 24, 25, 26, 27, 28, 29, 30, 31, 32, 33, 9, 34, 35, 36, 37, 38, 39, 40, 41, 42, 43, 44, 45, 46, 47, 73, 74, 75, 76, 48, 49, 50, 51, 52, 53, 54, 55, 56, 57, 58, 59, 60, 61] (by decide +kernel) (by decide +kernel)
set_option maxRecDepth 20000 in
theorem gX8_seen_X8_written : GoodIn wsX8_seen (wsV RX8 207 RX8 yX8_written wsX8_written) := goodIn_app (goodIn_of _ (by decide +kernel)) ggX8_seen_X8_written
set_option maxRecDepth 20000 in
theorem dA_X8_seen_0 : (([(0, .aload_n 0, 1), (1, .getfield 10, 3), (4, .iload_n 1, 1), (5, .invokevirtual 126, 3), (8, .ifCond .eq 10, 3), (11, .iload_n 2, 1), (12, .invokestatic 94, 3), (15, .ifCond .ne 8, 3), (18, .aload_n 0, 1), (19, .invokevirtual 61, 3), (22, .ireturn, 1), (23, .iload_n 3, 1), (24, .iconst 0, 1), (25, .bipush 99, 2), (27, .invokestatic 57, 3), (30, .ifCond .eq 13, 3), (33, .iload 4, 2), (35, .iconst 0, 1), (36, .iconst 1, 1), (37, .invokestatic 57, 3), (40, .ifCond .ne 8, 3), (43, .aload_n 0, 1), (44, .invokevirtual 61, 3), (47, .ireturn, 1), (48, .aload_n 0, 1), (49, .aload_n 0, 1), (50, .getfield 10, 3), (53, .getfield 204, 3), (56, .iload_n 1, 1), (57, .iload_n 2, 1), (58, .iload_n 3, 1), (59, .iload 4, 2), (61, .iconst 0, 1), (62, .invokevirtual 207, 3), (65, .ireturn, 1)] : List (Nat × Instr × Nat)).all fun q => decide (decode cX8_seen q.1 = .ok (q.2.1, q.2.2))) = true := by decide +kernel
theorem dX8_seen_0 : decode cX8_seen 0 = .ok (.aload_n 0, 1) := of_decide_eq_true (List.all_eq_true.mp dA_X8_seen_0 (0, .aload_n 0, 1) (List.mem_of_getElem? (i := 0) rfl))
theorem dX8_seen_1 : decode cX8_seen 1 = .ok (.getfield 10, 3) := of_decide_eq_true (List.all_eq_true.mp dA_X8_seen_0 (1, .getfield 10, 3) (List.mem_of_getElem? (i := 1) rfl))
theorem dX8_seen_4 : decode cX8_seen 4 = .ok (.iload_n 1, 1) := of_decide_eq_true (List.all_eq_true.mp dA_X8_seen_0 (4, .iload_n 1, 1) (List.mem_of_getElem? (i := 2) rfl))
theorem dX8_seen_5 : decode cX8_seen 5 = .ok (.invokevirtual 126, 3) := of_decide_eq_true (List.all_eq_true.mp dA_X8_seen_0 (5, .invokevirtual 126, 3) (List.mem_of_getElem? (i := 3) rfl))
theorem dX8_seen_8 : decode cX8_seen 8 = .ok (.ifCond .eq 10, 3) := of_decide_eq_true (List.all_eq_true.mp dA_X8_seen_0 (8, .ifCond .eq 10, 3) (List.mem_of_getElem? (i := 4) rfl))
theorem dX8_seen_11 : decode cX8_seen 11 = .ok (.iload_n 2, 1) := of_decide_eq_true (List.all_eq_true.mp dA_X8_seen_0 (11, .iload_n 2, 1) (List.mem_of_getElem? (i := 5) rfl))
theorem dX8_seen_12 : decode cX8_seen 12 = .ok (.invokestatic 94, 3) := of_decide_eq_true (List.all_eq_true.mp dA_X8_seen_0 (12, .invokestatic 94, 3) (List.mem_of_getElem? (i := 6) rfl))
theorem dX8_seen_15 : decode cX8_seen 15 = .ok (.ifCond .ne 8, 3) := of_decide_eq_true (List.all_eq_true.mp dA_X8_seen_0 (15, .ifCond .ne 8, 3) (List.mem_of_getElem? (i := 7) rfl))
theorem dX8_seen_18 : decode cX8_seen 18 = .ok (.aload_n 0, 1) := of_decide_eq_true (List.all_eq_true.mp dA_X8_seen_0 (18, .aload_n 0, 1) (List.mem_of_getElem? (i := 8) rfl))
theorem dX8_seen_19 : decode cX8_seen 19 = .ok (.invokevirtual 61, 3) := of_decide_eq_true (List.all_eq_true.mp dA_X8_seen_0 (19, .invokevirtual 61, 3) (List.mem_of_getElem? (i := 9) rfl))
theorem dX8_seen_22 : decode cX8_seen 22 = .ok (.ireturn, 1) := of_decide_eq_true (List.all_eq_true.mp dA_X8_seen_0 (22, .ireturn, 1) (List.mem_of_getElem? (i := 10) rfl))
theorem dX8_seen_23 : decode cX8_seen 23 = .ok (.iload_n 3, 1) := of_decide_eq_true (List.all_eq_true.mp dA_X8_seen_0 (23, .iload_n 3, 1) (List.mem_of_getElem? (i := 11) rfl))
theorem dX8_seen_24 : decode cX8_seen 24 = .ok (.iconst 0, 1) := of_decide_eq_true (List.all_eq_true.mp dA_X8_seen_0 (24, .iconst 0, 1) (List.mem_of_getElem? (i := 12) rfl))
theorem dX8_seen_25 : decode cX8_seen 25 = .ok (.bipush 99, 2) := of_decide_eq_true (List.all_eq_true.mp dA_X8_seen_0 (25, .bipush 99, 2) (List.mem_of_getElem? (i := 13) rfl))
theorem dX8_seen_27 : decode cX8_seen 27 = .ok (.invokestatic 57, 3) := of_decide_eq_true (List.all_eq_true.mp dA_X8_seen_0 (27, .invokestatic 57, 3) (List.mem_of_getElem? (i := 14) rfl))
theorem dX8_seen_30 : decode cX8_seen 30 = .ok (.ifCond .eq 13, 3) := of_decide_eq_true (List.all_eq_true.mp dA_X8_seen_0 (30, .ifCond .eq 13, 3) (List.mem_of_getElem? (i := 15) rfl))
theorem dX8_seen_33 : decode cX8_seen 33 = .ok (.iload 4, 2) := of_decide_eq_true (List.all_eq_true.mp dA_X8_seen_0 (33, .iload 4, 2) (List.mem_of_getElem? (i := 16) rfl))
theorem dX8_seen_35 : decode cX8_seen 35 = .ok (.iconst 0, 1) := of_decide_eq_true (List.all_eq_true.mp dA_X8_seen_0 (35, .iconst 0, 1) (List.mem_of_getElem? (i := 17) rfl))
theorem dX8_seen_36 : decode cX8_seen 36 = .ok (.iconst 1, 1) := of_decide_eq_true (List.all_eq_true.mp dA_X8_seen_0 (36, .iconst 1, 1) (List.mem_of_getElem? (i := 18) rfl))
theorem dX8_seen_37 : decode cX8_seen 37 = .ok (.invokestatic 57, 3) := of_decide_eq_true (List.all_eq_true.mp dA_X8_seen_0 (37, .invokestatic 57, 3) (List.mem_of_getElem? (i := 19) rfl))
theorem dX8_seen_40 : decode cX8_seen 40 = .ok (.ifCond .ne 8, 3) := of_decide_eq_true (List.all_eq_true.mp dA_X8_seen_0 (40, .ifCond .ne 8, 3) (List.mem_of_getElem? (i := 20) rfl))
theorem dX8_seen_43 : decode cX8_seen 43 = .ok (.aload_n 0, 1) := of_decide_eq_true (List.all_eq_true.mp dA_X8_seen_0 (43, .aload_n 0, 1) (List.mem_of_getElem? (i := 21) rfl))
theorem dX8_seen_44 : decode cX8_seen 44 = .ok (.invokevirtual 61, 3) := of_decide_eq_true (List.all_eq_true.mp dA_X8_seen_0 (44, .invokevirtual 61, 3) (List.mem_of_getElem? (i := 22) rfl))
theorem dX8_seen_47 : decode cX8_seen 47 = .ok (.ireturn, 1) := of_decide_eq_true (List.all_eq_true.mp dA_X8_seen_0 (47, .ireturn, 1) (List.mem_of_getElem? (i := 23) rfl))
theorem dX8_seen_48 : decode cX8_seen 48 = .ok (.aload_n 0, 1) := of_decide_eq_true (List.all_eq_true.mp dA_X8_seen_0 (48, .aload_n 0, 1) (List.mem_of_getElem? (i := 24) rfl))
theorem dX8_seen_49 : decode cX8_seen 49 = .ok (.aload_n 0, 1) := of_decide_eq_true (List.all_eq_true.mp dA_X8_seen_0 (49, .aload_n 0, 1) (List.mem_of_getElem? (i := 25) rfl))
theorem dX8_seen_50 : decode cX8_seen 50 = .ok (.getfield 10, 3) := of_decide_eq_true (List.all_eq_true.mp dA_X8_seen_0 (50, .getfield 10, 3) (List.mem_of_getElem? (i := 26) rfl))
theorem dX8_seen_53 : decode cX8_seen 53 = .ok (.getfield 204, 3) := of_decide_eq_true (List.all_eq_true.mp dA_X8_seen_0 (53, .getfield 204, 3) (List.mem_of_getElem? (i := 27) rfl))
theorem dX8_seen_56 : decode cX8_seen 56 = .ok (.iload_n 1, 1) := of_decide_eq_true (List.all_eq_true.mp dA_X8_seen_0 (56, .iload_n 1, 1) (List.mem_of_getElem? (i := 28) rfl))
theorem dX8_seen_57 : decode cX8_seen 57 = .ok (.iload_n 2, 1) := of_decide_eq_true (List.all_eq_true.mp dA_X8_seen_0 (57, .iload_n 2, 1) (List.mem_of_getElem? (i := 29) rfl))
theorem dX8_seen_58 : decode cX8_seen 58 = .ok (.iload_n 3, 1) := of_decide_eq_true (List.all_eq_true.mp dA_X8_seen_0 (58, .iload_n 3, 1) (List.mem_of_getElem? (i := 30) rfl))
theorem dX8_seen_59 : decode cX8_seen 59 = .ok (.iload 4, 2) := of_decide_eq_true (List.all_eq_true.mp dA_X8_seen_0 (59, .iload 4, 2) (List.mem_of_getElem? (i := 31) rfl))
theorem dX8_seen_61 : decode cX8_seen 61 = .ok (.iconst 0, 1) := of_decide_eq_true (List.all_eq_true.mp dA_X8_seen_0 (61, .iconst 0, 1) (List.mem_of_getElem? (i := 32) rfl))
theorem dX8_seen_62 : decode cX8_seen 62 = .ok (.invokevirtual 207, 3) := of_decide_eq_true (List.all_eq_true.mp dA_X8_seen_0 (62, .invokevirtual 207, 3) (List.mem_of_getElem? (i := 33) rfl))
theorem dX8_seen_65 : decode cX8_seen 65 = .ok (.ireturn, 1) := of_decide_eq_true (List.all_eq_true.mp dA_X8_seen_0 (65, .ireturn, 1) (List.mem_of_getElem? (i := 34) rfl))
set_option maxRecDepth 20000 in
theorem ggX8_often_X1_isThere : GoodIn wsX8_often wsX1_isThere := goodIn_r _ [7, 8, 9, 10, 11, 88, 89, 90, 91, 92, 93, 94, 95, 96, 97, 98, 99, 100, 101, 102] (by decide +kernel) (by decide +kernel)
set_option maxRecDepth 20000 in
theorem gX8_often_X1_isThere : GoodIn wsX8_often (wsV RX8 126 RX1 yX1_isThere wsX1_isThere) := goodIn_app (goodIn_of _ (by decide +kernel)) ggX8_often_X1_isThere
set_option maxRecDepth 20000 in
theorem ggX8_often_X8_within : GoodIn wsX8_often wsX8_within := goodIn_r _ [11] (by decide +kernel) (by decide +kernel)
set_option maxRecDepth 20000 in
theorem gX8_often_X8_within : GoodIn wsX8_often (va_wsS RX8 57 yX8_within wsX8_within) := goodIn_app (goodIn_of _ (by decide +kernel)) ggX8_often_X8_within
set_option maxRecDepth 20000 in
theorem ggX8_often_X8_bad : GoodIn wsX8_often wsX8_bad := goodIn_r _ [16, 17, 74, 75, 76, 77, 78, 79, 80, 81, 82, 83, 84, 85, 86, 87] (by decide +kernel) (by decide +kernel)
set_option maxRecDepth 20000 in
theorem gX8_often_X8_bad : GoodIn wsX8_often (wsV RX8 61 RX8 yX8_bad wsX8_bad) := goodIn_app (goodIn_of _ (by decide +kernel)) ggX8_often_X8_bad
set_option maxRecDepth 20000 in
theorem ggX8_often_X7_visitsThatFit : GoodIn wsX8_often wsX7_visitsThatFit := goodIn_r _ [22, 23, 24, 25, 21, 26, 27, 28, 29, 30, 31, 32, 33, 34, 35, 36, 37, 38, 39, 40, 41, 6, 42, 8, 43, 44, 45, 46, 47, 48, 49, 50, 51, 52, 53, 54, 55, 56, 57, 58, 59, 60, 88, 89, 90, 91, 92, 93, 94, 95, 96, 97, 98, 99, 100, 101, 102] (by decide +kernel) (by decide +kernel)
set_option maxRecDepth 20000 in
theorem gX8_often_X7_visitsThatFit : GoodIn wsX8_often (wsV RX8 211 RX7 yX7_visitsThatFit wsX7_visitsThatFit) := goodIn_app (goodIn_of _ (by decide +kernel)) ggX8_often_X7_visitsThatFit
set_option maxRecDepth 20000 in
theorem ggX8_often_J6_bitCount_0f7a4 : GoodIn wsX8_often wsJ6_bitCount_0f7a4 := goodIn_r _ [64, 65, 66, 67] (by decide +kernel) (by decide +kernel)
set_option maxRecDepth 20000 in
theorem gX8_often_J6_bitCount_0f7a4 : GoodIn wsX8_often (va_wsS RX8 215 yJ6_bitCount_0f7a4 wsJ6_bitCount_0f7a4) := goodIn_app (goodIn_of _ (by decide +kernel)) ggX8_often_J6_bitCount_0f7a4
set_option maxRecDepth 20000 in
theorem ggX8_often_X7_least : GoodIn wsX8_often wsX7_least := goodIn_r _ [70] (by decide +kernel) (by decide +kernel)
set_option maxRecDepth 20000 in
theorem gX8_often_X7_least : GoodIn wsX8_often (va_wsS RX8 220 yX7_least wsX7_least) := goodIn_app (goodIn_of _ (by decide +kernel)) ggX8_often_X7_least
set_option maxRecDepth 20000 in
theorem ggX8_often_X7_greatest : GoodIn wsX8_often wsX7_greatest := goodIn_r _ [73] (by decide +kernel) (by decide +kernel)
set_option maxRecDepth 20000 in
theorem gX8_often_X7_greatest : GoodIn wsX8_often (va_wsS RX8 223 yX7_greatest wsX7_greatest) := goodIn_app (goodIn_of _ (by decide +kernel)) ggX8_often_X7_greatest
set_option maxRecDepth 20000 in
theorem dA_X8_often_0 : (([(0, .aload_n 0, 1), (1, .getfield 10, 3), (4, .iload_n 1, 1), (5, .invokevirtual 126, 3), (8, .ifCond .eq 12, 3), (11, .iload_n 2, 1), (12, .iconst 0, 1), (13, .iconst 2, 1), (14, .invokestatic 57, 3), (17, .ifCond .ne 8, 3), (20, .aload_n 0, 1), (21, .invokevirtual 61, 3), (24, .ireturn, 1), (25, .aload_n 0, 1), (26, .getfield 42, 3), (29, .aload_n 0, 1), (30, .getfield 10, 3), (33, .iload_n 1, 1), (34, .invokevirtual 211, 3), (37, .istore_n 3, 1), (38, .iload_n 2, 1), (39, .ifCond .ne 8, 3), (42, .iload_n 3, 1), (43, .invokestatic 215, 3), (46, .ireturn, 1), (47, .iload_n 2, 1), (48, .iconst 1, 1), (49, .if_icmp .ne 10, 3), (52, .iload_n 3, 1), (53, .invokestatic 220, 3), (56, .goto 7, 3), (59, .iload_n 3, 1), (60, .invokestatic 223, 3), (63, .ireturn, 1)] : List (Nat × Instr × Nat)).all fun q => decide (decode cX8_often q.1 = .ok (q.2.1, q.2.2))) = true := by decide +kernel
theorem dX8_often_0 : decode cX8_often 0 = .ok (.aload_n 0, 1) := of_decide_eq_true (List.all_eq_true.mp dA_X8_often_0 (0, .aload_n 0, 1) (List.mem_of_getElem? (i := 0) rfl))
theorem dX8_often_1 : decode cX8_often 1 = .ok (.getfield 10, 3) := of_decide_eq_true (List.all_eq_true.mp dA_X8_often_0 (1, .getfield 10, 3) (List.mem_of_getElem? (i := 1) rfl))
theorem dX8_often_4 : decode cX8_often 4 = .ok (.iload_n 1, 1) := of_decide_eq_true (List.all_eq_true.mp dA_X8_often_0 (4, .iload_n 1, 1) (List.mem_of_getElem? (i := 2) rfl))
theorem dX8_often_5 : decode cX8_often 5 = .ok (.invokevirtual 126, 3) := of_decide_eq_true (List.all_eq_true.mp dA_X8_often_0 (5, .invokevirtual 126, 3) (List.mem_of_getElem? (i := 3) rfl))
theorem dX8_often_8 : decode cX8_often 8 = .ok (.ifCond .eq 12, 3) := of_decide_eq_true (List.all_eq_true.mp dA_X8_often_0 (8, .ifCond .eq 12, 3) (List.mem_of_getElem? (i := 4) rfl))
theorem dX8_often_11 : decode cX8_often 11 = .ok (.iload_n 2, 1) := of_decide_eq_true (List.all_eq_true.mp dA_X8_often_0 (11, .iload_n 2, 1) (List.mem_of_getElem? (i := 5) rfl))
theorem dX8_often_12 : decode cX8_often 12 = .ok (.iconst 0, 1) := of_decide_eq_true (List.all_eq_true.mp dA_X8_often_0 (12, .iconst 0, 1) (List.mem_of_getElem? (i := 6) rfl))
theorem dX8_often_13 : decode cX8_often 13 = .ok (.iconst 2, 1) := of_decide_eq_true (List.all_eq_true.mp dA_X8_often_0 (13, .iconst 2, 1) (List.mem_of_getElem? (i := 7) rfl))
theorem dX8_often_14 : decode cX8_often 14 = .ok (.invokestatic 57, 3) := of_decide_eq_true (List.all_eq_true.mp dA_X8_often_0 (14, .invokestatic 57, 3) (List.mem_of_getElem? (i := 8) rfl))
theorem dX8_often_17 : decode cX8_often 17 = .ok (.ifCond .ne 8, 3) := of_decide_eq_true (List.all_eq_true.mp dA_X8_often_0 (17, .ifCond .ne 8, 3) (List.mem_of_getElem? (i := 9) rfl))
theorem dX8_often_20 : decode cX8_often 20 = .ok (.aload_n 0, 1) := of_decide_eq_true (List.all_eq_true.mp dA_X8_often_0 (20, .aload_n 0, 1) (List.mem_of_getElem? (i := 10) rfl))
theorem dX8_often_21 : decode cX8_often 21 = .ok (.invokevirtual 61, 3) := of_decide_eq_true (List.all_eq_true.mp dA_X8_often_0 (21, .invokevirtual 61, 3) (List.mem_of_getElem? (i := 11) rfl))
theorem dX8_often_24 : decode cX8_often 24 = .ok (.ireturn, 1) := of_decide_eq_true (List.all_eq_true.mp dA_X8_often_0 (24, .ireturn, 1) (List.mem_of_getElem? (i := 12) rfl))
theorem dX8_often_25 : decode cX8_often 25 = .ok (.aload_n 0, 1) := of_decide_eq_true (List.all_eq_true.mp dA_X8_often_0 (25, .aload_n 0, 1) (List.mem_of_getElem? (i := 13) rfl))
theorem dX8_often_26 : decode cX8_often 26 = .ok (.getfield 42, 3) := of_decide_eq_true (List.all_eq_true.mp dA_X8_often_0 (26, .getfield 42, 3) (List.mem_of_getElem? (i := 14) rfl))
theorem dX8_often_29 : decode cX8_often 29 = .ok (.aload_n 0, 1) := of_decide_eq_true (List.all_eq_true.mp dA_X8_often_0 (29, .aload_n 0, 1) (List.mem_of_getElem? (i := 15) rfl))
theorem dX8_often_30 : decode cX8_often 30 = .ok (.getfield 10, 3) := of_decide_eq_true (List.all_eq_true.mp dA_X8_often_0 (30, .getfield 10, 3) (List.mem_of_getElem? (i := 16) rfl))
theorem dX8_often_33 : decode cX8_often 33 = .ok (.iload_n 1, 1) := of_decide_eq_true (List.all_eq_true.mp dA_X8_often_0 (33, .iload_n 1, 1) (List.mem_of_getElem? (i := 17) rfl))
theorem dX8_often_34 : decode cX8_often 34 = .ok (.invokevirtual 211, 3) := of_decide_eq_true (List.all_eq_true.mp dA_X8_often_0 (34, .invokevirtual 211, 3) (List.mem_of_getElem? (i := 18) rfl))
theorem dX8_often_37 : decode cX8_often 37 = .ok (.istore_n 3, 1) := of_decide_eq_true (List.all_eq_true.mp dA_X8_often_0 (37, .istore_n 3, 1) (List.mem_of_getElem? (i := 19) rfl))
theorem dX8_often_38 : decode cX8_often 38 = .ok (.iload_n 2, 1) := of_decide_eq_true (List.all_eq_true.mp dA_X8_often_0 (38, .iload_n 2, 1) (List.mem_of_getElem? (i := 20) rfl))
theorem dX8_often_39 : decode cX8_often 39 = .ok (.ifCond .ne 8, 3) := of_decide_eq_true (List.all_eq_true.mp dA_X8_often_0 (39, .ifCond .ne 8, 3) (List.mem_of_getElem? (i := 21) rfl))
theorem dX8_often_42 : decode cX8_often 42 = .ok (.iload_n 3, 1) := of_decide_eq_true (List.all_eq_true.mp dA_X8_often_0 (42, .iload_n 3, 1) (List.mem_of_getElem? (i := 22) rfl))
theorem dX8_often_43 : decode cX8_often 43 = .ok (.invokestatic 215, 3) := of_decide_eq_true (List.all_eq_true.mp dA_X8_often_0 (43, .invokestatic 215, 3) (List.mem_of_getElem? (i := 23) rfl))
theorem dX8_often_46 : decode cX8_often 46 = .ok (.ireturn, 1) := of_decide_eq_true (List.all_eq_true.mp dA_X8_often_0 (46, .ireturn, 1) (List.mem_of_getElem? (i := 24) rfl))
theorem dX8_often_47 : decode cX8_often 47 = .ok (.iload_n 2, 1) := of_decide_eq_true (List.all_eq_true.mp dA_X8_often_0 (47, .iload_n 2, 1) (List.mem_of_getElem? (i := 25) rfl))
theorem dX8_often_48 : decode cX8_often 48 = .ok (.iconst 1, 1) := of_decide_eq_true (List.all_eq_true.mp dA_X8_often_0 (48, .iconst 1, 1) (List.mem_of_getElem? (i := 26) rfl))
theorem dX8_often_49 : decode cX8_often 49 = .ok (.if_icmp .ne 10, 3) := of_decide_eq_true (List.all_eq_true.mp dA_X8_often_0 (49, .if_icmp .ne 10, 3) (List.mem_of_getElem? (i := 27) rfl))
theorem dX8_often_52 : decode cX8_often 52 = .ok (.iload_n 3, 1) := of_decide_eq_true (List.all_eq_true.mp dA_X8_often_0 (52, .iload_n 3, 1) (List.mem_of_getElem? (i := 28) rfl))
theorem dX8_often_53 : decode cX8_often 53 = .ok (.invokestatic 220, 3) := of_decide_eq_true (List.all_eq_true.mp dA_X8_often_0 (53, .invokestatic 220, 3) (List.mem_of_getElem? (i := 29) rfl))
theorem dX8_often_56 : decode cX8_often 56 = .ok (.goto 7, 3) := of_decide_eq_true (List.all_eq_true.mp dA_X8_often_0 (56, .goto 7, 3) (List.mem_of_getElem? (i := 30) rfl))
theorem dX8_often_59 : decode cX8_often 59 = .ok (.iload_n 3, 1) := of_decide_eq_true (List.all_eq_true.mp dA_X8_often_0 (59, .iload_n 3, 1) (List.mem_of_getElem? (i := 31) rfl))
theorem dX8_often_60 : decode cX8_often 60 = .ok (.invokestatic 223, 3) := of_decide_eq_true (List.all_eq_true.mp dA_X8_often_0 (60, .invokestatic 223, 3) (List.mem_of_getElem? (i := 32) rfl))
theorem dX8_often_63 : decode cX8_often 63 = .ok (.ireturn, 1) := of_decide_eq_true (List.all_eq_true.mp dA_X8_often_0 (63, .ireturn, 1) (List.mem_of_getElem? (i := 33) rfl))
set_option maxRecDepth 20000 in
theorem ggX8_tell_X1_isThere : GoodIn wsX8_tell wsX1_isThere := goodIn_r _ [7, 8, 9, 10, 11, 93, 94, 95, 96, 97, 98, 99, 100, 101, 102, 103, 104, 105, 106, 107] (by decide +kernel) (by decide +kernel)
set_option maxRecDepth 20000 in
theorem gX8_tell_X1_isThere : GoodIn wsX8_tell (wsV RX8 126 RX1 yX1_isThere wsX1_isThere) := goodIn_app (goodIn_of _ (by decide +kernel)) ggX8_tell_X1_isThere
set_option maxRecDepth 20000 in
theorem ggX8_tell_X7_bestNight : GoodIn wsX8_tell wsX7_bestNight := goodIn_r _ [16, 17, 18, 19, 20, 21, 22, 23, 15, 24, 25, 26, 27, 28, 29, 30, 31, 32, 33, 34, 35, 36, 37, 38, 39, 40, 41, 42, 43, 6, 44, 8, 45, 46, 47, 48, 49, 50, 51, 52, 53, 54, 55, 56, 57, 58, 59, 60, 61, 62, 63, 64, 65, 66, 67, 68, 69, 70, 71, 72, 73, 93, 94, 95, 96, 97, 98, 99, 100, 101, 102, 103, 104, 105, 106, 107] (by decide +kernel) (by decide +kernel)
set_option maxRecDepth 20000 in
theorem gX8_tell_X7_bestNight : GoodIn wsX8_tell (wsV RX8 226 RX7 yX7_bestNight wsX7_bestNight) := goodIn_app (goodIn_of _ (by decide +kernel)) ggX8_tell_X7_bestNight
set_option maxRecDepth 20000 in
theorem ggX8_tell_X8_bad : GoodIn wsX8_tell wsX8_bad := goodIn_r _ [77, 78, 79, 80, 81, 82, 83, 84, 85, 86, 87, 88, 89, 90, 91, 92] (by decide +kernel) (by decide +kernel)
set_option maxRecDepth 20000 in
theorem gX8_tell_X8_bad : GoodIn wsX8_tell (wsV RX8 61 RX8 yX8_bad wsX8_bad) := goodIn_app (goodIn_of _ (by decide +kernel)) ggX8_tell_X8_bad
set_option maxRecDepth 20000 in
theorem dA_X8_tell_0 : (([(0, .aload_n 0, 1), (1, .getfield 10, 3), (4, .iload_n 1, 1), (5, .invokevirtual 126, 3), (8, .ifCond .eq 18, 3), (11, .aload_n 0, 1), (12, .getfield 42, 3), (15, .aload_n 0, 1), (16, .getfield 10, 3), (19, .iload_n 1, 1), (20, .invokevirtual 226, 3), (23, .goto 7, 3), (26, .aload_n 0, 1), (27, .invokevirtual 61, 3), (30, .ireturn, 1)] : List (Nat × Instr × Nat)).all fun q => decide (decode cX8_tell q.1 = .ok (q.2.1, q.2.2))) = true := by decide +kernel
theorem dX8_tell_0 : decode cX8_tell 0 = .ok (.aload_n 0, 1) := of_decide_eq_true (List.all_eq_true.mp dA_X8_tell_0 (0, .aload_n 0, 1) (List.mem_of_getElem? (i := 0) rfl))
theorem dX8_tell_1 : decode cX8_tell 1 = .ok (.getfield 10, 3) := of_decide_eq_true (List.all_eq_true.mp dA_X8_tell_0 (1, .getfield 10, 3) (List.mem_of_getElem? (i := 1) rfl))
theorem dX8_tell_4 : decode cX8_tell 4 = .ok (.iload_n 1, 1) := of_decide_eq_true (List.all_eq_true.mp dA_X8_tell_0 (4, .iload_n 1, 1) (List.mem_of_getElem? (i := 2) rfl))
theorem dX8_tell_5 : decode cX8_tell 5 = .ok (.invokevirtual 126, 3) := of_decide_eq_true (List.all_eq_true.mp dA_X8_tell_0 (5, .invokevirtual 126, 3) (List.mem_of_getElem? (i := 3) rfl))
theorem dX8_tell_8 : decode cX8_tell 8 = .ok (.ifCond .eq 18, 3) := of_decide_eq_true (List.all_eq_true.mp dA_X8_tell_0 (8, .ifCond .eq 18, 3) (List.mem_of_getElem? (i := 4) rfl))
theorem dX8_tell_11 : decode cX8_tell 11 = .ok (.aload_n 0, 1) := of_decide_eq_true (List.all_eq_true.mp dA_X8_tell_0 (11, .aload_n 0, 1) (List.mem_of_getElem? (i := 5) rfl))
theorem dX8_tell_12 : decode cX8_tell 12 = .ok (.getfield 42, 3) := of_decide_eq_true (List.all_eq_true.mp dA_X8_tell_0 (12, .getfield 42, 3) (List.mem_of_getElem? (i := 6) rfl))
theorem dX8_tell_15 : decode cX8_tell 15 = .ok (.aload_n 0, 1) := of_decide_eq_true (List.all_eq_true.mp dA_X8_tell_0 (15, .aload_n 0, 1) (List.mem_of_getElem? (i := 7) rfl))
theorem dX8_tell_16 : decode cX8_tell 16 = .ok (.getfield 10, 3) := of_decide_eq_true (List.all_eq_true.mp dA_X8_tell_0 (16, .getfield 10, 3) (List.mem_of_getElem? (i := 8) rfl))
theorem dX8_tell_19 : decode cX8_tell 19 = .ok (.iload_n 1, 1) := of_decide_eq_true (List.all_eq_true.mp dA_X8_tell_0 (19, .iload_n 1, 1) (List.mem_of_getElem? (i := 9) rfl))
theorem dX8_tell_20 : decode cX8_tell 20 = .ok (.invokevirtual 226, 3) := of_decide_eq_true (List.all_eq_true.mp dA_X8_tell_0 (20, .invokevirtual 226, 3) (List.mem_of_getElem? (i := 10) rfl))
theorem dX8_tell_23 : decode cX8_tell 23 = .ok (.goto 7, 3) := of_decide_eq_true (List.all_eq_true.mp dA_X8_tell_0 (23, .goto 7, 3) (List.mem_of_getElem? (i := 11) rfl))
theorem dX8_tell_26 : decode cX8_tell 26 = .ok (.aload_n 0, 1) := of_decide_eq_true (List.all_eq_true.mp dA_X8_tell_0 (26, .aload_n 0, 1) (List.mem_of_getElem? (i := 12) rfl))
theorem dX8_tell_27 : decode cX8_tell 27 = .ok (.invokevirtual 61, 3) := of_decide_eq_true (List.all_eq_true.mp dA_X8_tell_0 (27, .invokevirtual 61, 3) (List.mem_of_getElem? (i := 13) rfl))
theorem dX8_tell_30 : decode cX8_tell 30 = .ok (.ireturn, 1) := of_decide_eq_true (List.all_eq_true.mp dA_X8_tell_0 (30, .ireturn, 1) (List.mem_of_getElem? (i := 14) rfl))
set_option maxRecDepth 20000 in
theorem ggX8_note_X1_isThere : GoodIn wsX8_note wsX1_isThere := goodIn_r _ [6, 7, 8, 9, 10, 62, 63, 64, 65, 66, 67, 68, 69, 70, 71, 72, 73, 74, 75, 76] (by decide +kernel) (by decide +kernel)
set_option maxRecDepth 20000 in
theorem gX8_note_X1_isThere : GoodIn wsX8_note (wsV RX8 126 RX1 yX1_isThere wsX1_isThere) := goodIn_app (goodIn_of _ (by decide +kernel)) ggX8_note_X1_isThere
set_option maxRecDepth 20000 in
theorem ggX8_note_X8_isWord : GoodIn wsX8_note wsX8_isWord := goodIn_r _ [13, 14, 8, 9, 10] (by decide +kernel) (by decide +kernel)
set_option maxRecDepth 20000 in
theorem gX8_note_X8_isWord : GoodIn wsX8_note (va_wsS RX8 94 yX8_isWord wsX8_isWord) := goodIn_app (goodIn_of _ (by decide +kernel)) ggX8_note_X8_isWord
set_option maxRecDepth 20000 in
theorem ggX8_note_X8_within : GoodIn wsX8_note wsX8_within := goodIn_r _ [10] (by decide +kernel) (by decide +kernel)
set_option maxRecDepth 20000 in
theorem gX8_note_X8_within : GoodIn wsX8_note (va_wsS RX8 57 yX8_within wsX8_within) := goodIn_app (goodIn_of _ (by decide +kernel)) ggX8_note_X8_within
set_option maxRecDepth 20000 in
theorem ggX8_note_X8_bad : GoodIn wsX8_note wsX8_bad := goodIn_r _ [18, 19, 48, 49, 50, 51, 52, 53, 54, 55, 56, 57, 58, 59, 60, 61] (by decide +kernel) (by decide +kernel)
set_option maxRecDepth 20000 in
theorem gX8_note_X8_bad : GoodIn wsX8_note (wsV RX8 61 RX8 yX8_bad wsX8_bad) := goodIn_app (goodIn_of _ (by decide +kernel)) ggX8_note_X8_bad
set_option maxRecDepth 20000 in
theorem ggX8_note_X8_written : GoodIn wsX8_note wsX8_written := goodIn_r _ [23, 24, 25, 26, 27, 28, 29, 30, 31, 32, 33, 9, 34, 35, 36, 37, 38, 39, 40, 41, 42, 43, 44, 45, 46, 47, 73, 74, 75, 76, 48, 49, 50, 51, 52, 53, 54, 55, 56, 57, 58, 59, 60, 61] (by decide +kernel) (by decide +kernel)
set_option maxRecDepth 20000 in
theorem gX8_note_X8_written : GoodIn wsX8_note (wsV RX8 207 RX8 yX8_written wsX8_written) := goodIn_app (goodIn_of _ (by decide +kernel)) ggX8_note_X8_written
set_option maxRecDepth 20000 in
theorem dA_X8_note_0 : (([(0, .aload_n 0, 1), (1, .getfield 10, 3), (4, .iload_n 1, 1), (5, .invokevirtual 126, 3), (8, .ifCond .eq 20, 3), (11, .iload_n 2, 1), (12, .invokestatic 94, 3), (15, .ifCond .eq 13, 3), (18, .iload_n 3, 1), (19, .iconst 0, 1), (20, .bipush 9, 2), (22, .invokestatic 57, 3), (25, .ifCond .ne 8, 3), (28, .aload_n 0, 1), (29, .invokevirtual 61, 3), (32, .ireturn, 1), (33, .iload 4, 2), (35, .iconst 0, 1), (36, .bipush 99, 2), (38, .invokestatic 57, 3), (41, .ifCond .eq 14, 3), (44, .iload 5, 2), (46, .iconst 0, 1), (47, .bipush 60, 2), (49, .invokestatic 57, 3), (52, .ifCond .ne 8, 3), (55, .aload_n 0, 1), (56, .invokevirtual 61, 3), (59, .ireturn, 1), (60, .aload_n 0, 1), (61, .aload_n 0, 1), (62, .getfield 10, 3), (65, .getfield 229, 3), (68, .iload_n 1, 1), (69, .iload_n 2, 1), (70, .iload_n 3, 1), (71, .iload 4, 2), (73, .iload 5, 2), (75, .invokevirtual 207, 3), (78, .ireturn, 1)] : List (Nat × Instr × Nat)).all fun q => decide (decode cX8_note q.1 = .ok (q.2.1, q.2.2))) = true := by decide +kernel
theorem dX8_note_0 : decode cX8_note 0 = .ok (.aload_n 0, 1) := of_decide_eq_true (List.all_eq_true.mp dA_X8_note_0 (0, .aload_n 0, 1) (List.mem_of_getElem? (i := 0) rfl))
theorem dX8_note_1 : decode cX8_note 1 = .ok (.getfield 10, 3) := of_decide_eq_true (List.all_eq_true.mp dA_X8_note_0 (1, .getfield 10, 3) (List.mem_of_getElem? (i := 1) rfl))
theorem dX8_note_4 : decode cX8_note 4 = .ok (.iload_n 1, 1) := of_decide_eq_true (List.all_eq_true.mp dA_X8_note_0 (4, .iload_n 1, 1) (List.mem_of_getElem? (i := 2) rfl))
theorem dX8_note_5 : decode cX8_note 5 = .ok (.invokevirtual 126, 3) := of_decide_eq_true (List.all_eq_true.mp dA_X8_note_0 (5, .invokevirtual 126, 3) (List.mem_of_getElem? (i := 3) rfl))
theorem dX8_note_8 : decode cX8_note 8 = .ok (.ifCond .eq 20, 3) := of_decide_eq_true (List.all_eq_true.mp dA_X8_note_0 (8, .ifCond .eq 20, 3) (List.mem_of_getElem? (i := 4) rfl))
theorem dX8_note_11 : decode cX8_note 11 = .ok (.iload_n 2, 1) := of_decide_eq_true (List.all_eq_true.mp dA_X8_note_0 (11, .iload_n 2, 1) (List.mem_of_getElem? (i := 5) rfl))
theorem dX8_note_12 : decode cX8_note 12 = .ok (.invokestatic 94, 3) := of_decide_eq_true (List.all_eq_true.mp dA_X8_note_0 (12, .invokestatic 94, 3) (List.mem_of_getElem? (i := 6) rfl))
theorem dX8_note_15 : decode cX8_note 15 = .ok (.ifCond .eq 13, 3) := of_decide_eq_true (List.all_eq_true.mp dA_X8_note_0 (15, .ifCond .eq 13, 3) (List.mem_of_getElem? (i := 7) rfl))
theorem dX8_note_18 : decode cX8_note 18 = .ok (.iload_n 3, 1) := of_decide_eq_true (List.all_eq_true.mp dA_X8_note_0 (18, .iload_n 3, 1) (List.mem_of_getElem? (i := 8) rfl))
theorem dX8_note_19 : decode cX8_note 19 = .ok (.iconst 0, 1) := of_decide_eq_true (List.all_eq_true.mp dA_X8_note_0 (19, .iconst 0, 1) (List.mem_of_getElem? (i := 9) rfl))
theorem dX8_note_20 : decode cX8_note 20 = .ok (.bipush 9, 2) := of_decide_eq_true (List.all_eq_true.mp dA_X8_note_0 (20, .bipush 9, 2) (List.mem_of_getElem? (i := 10) rfl))
theorem dX8_note_22 : decode cX8_note 22 = .ok (.invokestatic 57, 3) := of_decide_eq_true (List.all_eq_true.mp dA_X8_note_0 (22, .invokestatic 57, 3) (List.mem_of_getElem? (i := 11) rfl))
theorem dX8_note_25 : decode cX8_note 25 = .ok (.ifCond .ne 8, 3) := of_decide_eq_true (List.all_eq_true.mp dA_X8_note_0 (25, .ifCond .ne 8, 3) (List.mem_of_getElem? (i := 12) rfl))
theorem dX8_note_28 : decode cX8_note 28 = .ok (.aload_n 0, 1) := of_decide_eq_true (List.all_eq_true.mp dA_X8_note_0 (28, .aload_n 0, 1) (List.mem_of_getElem? (i := 13) rfl))
theorem dX8_note_29 : decode cX8_note 29 = .ok (.invokevirtual 61, 3) := of_decide_eq_true (List.all_eq_true.mp dA_X8_note_0 (29, .invokevirtual 61, 3) (List.mem_of_getElem? (i := 14) rfl))
theorem dX8_note_32 : decode cX8_note 32 = .ok (.ireturn, 1) := of_decide_eq_true (List.all_eq_true.mp dA_X8_note_0 (32, .ireturn, 1) (List.mem_of_getElem? (i := 15) rfl))
theorem dX8_note_33 : decode cX8_note 33 = .ok (.iload 4, 2) := of_decide_eq_true (List.all_eq_true.mp dA_X8_note_0 (33, .iload 4, 2) (List.mem_of_getElem? (i := 16) rfl))
theorem dX8_note_35 : decode cX8_note 35 = .ok (.iconst 0, 1) := of_decide_eq_true (List.all_eq_true.mp dA_X8_note_0 (35, .iconst 0, 1) (List.mem_of_getElem? (i := 17) rfl))
theorem dX8_note_36 : decode cX8_note 36 = .ok (.bipush 99, 2) := of_decide_eq_true (List.all_eq_true.mp dA_X8_note_0 (36, .bipush 99, 2) (List.mem_of_getElem? (i := 18) rfl))
theorem dX8_note_38 : decode cX8_note 38 = .ok (.invokestatic 57, 3) := of_decide_eq_true (List.all_eq_true.mp dA_X8_note_0 (38, .invokestatic 57, 3) (List.mem_of_getElem? (i := 19) rfl))
theorem dX8_note_41 : decode cX8_note 41 = .ok (.ifCond .eq 14, 3) := of_decide_eq_true (List.all_eq_true.mp dA_X8_note_0 (41, .ifCond .eq 14, 3) (List.mem_of_getElem? (i := 20) rfl))
theorem dX8_note_44 : decode cX8_note 44 = .ok (.iload 5, 2) := of_decide_eq_true (List.all_eq_true.mp dA_X8_note_0 (44, .iload 5, 2) (List.mem_of_getElem? (i := 21) rfl))
theorem dX8_note_46 : decode cX8_note 46 = .ok (.iconst 0, 1) := of_decide_eq_true (List.all_eq_true.mp dA_X8_note_0 (46, .iconst 0, 1) (List.mem_of_getElem? (i := 22) rfl))
theorem dX8_note_47 : decode cX8_note 47 = .ok (.bipush 60, 2) := of_decide_eq_true (List.all_eq_true.mp dA_X8_note_0 (47, .bipush 60, 2) (List.mem_of_getElem? (i := 23) rfl))
theorem dX8_note_49 : decode cX8_note 49 = .ok (.invokestatic 57, 3) := of_decide_eq_true (List.all_eq_true.mp dA_X8_note_0 (49, .invokestatic 57, 3) (List.mem_of_getElem? (i := 24) rfl))
theorem dX8_note_52 : decode cX8_note 52 = .ok (.ifCond .ne 8, 3) := of_decide_eq_true (List.all_eq_true.mp dA_X8_note_0 (52, .ifCond .ne 8, 3) (List.mem_of_getElem? (i := 25) rfl))
theorem dX8_note_55 : decode cX8_note 55 = .ok (.aload_n 0, 1) := of_decide_eq_true (List.all_eq_true.mp dA_X8_note_0 (55, .aload_n 0, 1) (List.mem_of_getElem? (i := 26) rfl))
theorem dX8_note_56 : decode cX8_note 56 = .ok (.invokevirtual 61, 3) := of_decide_eq_true (List.all_eq_true.mp dA_X8_note_0 (56, .invokevirtual 61, 3) (List.mem_of_getElem? (i := 27) rfl))
theorem dX8_note_59 : decode cX8_note 59 = .ok (.ireturn, 1) := of_decide_eq_true (List.all_eq_true.mp dA_X8_note_0 (59, .ireturn, 1) (List.mem_of_getElem? (i := 28) rfl))
theorem dX8_note_60 : decode cX8_note 60 = .ok (.aload_n 0, 1) := of_decide_eq_true (List.all_eq_true.mp dA_X8_note_0 (60, .aload_n 0, 1) (List.mem_of_getElem? (i := 29) rfl))
theorem dX8_note_61 : decode cX8_note 61 = .ok (.aload_n 0, 1) := of_decide_eq_true (List.all_eq_true.mp dA_X8_note_0 (61, .aload_n 0, 1) (List.mem_of_getElem? (i := 30) rfl))
theorem dX8_note_62 : decode cX8_note 62 = .ok (.getfield 10, 3) := of_decide_eq_true (List.all_eq_true.mp dA_X8_note_0 (62, .getfield 10, 3) (List.mem_of_getElem? (i := 31) rfl))
theorem dX8_note_65 : decode cX8_note 65 = .ok (.getfield 229, 3) := of_decide_eq_true (List.all_eq_true.mp dA_X8_note_0 (65, .getfield 229, 3) (List.mem_of_getElem? (i := 32) rfl))
theorem dX8_note_68 : decode cX8_note 68 = .ok (.iload_n 1, 1) := of_decide_eq_true (List.all_eq_true.mp dA_X8_note_0 (68, .iload_n 1, 1) (List.mem_of_getElem? (i := 33) rfl))
theorem dX8_note_69 : decode cX8_note 69 = .ok (.iload_n 2, 1) := of_decide_eq_true (List.all_eq_true.mp dA_X8_note_0 (69, .iload_n 2, 1) (List.mem_of_getElem? (i := 34) rfl))
theorem dX8_note_70 : decode cX8_note 70 = .ok (.iload_n 3, 1) := of_decide_eq_true (List.all_eq_true.mp dA_X8_note_0 (70, .iload_n 3, 1) (List.mem_of_getElem? (i := 35) rfl))
theorem dX8_note_71 : decode cX8_note 71 = .ok (.iload 4, 2) := of_decide_eq_true (List.all_eq_true.mp dA_X8_note_0 (71, .iload 4, 2) (List.mem_of_getElem? (i := 36) rfl))
theorem dX8_note_73 : decode cX8_note 73 = .ok (.iload 5, 2) := of_decide_eq_true (List.all_eq_true.mp dA_X8_note_0 (73, .iload 5, 2) (List.mem_of_getElem? (i := 37) rfl))
theorem dX8_note_75 : decode cX8_note 75 = .ok (.invokevirtual 207, 3) := of_decide_eq_true (List.all_eq_true.mp dA_X8_note_0 (75, .invokevirtual 207, 3) (List.mem_of_getElem? (i := 38) rfl))
theorem dX8_note_78 : decode cX8_note 78 = .ok (.ireturn, 1) := of_decide_eq_true (List.all_eq_true.mp dA_X8_note_0 (78, .ireturn, 1) (List.mem_of_getElem? (i := 39) rfl))
set_option maxRecDepth 20000 in
theorem ggX8_mark_X8_within : GoodIn wsX8_mark wsX8_within := goodIn_r _ [5] (by decide +kernel) (by decide +kernel)
set_option maxRecDepth 20000 in
theorem gX8_mark_X8_within : GoodIn wsX8_mark (va_wsS RX8 57 yX8_within wsX8_within) := goodIn_app (goodIn_of _ (by decide +kernel)) ggX8_mark_X8_within
set_option maxRecDepth 20000 in
theorem ggX8_mark_X8_bad : GoodIn wsX8_mark wsX8_bad := goodIn_r _ [9, 10, 39, 40, 41, 42, 43, 44, 45, 46, 47, 48, 49, 50, 51, 52] (by decide +kernel) (by decide +kernel)
set_option maxRecDepth 20000 in
theorem gX8_mark_X8_bad : GoodIn wsX8_mark (wsV RX8 61 RX8 yX8_bad wsX8_bad) := goodIn_app (goodIn_of _ (by decide +kernel)) ggX8_mark_X8_bad
set_option maxRecDepth 20000 in
theorem ggX8_mark_X8_written : GoodIn wsX8_mark wsX8_written := goodIn_r _ [14, 15, 16, 17, 18, 19, 20, 21, 22, 23, 24, 4, 25, 26, 27, 28, 29, 30, 31, 32, 33, 34, 35, 36, 37, 38, 64, 65, 66, 67, 39, 40, 41, 42, 43, 44, 45, 46, 47, 48, 49, 50, 51, 52] (by decide +kernel) (by decide +kernel)
set_option maxRecDepth 20000 in
theorem gX8_mark_X8_written : GoodIn wsX8_mark (wsV RX8 207 RX8 yX8_written wsX8_written) := goodIn_app (goodIn_of _ (by decide +kernel)) ggX8_mark_X8_written
set_option maxRecDepth 20000 in
theorem dA_X8_mark_0 : (([(0, .iload_n 1, 1), (1, .iconst 0, 1), (2, .iconst 4, 1), (3, .invokestatic 57, 3), (6, .ifCond .eq 13, 3), (9, .iload_n 2, 1), (10, .iconst 0, 1), (11, .bipush 9, 2), (13, .invokestatic 57, 3), (16, .ifCond .ne 8, 3), (19, .aload_n 0, 1), (20, .invokevirtual 61, 3), (23, .ireturn, 1), (24, .iload_n 3, 1), (25, .bipush (-20), 2), (27, .bipush 99, 2), (29, .invokestatic 57, 3), (32, .ifCond .ne 8, 3), (35, .aload_n 0, 1), (36, .invokevirtual 61, 3), (39, .ireturn, 1), (40, .aload_n 0, 1), (41, .aload_n 0, 1), (42, .getfield 10, 3), (45, .getfield 232, 3), (48, .iload_n 1, 1), (49, .iload_n 2, 1), (50, .iload_n 3, 1), (51, .iconst 0, 1), (52, .iconst 0, 1), (53, .invokevirtual 207, 3), (56, .ireturn, 1)] : List (Nat × Instr × Nat)).all fun q => decide (decode cX8_mark q.1 = .ok (q.2.1, q.2.2))) = true := by decide +kernel
theorem dX8_mark_0 : decode cX8_mark 0 = .ok (.iload_n 1, 1) := of_decide_eq_true (List.all_eq_true.mp dA_X8_mark_0 (0, .iload_n 1, 1) (List.mem_of_getElem? (i := 0) rfl))
theorem dX8_mark_1 : decode cX8_mark 1 = .ok (.iconst 0, 1) := of_decide_eq_true (List.all_eq_true.mp dA_X8_mark_0 (1, .iconst 0, 1) (List.mem_of_getElem? (i := 1) rfl))
theorem dX8_mark_2 : decode cX8_mark 2 = .ok (.iconst 4, 1) := of_decide_eq_true (List.all_eq_true.mp dA_X8_mark_0 (2, .iconst 4, 1) (List.mem_of_getElem? (i := 2) rfl))
theorem dX8_mark_3 : decode cX8_mark 3 = .ok (.invokestatic 57, 3) := of_decide_eq_true (List.all_eq_true.mp dA_X8_mark_0 (3, .invokestatic 57, 3) (List.mem_of_getElem? (i := 3) rfl))
theorem dX8_mark_6 : decode cX8_mark 6 = .ok (.ifCond .eq 13, 3) := of_decide_eq_true (List.all_eq_true.mp dA_X8_mark_0 (6, .ifCond .eq 13, 3) (List.mem_of_getElem? (i := 4) rfl))
theorem dX8_mark_9 : decode cX8_mark 9 = .ok (.iload_n 2, 1) := of_decide_eq_true (List.all_eq_true.mp dA_X8_mark_0 (9, .iload_n 2, 1) (List.mem_of_getElem? (i := 5) rfl))
theorem dX8_mark_10 : decode cX8_mark 10 = .ok (.iconst 0, 1) := of_decide_eq_true (List.all_eq_true.mp dA_X8_mark_0 (10, .iconst 0, 1) (List.mem_of_getElem? (i := 6) rfl))
theorem dX8_mark_11 : decode cX8_mark 11 = .ok (.bipush 9, 2) := of_decide_eq_true (List.all_eq_true.mp dA_X8_mark_0 (11, .bipush 9, 2) (List.mem_of_getElem? (i := 7) rfl))
theorem dX8_mark_13 : decode cX8_mark 13 = .ok (.invokestatic 57, 3) := of_decide_eq_true (List.all_eq_true.mp dA_X8_mark_0 (13, .invokestatic 57, 3) (List.mem_of_getElem? (i := 8) rfl))
theorem dX8_mark_16 : decode cX8_mark 16 = .ok (.ifCond .ne 8, 3) := of_decide_eq_true (List.all_eq_true.mp dA_X8_mark_0 (16, .ifCond .ne 8, 3) (List.mem_of_getElem? (i := 9) rfl))
theorem dX8_mark_19 : decode cX8_mark 19 = .ok (.aload_n 0, 1) := of_decide_eq_true (List.all_eq_true.mp dA_X8_mark_0 (19, .aload_n 0, 1) (List.mem_of_getElem? (i := 10) rfl))
theorem dX8_mark_20 : decode cX8_mark 20 = .ok (.invokevirtual 61, 3) := of_decide_eq_true (List.all_eq_true.mp dA_X8_mark_0 (20, .invokevirtual 61, 3) (List.mem_of_getElem? (i := 11) rfl))
theorem dX8_mark_23 : decode cX8_mark 23 = .ok (.ireturn, 1) := of_decide_eq_true (List.all_eq_true.mp dA_X8_mark_0 (23, .ireturn, 1) (List.mem_of_getElem? (i := 12) rfl))
theorem dX8_mark_24 : decode cX8_mark 24 = .ok (.iload_n 3, 1) := of_decide_eq_true (List.all_eq_true.mp dA_X8_mark_0 (24, .iload_n 3, 1) (List.mem_of_getElem? (i := 13) rfl))
theorem dX8_mark_25 : decode cX8_mark 25 = .ok (.bipush (-20), 2) := of_decide_eq_true (List.all_eq_true.mp dA_X8_mark_0 (25, .bipush (-20), 2) (List.mem_of_getElem? (i := 14) rfl))
theorem dX8_mark_27 : decode cX8_mark 27 = .ok (.bipush 99, 2) := of_decide_eq_true (List.all_eq_true.mp dA_X8_mark_0 (27, .bipush 99, 2) (List.mem_of_getElem? (i := 15) rfl))
theorem dX8_mark_29 : decode cX8_mark 29 = .ok (.invokestatic 57, 3) := of_decide_eq_true (List.all_eq_true.mp dA_X8_mark_0 (29, .invokestatic 57, 3) (List.mem_of_getElem? (i := 16) rfl))
theorem dX8_mark_32 : decode cX8_mark 32 = .ok (.ifCond .ne 8, 3) := of_decide_eq_true (List.all_eq_true.mp dA_X8_mark_0 (32, .ifCond .ne 8, 3) (List.mem_of_getElem? (i := 17) rfl))
theorem dX8_mark_35 : decode cX8_mark 35 = .ok (.aload_n 0, 1) := of_decide_eq_true (List.all_eq_true.mp dA_X8_mark_0 (35, .aload_n 0, 1) (List.mem_of_getElem? (i := 18) rfl))
theorem dX8_mark_36 : decode cX8_mark 36 = .ok (.invokevirtual 61, 3) := of_decide_eq_true (List.all_eq_true.mp dA_X8_mark_0 (36, .invokevirtual 61, 3) (List.mem_of_getElem? (i := 19) rfl))
theorem dX8_mark_39 : decode cX8_mark 39 = .ok (.ireturn, 1) := of_decide_eq_true (List.all_eq_true.mp dA_X8_mark_0 (39, .ireturn, 1) (List.mem_of_getElem? (i := 20) rfl))
theorem dX8_mark_40 : decode cX8_mark 40 = .ok (.aload_n 0, 1) := of_decide_eq_true (List.all_eq_true.mp dA_X8_mark_0 (40, .aload_n 0, 1) (List.mem_of_getElem? (i := 21) rfl))
theorem dX8_mark_41 : decode cX8_mark 41 = .ok (.aload_n 0, 1) := of_decide_eq_true (List.all_eq_true.mp dA_X8_mark_0 (41, .aload_n 0, 1) (List.mem_of_getElem? (i := 22) rfl))
theorem dX8_mark_42 : decode cX8_mark 42 = .ok (.getfield 10, 3) := of_decide_eq_true (List.all_eq_true.mp dA_X8_mark_0 (42, .getfield 10, 3) (List.mem_of_getElem? (i := 23) rfl))
theorem dX8_mark_45 : decode cX8_mark 45 = .ok (.getfield 232, 3) := of_decide_eq_true (List.all_eq_true.mp dA_X8_mark_0 (45, .getfield 232, 3) (List.mem_of_getElem? (i := 24) rfl))
theorem dX8_mark_48 : decode cX8_mark 48 = .ok (.iload_n 1, 1) := of_decide_eq_true (List.all_eq_true.mp dA_X8_mark_0 (48, .iload_n 1, 1) (List.mem_of_getElem? (i := 25) rfl))
theorem dX8_mark_49 : decode cX8_mark 49 = .ok (.iload_n 2, 1) := of_decide_eq_true (List.all_eq_true.mp dA_X8_mark_0 (49, .iload_n 2, 1) (List.mem_of_getElem? (i := 26) rfl))
theorem dX8_mark_50 : decode cX8_mark 50 = .ok (.iload_n 3, 1) := of_decide_eq_true (List.all_eq_true.mp dA_X8_mark_0 (50, .iload_n 3, 1) (List.mem_of_getElem? (i := 27) rfl))
theorem dX8_mark_51 : decode cX8_mark 51 = .ok (.iconst 0, 1) := of_decide_eq_true (List.all_eq_true.mp dA_X8_mark_0 (51, .iconst 0, 1) (List.mem_of_getElem? (i := 28) rfl))
theorem dX8_mark_52 : decode cX8_mark 52 = .ok (.iconst 0, 1) := of_decide_eq_true (List.all_eq_true.mp dA_X8_mark_0 (52, .iconst 0, 1) (List.mem_of_getElem? (i := 29) rfl))
theorem dX8_mark_53 : decode cX8_mark 53 = .ok (.invokevirtual 207, 3) := of_decide_eq_true (List.all_eq_true.mp dA_X8_mark_0 (53, .invokevirtual 207, 3) (List.mem_of_getElem? (i := 30) rfl))
theorem dX8_mark_56 : decode cX8_mark 56 = .ok (.ireturn, 1) := of_decide_eq_true (List.all_eq_true.mp dA_X8_mark_0 (56, .ireturn, 1) (List.mem_of_getElem? (i := 31) rfl))
set_option maxRecDepth 20000 in
theorem ggX8_forget_X8_within : GoodIn wsX8_forget wsX8_within := goodIn_r _ [5] (by decide +kernel) (by decide +kernel)
set_option maxRecDepth 20000 in
theorem gX8_forget_X8_within : GoodIn wsX8_forget (va_wsS RX8 57 yX8_within wsX8_within) := goodIn_app (goodIn_of _ (by decide +kernel)) ggX8_forget_X8_within
set_option maxRecDepth 20000 in
theorem ggX8_forget_X8_bad : GoodIn wsX8_forget wsX8_bad := goodIn_r _ [9, 10, 17, 18, 19, 20, 21, 22, 23, 24, 25, 26, 27, 28, 29, 30] (by decide +kernel) (by decide +kernel)
set_option maxRecDepth 20000 in
theorem gX8_forget_X8_bad : GoodIn wsX8_forget (wsV RX8 61 RX8 yX8_bad wsX8_bad) := goodIn_app (goodIn_of _ (by decide +kernel)) ggX8_forget_X8_bad
set_option maxRecDepth 20000 in
theorem ggX8_forget_X5_empty : GoodIn wsX8_forget wsX5_empty := goodIn_r _ [15, 16, 42, 43, 44, 45] (by decide +kernel) (by decide +kernel)
set_option maxRecDepth 20000 in
theorem gX8_forget_X5_empty : GoodIn wsX8_forget (wsV RX8 84 RX5 yX5_empty wsX5_empty) := goodIn_app (goodIn_of _ (by decide +kernel)) ggX8_forget_X5_empty
set_option maxRecDepth 20000 in
theorem dA_X8_forget_0 : (([(0, .iload_n 1, 1), (1, .iconst 0, 1), (2, .iconst 2, 1), (3, .invokestatic 57, 3), (6, .ifCond .ne 8, 3), (9, .aload_n 0, 1), (10, .invokevirtual 61, 3), (13, .ireturn, 1), (14, .iload_n 1, 1), (15, .ifCond .ne 13, 3), (18, .aload_n 0, 1), (19, .getfield 10, 3), (22, .getfield 204, 3), (25, .goto 25, 3), (28, .iload_n 1, 1), (29, .iconst 1, 1), (30, .if_icmp .ne 13, 3), (33, .aload_n 0, 1), (34, .getfield 10, 3), (37, .getfield 229, 3), (40, .goto 10, 3), (43, .aload_n 0, 1), (44, .getfield 10, 3), (47, .getfield 232, 3), (50, .astore_n 2, 1), (51, .aload_n 2, 1), (52, .getfield 69, 3), (55, .istore_n 3, 1), (56, .aload_n 2, 1), (57, .invokevirtual 84, 3), (60, .iload_n 3, 1), (61, .ireturn, 1)] : List (Nat × Instr × Nat)).all fun q => decide (decode cX8_forget q.1 = .ok (q.2.1, q.2.2))) = true := by decide +kernel
theorem dX8_forget_0 : decode cX8_forget 0 = .ok (.iload_n 1, 1) := of_decide_eq_true (List.all_eq_true.mp dA_X8_forget_0 (0, .iload_n 1, 1) (List.mem_of_getElem? (i := 0) rfl))
theorem dX8_forget_1 : decode cX8_forget 1 = .ok (.iconst 0, 1) := of_decide_eq_true (List.all_eq_true.mp dA_X8_forget_0 (1, .iconst 0, 1) (List.mem_of_getElem? (i := 1) rfl))
theorem dX8_forget_2 : decode cX8_forget 2 = .ok (.iconst 2, 1) := of_decide_eq_true (List.all_eq_true.mp dA_X8_forget_0 (2, .iconst 2, 1) (List.mem_of_getElem? (i := 2) rfl))
theorem dX8_forget_3 : decode cX8_forget 3 = .ok (.invokestatic 57, 3) := of_decide_eq_true (List.all_eq_true.mp dA_X8_forget_0 (3, .invokestatic 57, 3) (List.mem_of_getElem? (i := 3) rfl))
theorem dX8_forget_6 : decode cX8_forget 6 = .ok (.ifCond .ne 8, 3) := of_decide_eq_true (List.all_eq_true.mp dA_X8_forget_0 (6, .ifCond .ne 8, 3) (List.mem_of_getElem? (i := 4) rfl))
theorem dX8_forget_9 : decode cX8_forget 9 = .ok (.aload_n 0, 1) := of_decide_eq_true (List.all_eq_true.mp dA_X8_forget_0 (9, .aload_n 0, 1) (List.mem_of_getElem? (i := 5) rfl))
theorem dX8_forget_10 : decode cX8_forget 10 = .ok (.invokevirtual 61, 3) := of_decide_eq_true (List.all_eq_true.mp dA_X8_forget_0 (10, .invokevirtual 61, 3) (List.mem_of_getElem? (i := 6) rfl))
theorem dX8_forget_13 : decode cX8_forget 13 = .ok (.ireturn, 1) := of_decide_eq_true (List.all_eq_true.mp dA_X8_forget_0 (13, .ireturn, 1) (List.mem_of_getElem? (i := 7) rfl))
theorem dX8_forget_14 : decode cX8_forget 14 = .ok (.iload_n 1, 1) := of_decide_eq_true (List.all_eq_true.mp dA_X8_forget_0 (14, .iload_n 1, 1) (List.mem_of_getElem? (i := 8) rfl))
theorem dX8_forget_15 : decode cX8_forget 15 = .ok (.ifCond .ne 13, 3) := of_decide_eq_true (List.all_eq_true.mp dA_X8_forget_0 (15, .ifCond .ne 13, 3) (List.mem_of_getElem? (i := 9) rfl))
theorem dX8_forget_18 : decode cX8_forget 18 = .ok (.aload_n 0, 1) := of_decide_eq_true (List.all_eq_true.mp dA_X8_forget_0 (18, .aload_n 0, 1) (List.mem_of_getElem? (i := 10) rfl))
theorem dX8_forget_19 : decode cX8_forget 19 = .ok (.getfield 10, 3) := of_decide_eq_true (List.all_eq_true.mp dA_X8_forget_0 (19, .getfield 10, 3) (List.mem_of_getElem? (i := 11) rfl))
theorem dX8_forget_22 : decode cX8_forget 22 = .ok (.getfield 204, 3) := of_decide_eq_true (List.all_eq_true.mp dA_X8_forget_0 (22, .getfield 204, 3) (List.mem_of_getElem? (i := 12) rfl))
theorem dX8_forget_25 : decode cX8_forget 25 = .ok (.goto 25, 3) := of_decide_eq_true (List.all_eq_true.mp dA_X8_forget_0 (25, .goto 25, 3) (List.mem_of_getElem? (i := 13) rfl))
theorem dX8_forget_28 : decode cX8_forget 28 = .ok (.iload_n 1, 1) := of_decide_eq_true (List.all_eq_true.mp dA_X8_forget_0 (28, .iload_n 1, 1) (List.mem_of_getElem? (i := 14) rfl))
theorem dX8_forget_29 : decode cX8_forget 29 = .ok (.iconst 1, 1) := of_decide_eq_true (List.all_eq_true.mp dA_X8_forget_0 (29, .iconst 1, 1) (List.mem_of_getElem? (i := 15) rfl))
theorem dX8_forget_30 : decode cX8_forget 30 = .ok (.if_icmp .ne 13, 3) := of_decide_eq_true (List.all_eq_true.mp dA_X8_forget_0 (30, .if_icmp .ne 13, 3) (List.mem_of_getElem? (i := 16) rfl))
theorem dX8_forget_33 : decode cX8_forget 33 = .ok (.aload_n 0, 1) := of_decide_eq_true (List.all_eq_true.mp dA_X8_forget_0 (33, .aload_n 0, 1) (List.mem_of_getElem? (i := 17) rfl))
theorem dX8_forget_34 : decode cX8_forget 34 = .ok (.getfield 10, 3) := of_decide_eq_true (List.all_eq_true.mp dA_X8_forget_0 (34, .getfield 10, 3) (List.mem_of_getElem? (i := 18) rfl))
theorem dX8_forget_37 : decode cX8_forget 37 = .ok (.getfield 229, 3) := of_decide_eq_true (List.all_eq_true.mp dA_X8_forget_0 (37, .getfield 229, 3) (List.mem_of_getElem? (i := 19) rfl))
theorem dX8_forget_40 : decode cX8_forget 40 = .ok (.goto 10, 3) := of_decide_eq_true (List.all_eq_true.mp dA_X8_forget_0 (40, .goto 10, 3) (List.mem_of_getElem? (i := 20) rfl))
theorem dX8_forget_43 : decode cX8_forget 43 = .ok (.aload_n 0, 1) := of_decide_eq_true (List.all_eq_true.mp dA_X8_forget_0 (43, .aload_n 0, 1) (List.mem_of_getElem? (i := 21) rfl))
theorem dX8_forget_44 : decode cX8_forget 44 = .ok (.getfield 10, 3) := of_decide_eq_true (List.all_eq_true.mp dA_X8_forget_0 (44, .getfield 10, 3) (List.mem_of_getElem? (i := 22) rfl))
theorem dX8_forget_47 : decode cX8_forget 47 = .ok (.getfield 232, 3) := of_decide_eq_true (List.all_eq_true.mp dA_X8_forget_0 (47, .getfield 232, 3) (List.mem_of_getElem? (i := 23) rfl))
theorem dX8_forget_50 : decode cX8_forget 50 = .ok (.astore_n 2, 1) := of_decide_eq_true (List.all_eq_true.mp dA_X8_forget_0 (50, .astore_n 2, 1) (List.mem_of_getElem? (i := 24) rfl))
theorem dX8_forget_51 : decode cX8_forget 51 = .ok (.aload_n 2, 1) := of_decide_eq_true (List.all_eq_true.mp dA_X8_forget_0 (51, .aload_n 2, 1) (List.mem_of_getElem? (i := 25) rfl))
theorem dX8_forget_52 : decode cX8_forget 52 = .ok (.getfield 69, 3) := of_decide_eq_true (List.all_eq_true.mp dA_X8_forget_0 (52, .getfield 69, 3) (List.mem_of_getElem? (i := 26) rfl))
theorem dX8_forget_55 : decode cX8_forget 55 = .ok (.istore_n 3, 1) := of_decide_eq_true (List.all_eq_true.mp dA_X8_forget_0 (55, .istore_n 3, 1) (List.mem_of_getElem? (i := 27) rfl))
theorem dX8_forget_56 : decode cX8_forget 56 = .ok (.aload_n 2, 1) := of_decide_eq_true (List.all_eq_true.mp dA_X8_forget_0 (56, .aload_n 2, 1) (List.mem_of_getElem? (i := 28) rfl))
theorem dX8_forget_57 : decode cX8_forget 57 = .ok (.invokevirtual 84, 3) := of_decide_eq_true (List.all_eq_true.mp dA_X8_forget_0 (57, .invokevirtual 84, 3) (List.mem_of_getElem? (i := 29) rfl))
theorem dX8_forget_60 : decode cX8_forget 60 = .ok (.iload_n 3, 1) := of_decide_eq_true (List.all_eq_true.mp dA_X8_forget_0 (60, .iload_n 3, 1) (List.mem_of_getElem? (i := 30) rfl))
theorem dX8_forget_61 : decode cX8_forget 61 = .ok (.ireturn, 1) := of_decide_eq_true (List.all_eq_true.mp dA_X8_forget_0 (61, .ireturn, 1) (List.mem_of_getElem? (i := 31) rfl))
set_option maxRecDepth 20000 in
theorem ggX8_is_X1_isThere : GoodIn wsX8_is wsX1_isThere := goodIn_r _ [7, 8, 9, 10, 11, 52, 53, 54, 55, 56, 57, 58, 59, 60, 61, 62, 63, 64, 65, 66] (by decide +kernel) (by decide +kernel)
set_option maxRecDepth 20000 in
theorem gX8_is_X1_isThere : GoodIn wsX8_is (wsV RX8 126 RX1 yX1_isThere wsX1_isThere) := goodIn_app (goodIn_of _ (by decide +kernel)) ggX8_is_X1_isThere
set_option maxRecDepth 20000 in
theorem ggX8_is_X7_guestKinds : GoodIn wsX8_is wsX7_guestKinds := goodIn_r _ [16, 17, 18, 19, 15, 20, 21, 22, 23, 24, 25, 26, 27, 28, 29, 30, 31, 32, 52, 53, 54, 55, 56, 57, 58, 59, 60, 61, 62, 63, 64, 65, 66] (by decide +kernel) (by decide +kernel)
set_option maxRecDepth 20000 in
theorem gX8_is_X7_guestKinds : GoodIn wsX8_is (wsV RX8 235 RX7 yX7_guestKinds wsX7_guestKinds) := goodIn_app (goodIn_of _ (by decide +kernel)) ggX8_is_X7_guestKinds
set_option maxRecDepth 20000 in
theorem ggX8_is_X8_bad : GoodIn wsX8_is wsX8_bad := goodIn_r _ [36, 37, 38, 39, 40, 41, 42, 43, 44, 45, 46, 47, 48, 49, 50, 51] (by decide +kernel) (by decide +kernel)
set_option maxRecDepth 20000 in
theorem gX8_is_X8_bad : GoodIn wsX8_is (wsV RX8 61 RX8 yX8_bad wsX8_bad) := goodIn_app (goodIn_of _ (by decide +kernel)) ggX8_is_X8_bad
set_option maxRecDepth 20000 in
theorem dA_X8_is_0 : (([(0, .aload_n 0, 1), (1, .getfield 10, 3), (4, .iload_n 1, 1), (5, .invokevirtual 126, 3), (8, .ifCond .eq 18, 3), (11, .aload_n 0, 1), (12, .getfield 42, 3), (15, .aload_n 0, 1), (16, .getfield 10, 3), (19, .iload_n 1, 1), (20, .invokevirtual 235, 3), (23, .goto 7, 3), (26, .aload_n 0, 1), (27, .invokevirtual 61, 3), (30, .ireturn, 1)] : List (Nat × Instr × Nat)).all fun q => decide (decode cX8_is q.1 = .ok (q.2.1, q.2.2))) = true := by decide +kernel
theorem dX8_is_0 : decode cX8_is 0 = .ok (.aload_n 0, 1) := of_decide_eq_true (List.all_eq_true.mp dA_X8_is_0 (0, .aload_n 0, 1) (List.mem_of_getElem? (i := 0) rfl))
theorem dX8_is_1 : decode cX8_is 1 = .ok (.getfield 10, 3) := of_decide_eq_true (List.all_eq_true.mp dA_X8_is_0 (1, .getfield 10, 3) (List.mem_of_getElem? (i := 1) rfl))
theorem dX8_is_4 : decode cX8_is 4 = .ok (.iload_n 1, 1) := of_decide_eq_true (List.all_eq_true.mp dA_X8_is_0 (4, .iload_n 1, 1) (List.mem_of_getElem? (i := 2) rfl))
theorem dX8_is_5 : decode cX8_is 5 = .ok (.invokevirtual 126, 3) := of_decide_eq_true (List.all_eq_true.mp dA_X8_is_0 (5, .invokevirtual 126, 3) (List.mem_of_getElem? (i := 3) rfl))
theorem dX8_is_8 : decode cX8_is 8 = .ok (.ifCond .eq 18, 3) := of_decide_eq_true (List.all_eq_true.mp dA_X8_is_0 (8, .ifCond .eq 18, 3) (List.mem_of_getElem? (i := 4) rfl))
theorem dX8_is_11 : decode cX8_is 11 = .ok (.aload_n 0, 1) := of_decide_eq_true (List.all_eq_true.mp dA_X8_is_0 (11, .aload_n 0, 1) (List.mem_of_getElem? (i := 5) rfl))
theorem dX8_is_12 : decode cX8_is 12 = .ok (.getfield 42, 3) := of_decide_eq_true (List.all_eq_true.mp dA_X8_is_0 (12, .getfield 42, 3) (List.mem_of_getElem? (i := 6) rfl))
theorem dX8_is_15 : decode cX8_is 15 = .ok (.aload_n 0, 1) := of_decide_eq_true (List.all_eq_true.mp dA_X8_is_0 (15, .aload_n 0, 1) (List.mem_of_getElem? (i := 7) rfl))
theorem dX8_is_16 : decode cX8_is 16 = .ok (.getfield 10, 3) := of_decide_eq_true (List.all_eq_true.mp dA_X8_is_0 (16, .getfield 10, 3) (List.mem_of_getElem? (i := 8) rfl))
theorem dX8_is_19 : decode cX8_is 19 = .ok (.iload_n 1, 1) := of_decide_eq_true (List.all_eq_true.mp dA_X8_is_0 (19, .iload_n 1, 1) (List.mem_of_getElem? (i := 9) rfl))
theorem dX8_is_20 : decode cX8_is 20 = .ok (.invokevirtual 235, 3) := of_decide_eq_true (List.all_eq_true.mp dA_X8_is_0 (20, .invokevirtual 235, 3) (List.mem_of_getElem? (i := 10) rfl))
theorem dX8_is_23 : decode cX8_is 23 = .ok (.goto 7, 3) := of_decide_eq_true (List.all_eq_true.mp dA_X8_is_0 (23, .goto 7, 3) (List.mem_of_getElem? (i := 11) rfl))
theorem dX8_is_26 : decode cX8_is 26 = .ok (.aload_n 0, 1) := of_decide_eq_true (List.all_eq_true.mp dA_X8_is_0 (26, .aload_n 0, 1) (List.mem_of_getElem? (i := 12) rfl))
theorem dX8_is_27 : decode cX8_is 27 = .ok (.invokevirtual 61, 3) := of_decide_eq_true (List.all_eq_true.mp dA_X8_is_0 (27, .invokevirtual 61, 3) (List.mem_of_getElem? (i := 13) rfl))
theorem dX8_is_30 : decode cX8_is 30 = .ok (.ireturn, 1) := of_decide_eq_true (List.all_eq_true.mp dA_X8_is_0 (30, .ireturn, 1) (List.mem_of_getElem? (i := 14) rfl))
set_option maxRecDepth 20000 in
theorem ggX8_look_X1_isThere : GoodIn wsX8_look wsX1_isThere := goodIn_r _ [7, 8, 9, 10, 11, 65, 66, 67, 68, 69, 70, 71, 72, 73, 74, 75, 76, 77, 78, 79] (by decide +kernel) (by decide +kernel)
set_option maxRecDepth 20000 in
theorem gX8_look_X1_isThere : GoodIn wsX8_look (wsV RX8 126 RX1 yX1_isThere wsX1_isThere) := goodIn_app (goodIn_of _ (by decide +kernel)) ggX8_look_X1_isThere
set_option maxRecDepth 20000 in
theorem ggX8_look_X7_bestLook : GoodIn wsX8_look wsX7_bestLook := goodIn_r _ [16, 17, 18, 19, 20, 15, 21, 22, 23, 24, 25, 26, 27, 28, 29, 30, 31, 32, 33, 34, 35, 36, 37, 38, 39, 40, 41, 42, 43, 44, 45, 65, 66, 67, 68, 69, 70, 71, 72, 73, 74, 75, 80, 76, 77, 78, 79] (by decide +kernel) (by decide +kernel)
set_option maxRecDepth 20000 in
theorem gX8_look_X7_bestLook : GoodIn wsX8_look (wsV RX8 238 RX7 yX7_bestLook wsX7_bestLook) := goodIn_app (goodIn_of _ (by decide +kernel)) ggX8_look_X7_bestLook
set_option maxRecDepth 20000 in
theorem ggX8_look_X8_bad : GoodIn wsX8_look wsX8_bad := goodIn_r _ [49, 50, 51, 52, 53, 54, 55, 56, 57, 58, 59, 60, 61, 62, 63, 64] (by decide +kernel) (by decide +kernel)
set_option maxRecDepth 20000 in
theorem gX8_look_X8_bad : GoodIn wsX8_look (wsV RX8 61 RX8 yX8_bad wsX8_bad) := goodIn_app (goodIn_of _ (by decide +kernel)) ggX8_look_X8_bad
set_option maxRecDepth 20000 in
theorem dA_X8_look_0 : (([(0, .aload_n 0, 1), (1, .getfield 10, 3), (4, .iload_n 1, 1), (5, .invokevirtual 126, 3), (8, .ifCond .eq 18, 3), (11, .aload_n 0, 1), (12, .getfield 42, 3), (15, .aload_n 0, 1), (16, .getfield 10, 3), (19, .iload_n 1, 1), (20, .invokevirtual 238, 3), (23, .goto 7, 3), (26, .aload_n 0, 1), (27, .invokevirtual 61, 3), (30, .ireturn, 1)] : List (Nat × Instr × Nat)).all fun q => decide (decode cX8_look q.1 = .ok (q.2.1, q.2.2))) = true := by decide +kernel
theorem dX8_look_0 : decode cX8_look 0 = .ok (.aload_n 0, 1) := of_decide_eq_true (List.all_eq_true.mp dA_X8_look_0 (0, .aload_n 0, 1) (List.mem_of_getElem? (i := 0) rfl))
theorem dX8_look_1 : decode cX8_look 1 = .ok (.getfield 10, 3) := of_decide_eq_true (List.all_eq_true.mp dA_X8_look_0 (1, .getfield 10, 3) (List.mem_of_getElem? (i := 1) rfl))
theorem dX8_look_4 : decode cX8_look 4 = .ok (.iload_n 1, 1) := of_decide_eq_true (List.all_eq_true.mp dA_X8_look_0 (4, .iload_n 1, 1) (List.mem_of_getElem? (i := 2) rfl))
theorem dX8_look_5 : decode cX8_look 5 = .ok (.invokevirtual 126, 3) := of_decide_eq_true (List.all_eq_true.mp dA_X8_look_0 (5, .invokevirtual 126, 3) (List.mem_of_getElem? (i := 3) rfl))
theorem dX8_look_8 : decode cX8_look 8 = .ok (.ifCond .eq 18, 3) := of_decide_eq_true (List.all_eq_true.mp dA_X8_look_0 (8, .ifCond .eq 18, 3) (List.mem_of_getElem? (i := 4) rfl))
theorem dX8_look_11 : decode cX8_look 11 = .ok (.aload_n 0, 1) := of_decide_eq_true (List.all_eq_true.mp dA_X8_look_0 (11, .aload_n 0, 1) (List.mem_of_getElem? (i := 5) rfl))
theorem dX8_look_12 : decode cX8_look 12 = .ok (.getfield 42, 3) := of_decide_eq_true (List.all_eq_true.mp dA_X8_look_0 (12, .getfield 42, 3) (List.mem_of_getElem? (i := 6) rfl))
theorem dX8_look_15 : decode cX8_look 15 = .ok (.aload_n 0, 1) := of_decide_eq_true (List.all_eq_true.mp dA_X8_look_0 (15, .aload_n 0, 1) (List.mem_of_getElem? (i := 7) rfl))
theorem dX8_look_16 : decode cX8_look 16 = .ok (.getfield 10, 3) := of_decide_eq_true (List.all_eq_true.mp dA_X8_look_0 (16, .getfield 10, 3) (List.mem_of_getElem? (i := 8) rfl))
theorem dX8_look_19 : decode cX8_look 19 = .ok (.iload_n 1, 1) := of_decide_eq_true (List.all_eq_true.mp dA_X8_look_0 (19, .iload_n 1, 1) (List.mem_of_getElem? (i := 9) rfl))
theorem dX8_look_20 : decode cX8_look 20 = .ok (.invokevirtual 238, 3) := of_decide_eq_true (List.all_eq_true.mp dA_X8_look_0 (20, .invokevirtual 238, 3) (List.mem_of_getElem? (i := 10) rfl))
theorem dX8_look_23 : decode cX8_look 23 = .ok (.goto 7, 3) := of_decide_eq_true (List.all_eq_true.mp dA_X8_look_0 (23, .goto 7, 3) (List.mem_of_getElem? (i := 11) rfl))
theorem dX8_look_26 : decode cX8_look 26 = .ok (.aload_n 0, 1) := of_decide_eq_true (List.all_eq_true.mp dA_X8_look_0 (26, .aload_n 0, 1) (List.mem_of_getElem? (i := 12) rfl))
theorem dX8_look_27 : decode cX8_look 27 = .ok (.invokevirtual 61, 3) := of_decide_eq_true (List.all_eq_true.mp dA_X8_look_0 (27, .invokevirtual 61, 3) (List.mem_of_getElem? (i := 13) rfl))
theorem dX8_look_30 : decode cX8_look 30 = .ok (.ireturn, 1) := of_decide_eq_true (List.all_eq_true.mp dA_X8_look_0 (30, .ireturn, 1) (List.mem_of_getElem? (i := 14) rfl))
set_option maxRecDepth 20000 in
theorem ggX8_kinds_X7_hostKinds : GoodIn wsX8_kinds wsX7_hostKinds := goodIn_r _ [7, 8, 9, 10, 6, 11, 12, 13, 14, 15, 16, 17, 18, 19, 20, 21, 22, 23, 38, 39, 40, 41, 42, 43, 44, 45, 46, 47, 48, 49, 50, 51, 52] (by decide +kernel) (by decide +kernel)
set_option maxRecDepth 20000 in
theorem gX8_kinds_X7_hostKinds : GoodIn wsX8_kinds (wsV RX8 241 RX7 yX7_hostKinds wsX7_hostKinds) := goodIn_app (goodIn_of _ (by decide +kernel)) ggX8_kinds_X7_hostKinds
set_option maxRecDepth 20000 in
theorem dA_X8_kinds_0 : (([(0, .aload_n 0, 1), (1, .getfield 42, 3), (4, .aload_n 0, 1), (5, .getfield 10, 3), (8, .invokevirtual 241, 3), (11, .ireturn, 1)] : List (Nat × Instr × Nat)).all fun q => decide (decode cX8_kinds q.1 = .ok (q.2.1, q.2.2))) = true := by decide +kernel
theorem dX8_kinds_0 : decode cX8_kinds 0 = .ok (.aload_n 0, 1) := of_decide_eq_true (List.all_eq_true.mp dA_X8_kinds_0 (0, .aload_n 0, 1) (List.mem_of_getElem? (i := 0) rfl))
theorem dX8_kinds_1 : decode cX8_kinds 1 = .ok (.getfield 42, 3) := of_decide_eq_true (List.all_eq_true.mp dA_X8_kinds_0 (1, .getfield 42, 3) (List.mem_of_getElem? (i := 1) rfl))
theorem dX8_kinds_4 : decode cX8_kinds 4 = .ok (.aload_n 0, 1) := of_decide_eq_true (List.all_eq_true.mp dA_X8_kinds_0 (4, .aload_n 0, 1) (List.mem_of_getElem? (i := 2) rfl))
theorem dX8_kinds_5 : decode cX8_kinds 5 = .ok (.getfield 10, 3) := of_decide_eq_true (List.all_eq_true.mp dA_X8_kinds_0 (5, .getfield 10, 3) (List.mem_of_getElem? (i := 3) rfl))
theorem dX8_kinds_8 : decode cX8_kinds 8 = .ok (.invokevirtual 241, 3) := of_decide_eq_true (List.all_eq_true.mp dA_X8_kinds_0 (8, .invokevirtual 241, 3) (List.mem_of_getElem? (i := 4) rfl))
theorem dX8_kinds_11 : decode cX8_kinds 11 = .ok (.ireturn, 1) := of_decide_eq_true (List.all_eq_true.mp dA_X8_kinds_0 (11, .ireturn, 1) (List.mem_of_getElem? (i := 5) rfl))
set_option maxRecDepth 20000 in
theorem ggX8_ask_X7_bestQuestion : GoodIn wsX8_ask wsX7_bestQuestion := goodIn_r _ [7, 8, 9, 10, 11, 6, 12, 13, 14, 15, 16, 17, 18, 19, 20, 21, 22, 23, 24, 25, 26, 27, 28, 29, 30, 31, 32, 33, 34, 35, 36, 51, 52, 53, 54, 55, 56, 57, 58, 59, 60, 61, 62, 63, 64, 65, 66] (by decide +kernel) (by decide +kernel)
set_option maxRecDepth 20000 in
theorem gX8_ask_X7_bestQuestion : GoodIn wsX8_ask (wsV RX8 245 RX7 yX7_bestQuestion wsX7_bestQuestion) := goodIn_app (goodIn_of _ (by decide +kernel)) ggX8_ask_X7_bestQuestion
set_option maxRecDepth 20000 in
theorem dA_X8_ask_0 : (([(0, .aload_n 0, 1), (1, .getfield 42, 3), (4, .aload_n 0, 1), (5, .getfield 10, 3), (8, .invokevirtual 245, 3), (11, .ireturn, 1)] : List (Nat × Instr × Nat)).all fun q => decide (decode cX8_ask q.1 = .ok (q.2.1, q.2.2))) = true := by decide +kernel
theorem dX8_ask_0 : decode cX8_ask 0 = .ok (.aload_n 0, 1) := of_decide_eq_true (List.all_eq_true.mp dA_X8_ask_0 (0, .aload_n 0, 1) (List.mem_of_getElem? (i := 0) rfl))
theorem dX8_ask_1 : decode cX8_ask 1 = .ok (.getfield 42, 3) := of_decide_eq_true (List.all_eq_true.mp dA_X8_ask_0 (1, .getfield 42, 3) (List.mem_of_getElem? (i := 1) rfl))
theorem dX8_ask_4 : decode cX8_ask 4 = .ok (.aload_n 0, 1) := of_decide_eq_true (List.all_eq_true.mp dA_X8_ask_0 (4, .aload_n 0, 1) (List.mem_of_getElem? (i := 2) rfl))
theorem dX8_ask_5 : decode cX8_ask 5 = .ok (.getfield 10, 3) := of_decide_eq_true (List.all_eq_true.mp dA_X8_ask_0 (5, .getfield 10, 3) (List.mem_of_getElem? (i := 3) rfl))
theorem dX8_ask_8 : decode cX8_ask 8 = .ok (.invokevirtual 245, 3) := of_decide_eq_true (List.all_eq_true.mp dA_X8_ask_0 (8, .invokevirtual 245, 3) (List.mem_of_getElem? (i := 4) rfl))
theorem dX8_ask_11 : decode cX8_ask 11 = .ok (.ireturn, 1) := of_decide_eq_true (List.all_eq_true.mp dA_X8_ask_0 (11, .ireturn, 1) (List.mem_of_getElem? (i := 5) rfl))
set_option maxRecDepth 20000 in
theorem ggX8_door_X1_isThere : GoodIn wsX8_door wsX1_isThere := goodIn_r _ [6, 7, 8, 9, 10, 80, 81, 82, 83, 84, 85, 86, 87, 88, 89, 90, 91, 92, 93, 94] (by decide +kernel) (by decide +kernel)
set_option maxRecDepth 20000 in
theorem gX8_door_X1_isThere : GoodIn wsX8_door (wsV RX8 126 RX1 yX1_isThere wsX1_isThere) := goodIn_app (goodIn_of _ (by decide +kernel)) ggX8_door_X1_isThere
set_option maxRecDepth 20000 in
theorem ggX8_door_X8_bad : GoodIn wsX8_door wsX8_bad := goodIn_r _ [14, 15, 66, 67, 68, 69, 70, 71, 72, 73, 74, 75, 76, 77, 78, 79] (by decide +kernel) (by decide +kernel)
set_option maxRecDepth 20000 in
theorem gX8_door_X8_bad : GoodIn wsX8_door (wsV RX8 61 RX8 yX8_bad wsX8_bad) := goodIn_app (goodIn_of _ (by decide +kernel)) ggX8_door_X8_bad
set_option maxRecDepth 20000 in
theorem ggX8_door_X1_isIn : GoodIn wsX8_door wsX1_isIn := goodIn_r _ [19, 7, 20, 21, 22, 23, 24, 25, 26, 27, 80, 81, 82, 83, 84, 85, 86, 87, 88, 89, 90, 91, 92, 93, 94] (by decide +kernel) (by decide +kernel)
set_option maxRecDepth 20000 in
theorem gX8_door_X1_isIn : GoodIn wsX8_door (wsV RX8 129 RX1 yX1_isIn wsX1_isIn) := goodIn_app (goodIn_of _ (by decide +kernel)) ggX8_door_X1_isIn
set_option maxRecDepth 20000 in
theorem ggX8_door_X8_no : GoodIn wsX8_door wsX8_no := goodIn_r _ [31, 32, 66, 67, 68, 69, 70, 71, 72, 73, 74, 75, 76, 77, 78, 79] (by decide +kernel) (by decide +kernel)
set_option maxRecDepth 20000 in
theorem gX8_door_X8_no : GoodIn wsX8_door (wsV RX8 132 RX8 yX8_no wsX8_no) := goodIn_app (goodIn_of _ (by decide +kernel)) ggX8_door_X8_no
set_option maxRecDepth 20000 in
theorem ggX8_door_X1_likelyNow : GoodIn wsX8_door wsX1_likelyNow := goodIn_r _ [36, 7, 37, 20, 21, 22, 23, 24, 25, 26, 27, 38, 39, 40, 41, 80, 81, 82, 83, 84, 85, 86, 87, 88, 89, 90, 91, 92, 93, 94] (by decide +kernel) (by decide +kernel)
set_option maxRecDepth 20000 in
theorem gX8_door_X1_likelyNow : GoodIn wsX8_door (wsV RX8 163 RX1 yX1_likelyNow wsX1_likelyNow) := goodIn_app (goodIn_of _ (by decide +kernel)) ggX8_door_X1_likelyNow
set_option maxRecDepth 20000 in
theorem ggX8_door_X1_letsNow : GoodIn wsX8_door wsX1_letsNow := goodIn_r _ [45, 46, 37, 47, 48, 49, 50, 5, 51, 52, 53, 54, 40, 55, 80, 81, 82, 83, 84, 85, 86, 87, 88, 89, 90] (by decide +kernel) (by decide +kernel)
set_option maxRecDepth 20000 in
theorem gX8_door_X1_letsNow : GoodIn wsX8_door (wsV RX8 189 RX1 yX1_letsNow wsX1_letsNow) := goodIn_app (goodIn_of _ (by decide +kernel)) ggX8_door_X1_letsNow
set_option maxRecDepth 20000 in
theorem ggX8_door_X0_pairsThatRest : GoodIn wsX8_door wsX0_pairsThatRest := goodIn_r _ [59, 60, 61, 58, 62, 63, 64, 65] (by decide +kernel) (by decide +kernel)
set_option maxRecDepth 20000 in
theorem gX8_door_X0_pairsThatRest : GoodIn wsX8_door (va_wsS RX8 248 yX0_pairsThatRest wsX0_pairsThatRest) := goodIn_app (goodIn_of _ (by decide +kernel)) ggX8_door_X0_pairsThatRest
set_option maxRecDepth 20000 in
theorem dA_X8_door_0 : (([(0, .aload_n 0, 1), (1, .getfield 10, 3), (4, .iload_n 1, 1), (5, .invokevirtual 126, 3), (8, .ifCond .ne 8, 3), (11, .aload_n 0, 1), (12, .invokevirtual 61, 3), (15, .ireturn, 1), (16, .aload_n 0, 1), (17, .getfield 10, 3), (20, .iload_n 1, 1), (21, .invokevirtual 129, 3), (24, .ifCond .eq 8, 3), (27, .aload_n 0, 1), (28, .invokevirtual 132, 3), (31, .ireturn, 1), (32, .aload_n 0, 1), (33, .getfield 10, 3), (36, .iload_n 1, 1), (37, .invokevirtual 163, 3), (40, .aload_n 0, 1), (41, .getfield 10, 3), (44, .invokevirtual 189, 3), (47, .if_icmp .le 7, 3), (50, .iconst 1, 1), (51, .goto 4, 3), (54, .iconst 0, 1), (55, .invokestatic 248, 3), (58, .ireturn, 1)] : List (Nat × Instr × Nat)).all fun q => decide (decode cX8_door q.1 = .ok (q.2.1, q.2.2))) = true := by decide +kernel
theorem dX8_door_0 : decode cX8_door 0 = .ok (.aload_n 0, 1) := of_decide_eq_true (List.all_eq_true.mp dA_X8_door_0 (0, .aload_n 0, 1) (List.mem_of_getElem? (i := 0) rfl))
theorem dX8_door_1 : decode cX8_door 1 = .ok (.getfield 10, 3) := of_decide_eq_true (List.all_eq_true.mp dA_X8_door_0 (1, .getfield 10, 3) (List.mem_of_getElem? (i := 1) rfl))
theorem dX8_door_4 : decode cX8_door 4 = .ok (.iload_n 1, 1) := of_decide_eq_true (List.all_eq_true.mp dA_X8_door_0 (4, .iload_n 1, 1) (List.mem_of_getElem? (i := 2) rfl))
theorem dX8_door_5 : decode cX8_door 5 = .ok (.invokevirtual 126, 3) := of_decide_eq_true (List.all_eq_true.mp dA_X8_door_0 (5, .invokevirtual 126, 3) (List.mem_of_getElem? (i := 3) rfl))
theorem dX8_door_8 : decode cX8_door 8 = .ok (.ifCond .ne 8, 3) := of_decide_eq_true (List.all_eq_true.mp dA_X8_door_0 (8, .ifCond .ne 8, 3) (List.mem_of_getElem? (i := 4) rfl))
theorem dX8_door_11 : decode cX8_door 11 = .ok (.aload_n 0, 1) := of_decide_eq_true (List.all_eq_true.mp dA_X8_door_0 (11, .aload_n 0, 1) (List.mem_of_getElem? (i := 5) rfl))
theorem dX8_door_12 : decode cX8_door 12 = .ok (.invokevirtual 61, 3) := of_decide_eq_true (List.all_eq_true.mp dA_X8_door_0 (12, .invokevirtual 61, 3) (List.mem_of_getElem? (i := 6) rfl))
theorem dX8_door_15 : decode cX8_door 15 = .ok (.ireturn, 1) := of_decide_eq_true (List.all_eq_true.mp dA_X8_door_0 (15, .ireturn, 1) (List.mem_of_getElem? (i := 7) rfl))
theorem dX8_door_16 : decode cX8_door 16 = .ok (.aload_n 0, 1) := of_decide_eq_true (List.all_eq_true.mp dA_X8_door_0 (16, .aload_n 0, 1) (List.mem_of_getElem? (i := 8) rfl))
theorem dX8_door_17 : decode cX8_door 17 = .ok (.getfield 10, 3) := of_decide_eq_true (List.all_eq_true.mp dA_X8_door_0 (17, .getfield 10, 3) (List.mem_of_getElem? (i := 9) rfl))
theorem dX8_door_20 : decode cX8_door 20 = .ok (.iload_n 1, 1) := of_decide_eq_true (List.all_eq_true.mp dA_X8_door_0 (20, .iload_n 1, 1) (List.mem_of_getElem? (i := 10) rfl))
theorem dX8_door_21 : decode cX8_door 21 = .ok (.invokevirtual 129, 3) := of_decide_eq_true (List.all_eq_true.mp dA_X8_door_0 (21, .invokevirtual 129, 3) (List.mem_of_getElem? (i := 11) rfl))
theorem dX8_door_24 : decode cX8_door 24 = .ok (.ifCond .eq 8, 3) := of_decide_eq_true (List.all_eq_true.mp dA_X8_door_0 (24, .ifCond .eq 8, 3) (List.mem_of_getElem? (i := 12) rfl))
theorem dX8_door_27 : decode cX8_door 27 = .ok (.aload_n 0, 1) := of_decide_eq_true (List.all_eq_true.mp dA_X8_door_0 (27, .aload_n 0, 1) (List.mem_of_getElem? (i := 13) rfl))
theorem dX8_door_28 : decode cX8_door 28 = .ok (.invokevirtual 132, 3) := of_decide_eq_true (List.all_eq_true.mp dA_X8_door_0 (28, .invokevirtual 132, 3) (List.mem_of_getElem? (i := 14) rfl))
theorem dX8_door_31 : decode cX8_door 31 = .ok (.ireturn, 1) := of_decide_eq_true (List.all_eq_true.mp dA_X8_door_0 (31, .ireturn, 1) (List.mem_of_getElem? (i := 15) rfl))
theorem dX8_door_32 : decode cX8_door 32 = .ok (.aload_n 0, 1) := of_decide_eq_true (List.all_eq_true.mp dA_X8_door_0 (32, .aload_n 0, 1) (List.mem_of_getElem? (i := 16) rfl))
theorem dX8_door_33 : decode cX8_door 33 = .ok (.getfield 10, 3) := of_decide_eq_true (List.all_eq_true.mp dA_X8_door_0 (33, .getfield 10, 3) (List.mem_of_getElem? (i := 17) rfl))
theorem dX8_door_36 : decode cX8_door 36 = .ok (.iload_n 1, 1) := of_decide_eq_true (List.all_eq_true.mp dA_X8_door_0 (36, .iload_n 1, 1) (List.mem_of_getElem? (i := 18) rfl))
theorem dX8_door_37 : decode cX8_door 37 = .ok (.invokevirtual 163, 3) := of_decide_eq_true (List.all_eq_true.mp dA_X8_door_0 (37, .invokevirtual 163, 3) (List.mem_of_getElem? (i := 19) rfl))
theorem dX8_door_40 : decode cX8_door 40 = .ok (.aload_n 0, 1) := of_decide_eq_true (List.all_eq_true.mp dA_X8_door_0 (40, .aload_n 0, 1) (List.mem_of_getElem? (i := 20) rfl))
theorem dX8_door_41 : decode cX8_door 41 = .ok (.getfield 10, 3) := of_decide_eq_true (List.all_eq_true.mp dA_X8_door_0 (41, .getfield 10, 3) (List.mem_of_getElem? (i := 21) rfl))
theorem dX8_door_44 : decode cX8_door 44 = .ok (.invokevirtual 189, 3) := of_decide_eq_true (List.all_eq_true.mp dA_X8_door_0 (44, .invokevirtual 189, 3) (List.mem_of_getElem? (i := 22) rfl))
theorem dX8_door_47 : decode cX8_door 47 = .ok (.if_icmp .le 7, 3) := of_decide_eq_true (List.all_eq_true.mp dA_X8_door_0 (47, .if_icmp .le 7, 3) (List.mem_of_getElem? (i := 23) rfl))
theorem dX8_door_50 : decode cX8_door 50 = .ok (.iconst 1, 1) := of_decide_eq_true (List.all_eq_true.mp dA_X8_door_0 (50, .iconst 1, 1) (List.mem_of_getElem? (i := 24) rfl))
theorem dX8_door_51 : decode cX8_door 51 = .ok (.goto 4, 3) := of_decide_eq_true (List.all_eq_true.mp dA_X8_door_0 (51, .goto 4, 3) (List.mem_of_getElem? (i := 25) rfl))
theorem dX8_door_54 : decode cX8_door 54 = .ok (.iconst 0, 1) := of_decide_eq_true (List.all_eq_true.mp dA_X8_door_0 (54, .iconst 0, 1) (List.mem_of_getElem? (i := 26) rfl))
theorem dX8_door_55 : decode cX8_door 55 = .ok (.invokestatic 248, 3) := of_decide_eq_true (List.all_eq_true.mp dA_X8_door_0 (55, .invokestatic 248, 3) (List.mem_of_getElem? (i := 27) rfl))
theorem dX8_door_58 : decode cX8_door 58 = .ok (.ireturn, 1) := of_decide_eq_true (List.all_eq_true.mp dA_X8_door_0 (58, .ireturn, 1) (List.mem_of_getElem? (i := 28) rfl))
set_option maxRecDepth 20000 in
theorem ggX8_rain_X1_isThere : GoodIn wsX8_rain wsX1_isThere := goodIn_r _ [6, 7, 8, 9, 10, 91, 92, 93, 94, 95, 96, 97, 98, 99, 100, 101, 102, 103, 104, 105] (by decide +kernel) (by decide +kernel)
set_option maxRecDepth 20000 in
theorem gX8_rain_X1_isThere : GoodIn wsX8_rain (wsV RX8 126 RX1 yX1_isThere wsX1_isThere) := goodIn_app (goodIn_of _ (by decide +kernel)) ggX8_rain_X1_isThere
set_option maxRecDepth 20000 in
theorem ggX8_rain_X8_within : GoodIn wsX8_rain wsX8_within := goodIn_r _ [10] (by decide +kernel) (by decide +kernel)
set_option maxRecDepth 20000 in
theorem gX8_rain_X8_within : GoodIn wsX8_rain (va_wsS RX8 57 yX8_within wsX8_within) := goodIn_app (goodIn_of _ (by decide +kernel)) ggX8_rain_X8_within
set_option maxRecDepth 20000 in
theorem ggX8_rain_X8_bad : GoodIn wsX8_rain wsX8_bad := goodIn_r _ [15, 16, 77, 78, 79, 80, 81, 82, 83, 84, 85, 86, 87, 88, 89, 90] (by decide +kernel) (by decide +kernel)
set_option maxRecDepth 20000 in
theorem gX8_rain_X8_bad : GoodIn wsX8_rain (wsV RX8 61 RX8 yX8_bad wsX8_bad) := goodIn_app (goodIn_of _ (by decide +kernel)) ggX8_rain_X8_bad
set_option maxRecDepth 20000 in
theorem ggX8_rain_X1_isIn : GoodIn wsX8_rain wsX1_isIn := goodIn_r _ [20, 7, 21, 22, 23, 24, 25, 26, 27, 28, 91, 92, 93, 94, 95, 96, 97, 98, 99, 100, 101, 102, 103, 104, 105] (by decide +kernel) (by decide +kernel)
set_option maxRecDepth 20000 in
theorem gX8_rain_X1_isIn : GoodIn wsX8_rain (wsV RX8 129 RX1 yX1_isIn wsX1_isIn) := goodIn_app (goodIn_of _ (by decide +kernel)) ggX8_rain_X1_isIn
set_option maxRecDepth 20000 in
theorem ggX8_rain_X8_no : GoodIn wsX8_rain wsX8_no := goodIn_r _ [32, 33, 77, 78, 79, 80, 81, 82, 83, 84, 85, 86, 87, 88, 89, 90] (by decide +kernel) (by decide +kernel)
set_option maxRecDepth 20000 in
theorem gX8_rain_X8_no : GoodIn wsX8_rain (wsV RX8 132 RX8 yX8_no wsX8_no) := goodIn_app (goodIn_of _ (by decide +kernel)) ggX8_rain_X8_no
set_option maxRecDepth 20000 in
theorem ggX8_rain_X1_opensTo : GoodIn wsX8_rain wsX1_opensTo := goodIn_r _ [37, 38, 39, 40, 41, 42, 5, 43, 7, 44, 45, 46, 47, 24, 48, 26, 49, 22, 23, 25, 27, 28, 50, 51, 52, 53, 54, 21, 55, 56, 57, 58, 59, 60, 61, 91, 92, 93, 94, 95, 96, 97, 98, 99, 100, 101, 102, 103, 104, 105] (by decide +kernel) (by decide +kernel)
set_option maxRecDepth 20000 in
theorem gX8_rain_X1_opensTo : GoodIn wsX8_rain (wsV RX8 172 RX1 yX1_opensTo wsX1_opensTo) := goodIn_app (goodIn_of _ (by decide +kernel)) ggX8_rain_X1_opensTo
set_option maxRecDepth 20000 in
theorem ggX8_rain_X1_wetNow : GoodIn wsX8_rain wsX1_wetNow := goodIn_r _ [65, 54, 66, 67, 68, 5, 69, 70, 91, 92, 93, 94, 95, 96, 97, 98, 99, 100, 101] (by decide +kernel) (by decide +kernel)
set_option maxRecDepth 20000 in
theorem gX8_rain_X1_wetNow : GoodIn wsX8_rain (wsV RX8 169 RX1 yX1_wetNow wsX1_wetNow) := goodIn_app (goodIn_of _ (by decide +kernel)) ggX8_rain_X1_wetNow
set_option maxRecDepth 20000 in
theorem ggX8_rain_X8_setTenths : GoodIn wsX8_rain wsX8_setTenths := goodIn_r _ [74, 75, 76, 77, 78, 79, 80, 81, 82, 83, 84, 85, 86, 87, 88, 89, 90] (by decide +kernel) (by decide +kernel)
set_option maxRecDepth 20000 in
theorem gX8_rain_X8_setTenths : GoodIn wsX8_rain (wsV RX8 254 RX8 yX8_setTenths wsX8_setTenths) := goodIn_app (goodIn_of _ (by decide +kernel)) ggX8_rain_X8_setTenths
set_option maxRecDepth 20000 in
theorem dA_X8_rain_0 : (([(0, .aload_n 0, 1), (1, .getfield 10, 3), (4, .iload_n 1, 1), (5, .invokevirtual 126, 3), (8, .ifCond .eq 13, 3), (11, .iload_n 2, 1), (12, .iconst 0, 1), (13, .bipush 10, 2), (15, .invokestatic 57, 3), (18, .ifCond .ne 8, 3), (21, .aload_n 0, 1), (22, .invokevirtual 61, 3), (25, .ireturn, 1), (26, .aload_n 0, 1), (27, .getfield 10, 3), (30, .iload_n 1, 1), (31, .invokevirtual 129, 3), (34, .ifCond .eq 8, 3), (37, .aload_n 0, 1), (38, .invokevirtual 132, 3), (41, .ireturn, 1), (42, .iconst 0, 1), (43, .istore_n 3, 1), (44, .aload_n 0, 1), (45, .getfield 10, 3), (48, .iload_n 1, 1), (49, .iconst 4, 1), (50, .invokevirtual 172, 3), (53, .ifCond .eq 7, 3), (56, .iload_n 3, 1), (57, .iload_n 2, 1), (58, .iadd, 1), (59, .istore_n 3, 1), (60, .aload_n 0, 1), (61, .getfield 10, 3), (64, .iload_n 1, 1), (65, .aload_n 0, 1), (66, .getfield 10, 3), (69, .invokevirtual 169, 3), (72, .invokevirtual 172, 3)] : List (Nat × Instr × Nat)).all fun q => decide (decode cX8_rain q.1 = .ok (q.2.1, q.2.2))) = true := by decide +kernel
theorem dX8_rain_0 : decode cX8_rain 0 = .ok (.aload_n 0, 1) := of_decide_eq_true (List.all_eq_true.mp dA_X8_rain_0 (0, .aload_n 0, 1) (List.mem_of_getElem? (i := 0) rfl))
theorem dX8_rain_1 : decode cX8_rain 1 = .ok (.getfield 10, 3) := of_decide_eq_true (List.all_eq_true.mp dA_X8_rain_0 (1, .getfield 10, 3) (List.mem_of_getElem? (i := 1) rfl))
theorem dX8_rain_4 : decode cX8_rain 4 = .ok (.iload_n 1, 1) := of_decide_eq_true (List.all_eq_true.mp dA_X8_rain_0 (4, .iload_n 1, 1) (List.mem_of_getElem? (i := 2) rfl))
theorem dX8_rain_5 : decode cX8_rain 5 = .ok (.invokevirtual 126, 3) := of_decide_eq_true (List.all_eq_true.mp dA_X8_rain_0 (5, .invokevirtual 126, 3) (List.mem_of_getElem? (i := 3) rfl))
theorem dX8_rain_8 : decode cX8_rain 8 = .ok (.ifCond .eq 13, 3) := of_decide_eq_true (List.all_eq_true.mp dA_X8_rain_0 (8, .ifCond .eq 13, 3) (List.mem_of_getElem? (i := 4) rfl))
theorem dX8_rain_11 : decode cX8_rain 11 = .ok (.iload_n 2, 1) := of_decide_eq_true (List.all_eq_true.mp dA_X8_rain_0 (11, .iload_n 2, 1) (List.mem_of_getElem? (i := 5) rfl))
theorem dX8_rain_12 : decode cX8_rain 12 = .ok (.iconst 0, 1) := of_decide_eq_true (List.all_eq_true.mp dA_X8_rain_0 (12, .iconst 0, 1) (List.mem_of_getElem? (i := 6) rfl))
theorem dX8_rain_13 : decode cX8_rain 13 = .ok (.bipush 10, 2) := of_decide_eq_true (List.all_eq_true.mp dA_X8_rain_0 (13, .bipush 10, 2) (List.mem_of_getElem? (i := 7) rfl))
theorem dX8_rain_15 : decode cX8_rain 15 = .ok (.invokestatic 57, 3) := of_decide_eq_true (List.all_eq_true.mp dA_X8_rain_0 (15, .invokestatic 57, 3) (List.mem_of_getElem? (i := 8) rfl))
theorem dX8_rain_18 : decode cX8_rain 18 = .ok (.ifCond .ne 8, 3) := of_decide_eq_true (List.all_eq_true.mp dA_X8_rain_0 (18, .ifCond .ne 8, 3) (List.mem_of_getElem? (i := 9) rfl))
theorem dX8_rain_21 : decode cX8_rain 21 = .ok (.aload_n 0, 1) := of_decide_eq_true (List.all_eq_true.mp dA_X8_rain_0 (21, .aload_n 0, 1) (List.mem_of_getElem? (i := 10) rfl))
theorem dX8_rain_22 : decode cX8_rain 22 = .ok (.invokevirtual 61, 3) := of_decide_eq_true (List.all_eq_true.mp dA_X8_rain_0 (22, .invokevirtual 61, 3) (List.mem_of_getElem? (i := 11) rfl))
theorem dX8_rain_25 : decode cX8_rain 25 = .ok (.ireturn, 1) := of_decide_eq_true (List.all_eq_true.mp dA_X8_rain_0 (25, .ireturn, 1) (List.mem_of_getElem? (i := 12) rfl))
theorem dX8_rain_26 : decode cX8_rain 26 = .ok (.aload_n 0, 1) := of_decide_eq_true (List.all_eq_true.mp dA_X8_rain_0 (26, .aload_n 0, 1) (List.mem_of_getElem? (i := 13) rfl))
theorem dX8_rain_27 : decode cX8_rain 27 = .ok (.getfield 10, 3) := of_decide_eq_true (List.all_eq_true.mp dA_X8_rain_0 (27, .getfield 10, 3) (List.mem_of_getElem? (i := 14) rfl))
theorem dX8_rain_30 : decode cX8_rain 30 = .ok (.iload_n 1, 1) := of_decide_eq_true (List.all_eq_true.mp dA_X8_rain_0 (30, .iload_n 1, 1) (List.mem_of_getElem? (i := 15) rfl))
theorem dX8_rain_31 : decode cX8_rain 31 = .ok (.invokevirtual 129, 3) := of_decide_eq_true (List.all_eq_true.mp dA_X8_rain_0 (31, .invokevirtual 129, 3) (List.mem_of_getElem? (i := 16) rfl))
theorem dX8_rain_34 : decode cX8_rain 34 = .ok (.ifCond .eq 8, 3) := of_decide_eq_true (List.all_eq_true.mp dA_X8_rain_0 (34, .ifCond .eq 8, 3) (List.mem_of_getElem? (i := 17) rfl))
theorem dX8_rain_37 : decode cX8_rain 37 = .ok (.aload_n 0, 1) := of_decide_eq_true (List.all_eq_true.mp dA_X8_rain_0 (37, .aload_n 0, 1) (List.mem_of_getElem? (i := 18) rfl))
theorem dX8_rain_38 : decode cX8_rain 38 = .ok (.invokevirtual 132, 3) := of_decide_eq_true (List.all_eq_true.mp dA_X8_rain_0 (38, .invokevirtual 132, 3) (List.mem_of_getElem? (i := 19) rfl))
theorem dX8_rain_41 : decode cX8_rain 41 = .ok (.ireturn, 1) := of_decide_eq_true (List.all_eq_true.mp dA_X8_rain_0 (41, .ireturn, 1) (List.mem_of_getElem? (i := 20) rfl))
theorem dX8_rain_42 : decode cX8_rain 42 = .ok (.iconst 0, 1) := of_decide_eq_true (List.all_eq_true.mp dA_X8_rain_0 (42, .iconst 0, 1) (List.mem_of_getElem? (i := 21) rfl))
theorem dX8_rain_43 : decode cX8_rain 43 = .ok (.istore_n 3, 1) := of_decide_eq_true (List.all_eq_true.mp dA_X8_rain_0 (43, .istore_n 3, 1) (List.mem_of_getElem? (i := 22) rfl))
theorem dX8_rain_44 : decode cX8_rain 44 = .ok (.aload_n 0, 1) := of_decide_eq_true (List.all_eq_true.mp dA_X8_rain_0 (44, .aload_n 0, 1) (List.mem_of_getElem? (i := 23) rfl))
theorem dX8_rain_45 : decode cX8_rain 45 = .ok (.getfield 10, 3) := of_decide_eq_true (List.all_eq_true.mp dA_X8_rain_0 (45, .getfield 10, 3) (List.mem_of_getElem? (i := 24) rfl))
theorem dX8_rain_48 : decode cX8_rain 48 = .ok (.iload_n 1, 1) := of_decide_eq_true (List.all_eq_true.mp dA_X8_rain_0 (48, .iload_n 1, 1) (List.mem_of_getElem? (i := 25) rfl))
theorem dX8_rain_49 : decode cX8_rain 49 = .ok (.iconst 4, 1) := of_decide_eq_true (List.all_eq_true.mp dA_X8_rain_0 (49, .iconst 4, 1) (List.mem_of_getElem? (i := 26) rfl))
theorem dX8_rain_50 : decode cX8_rain 50 = .ok (.invokevirtual 172, 3) := of_decide_eq_true (List.all_eq_true.mp dA_X8_rain_0 (50, .invokevirtual 172, 3) (List.mem_of_getElem? (i := 27) rfl))
theorem dX8_rain_53 : decode cX8_rain 53 = .ok (.ifCond .eq 7, 3) := of_decide_eq_true (List.all_eq_true.mp dA_X8_rain_0 (53, .ifCond .eq 7, 3) (List.mem_of_getElem? (i := 28) rfl))
theorem dX8_rain_56 : decode cX8_rain 56 = .ok (.iload_n 3, 1) := of_decide_eq_true (List.all_eq_true.mp dA_X8_rain_0 (56, .iload_n 3, 1) (List.mem_of_getElem? (i := 29) rfl))
theorem dX8_rain_57 : decode cX8_rain 57 = .ok (.iload_n 2, 1) := of_decide_eq_true (List.all_eq_true.mp dA_X8_rain_0 (57, .iload_n 2, 1) (List.mem_of_getElem? (i := 30) rfl))
theorem dX8_rain_58 : decode cX8_rain 58 = .ok (.iadd, 1) := of_decide_eq_true (List.all_eq_true.mp dA_X8_rain_0 (58, .iadd, 1) (List.mem_of_getElem? (i := 31) rfl))
theorem dX8_rain_59 : decode cX8_rain 59 = .ok (.istore_n 3, 1) := of_decide_eq_true (List.all_eq_true.mp dA_X8_rain_0 (59, .istore_n 3, 1) (List.mem_of_getElem? (i := 32) rfl))
theorem dX8_rain_60 : decode cX8_rain 60 = .ok (.aload_n 0, 1) := of_decide_eq_true (List.all_eq_true.mp dA_X8_rain_0 (60, .aload_n 0, 1) (List.mem_of_getElem? (i := 33) rfl))
theorem dX8_rain_61 : decode cX8_rain 61 = .ok (.getfield 10, 3) := of_decide_eq_true (List.all_eq_true.mp dA_X8_rain_0 (61, .getfield 10, 3) (List.mem_of_getElem? (i := 34) rfl))
theorem dX8_rain_64 : decode cX8_rain 64 = .ok (.iload_n 1, 1) := of_decide_eq_true (List.all_eq_true.mp dA_X8_rain_0 (64, .iload_n 1, 1) (List.mem_of_getElem? (i := 35) rfl))
theorem dX8_rain_65 : decode cX8_rain 65 = .ok (.aload_n 0, 1) := of_decide_eq_true (List.all_eq_true.mp dA_X8_rain_0 (65, .aload_n 0, 1) (List.mem_of_getElem? (i := 36) rfl))
theorem dX8_rain_66 : decode cX8_rain 66 = .ok (.getfield 10, 3) := of_decide_eq_true (List.all_eq_true.mp dA_X8_rain_0 (66, .getfield 10, 3) (List.mem_of_getElem? (i := 37) rfl))
theorem dX8_rain_69 : decode cX8_rain 69 = .ok (.invokevirtual 169, 3) := of_decide_eq_true (List.all_eq_true.mp dA_X8_rain_0 (69, .invokevirtual 169, 3) (List.mem_of_getElem? (i := 38) rfl))
theorem dX8_rain_72 : decode cX8_rain 72 = .ok (.invokevirtual 172, 3) := of_decide_eq_true (List.all_eq_true.mp dA_X8_rain_0 (72, .invokevirtual 172, 3) (List.mem_of_getElem? (i := 39) rfl))
set_option maxRecDepth 20000 in
theorem dA_X8_rain_75 : (([(75, .ifCond .eq 10, 3), (78, .iload_n 3, 1), (79, .bipush 10, 2), (81, .iload_n 2, 1), (82, .isub, 1), (83, .iadd, 1), (84, .istore_n 3, 1), (85, .aload_n 0, 1), (86, .iload_n 3, 1), (87, .invokevirtual 254, 3), (90, .iconst 1, 1), (91, .ireturn, 1)] : List (Nat × Instr × Nat)).all fun q => decide (decode cX8_rain q.1 = .ok (q.2.1, q.2.2))) = true := by decide +kernel
theorem dX8_rain_75 : decode cX8_rain 75 = .ok (.ifCond .eq 10, 3) := of_decide_eq_true (List.all_eq_true.mp dA_X8_rain_75 (75, .ifCond .eq 10, 3) (List.mem_of_getElem? (i := 0) rfl))
theorem dX8_rain_78 : decode cX8_rain 78 = .ok (.iload_n 3, 1) := of_decide_eq_true (List.all_eq_true.mp dA_X8_rain_75 (78, .iload_n 3, 1) (List.mem_of_getElem? (i := 1) rfl))
theorem dX8_rain_79 : decode cX8_rain 79 = .ok (.bipush 10, 2) := of_decide_eq_true (List.all_eq_true.mp dA_X8_rain_75 (79, .bipush 10, 2) (List.mem_of_getElem? (i := 2) rfl))
theorem dX8_rain_81 : decode cX8_rain 81 = .ok (.iload_n 2, 1) := of_decide_eq_true (List.all_eq_true.mp dA_X8_rain_75 (81, .iload_n 2, 1) (List.mem_of_getElem? (i := 3) rfl))
theorem dX8_rain_82 : decode cX8_rain 82 = .ok (.isub, 1) := of_decide_eq_true (List.all_eq_true.mp dA_X8_rain_75 (82, .isub, 1) (List.mem_of_getElem? (i := 4) rfl))
theorem dX8_rain_83 : decode cX8_rain 83 = .ok (.iadd, 1) := of_decide_eq_true (List.all_eq_true.mp dA_X8_rain_75 (83, .iadd, 1) (List.mem_of_getElem? (i := 5) rfl))
theorem dX8_rain_84 : decode cX8_rain 84 = .ok (.istore_n 3, 1) := of_decide_eq_true (List.all_eq_true.mp dA_X8_rain_75 (84, .istore_n 3, 1) (List.mem_of_getElem? (i := 6) rfl))
theorem dX8_rain_85 : decode cX8_rain 85 = .ok (.aload_n 0, 1) := of_decide_eq_true (List.all_eq_true.mp dA_X8_rain_75 (85, .aload_n 0, 1) (List.mem_of_getElem? (i := 7) rfl))
theorem dX8_rain_86 : decode cX8_rain 86 = .ok (.iload_n 3, 1) := of_decide_eq_true (List.all_eq_true.mp dA_X8_rain_75 (86, .iload_n 3, 1) (List.mem_of_getElem? (i := 8) rfl))
theorem dX8_rain_87 : decode cX8_rain 87 = .ok (.invokevirtual 254, 3) := of_decide_eq_true (List.all_eq_true.mp dA_X8_rain_75 (87, .invokevirtual 254, 3) (List.mem_of_getElem? (i := 9) rfl))
theorem dX8_rain_90 : decode cX8_rain 90 = .ok (.iconst 1, 1) := of_decide_eq_true (List.all_eq_true.mp dA_X8_rain_75 (90, .iconst 1, 1) (List.mem_of_getElem? (i := 10) rfl))
theorem dX8_rain_91 : decode cX8_rain 91 = .ok (.ireturn, 1) := of_decide_eq_true (List.all_eq_true.mp dA_X8_rain_75 (91, .ireturn, 1) (List.mem_of_getElem? (i := 11) rfl))
set_option maxRecDepth 20000 in
theorem ggX8_decades_X8_within : GoodIn wsX8_decades wsX8_within := goodIn_r _ [12] (by decide +kernel) (by decide +kernel)
set_option maxRecDepth 20000 in
theorem gX8_decades_X8_within : GoodIn wsX8_decades (va_wsS RX8 57 yX8_within wsX8_within) := goodIn_app (goodIn_of _ (by decide +kernel)) ggX8_decades_X8_within
set_option maxRecDepth 20000 in
theorem ggX8_decades_X8_bad : GoodIn wsX8_decades wsX8_bad := goodIn_r _ [16, 17, 118, 119, 120, 121, 122, 123, 124, 125, 126, 127, 128, 129, 130, 131] (by decide +kernel) (by decide +kernel)
set_option maxRecDepth 20000 in
theorem gX8_decades_X8_bad : GoodIn wsX8_decades (wsV RX8 61 RX8 yX8_bad wsX8_bad) := goodIn_app (goodIn_of _ (by decide +kernel)) ggX8_decades_X8_bad
set_option maxRecDepth 20000 in
theorem ggX8_decades_X1_copy : GoodIn wsX8_decades wsX1_copy := goodIn_r _ [22, 23, 24, 25, 26, 27, 28, 29, 30, 31, 32, 33, 34, 35, 21, 36, 37, 38, 39, 40, 41, 42, 43, 44, 45, 46, 47, 48, 49, 50, 51, 52, 132, 133, 134, 135, 136, 137, 138, 139, 140, 141, 142, 143, 144, 145, 146] (by decide +kernel) (by decide +kernel)
set_option maxRecDepth 20000 in
theorem gX8_decades_X1_copy : GoodIn wsX8_decades (wsV RX8 122 RX1 yX1_copy wsX1_copy) := goodIn_app (goodIn_of _ (by decide +kernel)) ggX8_decades_X1_copy
set_option maxRecDepth 20000 in
theorem ggX8_decades_X1_happen : GoodIn wsX8_decades wsX1_happen := goodIn_r _ [56, 25, 26, 57, 58, 59, 21, 60, 28, 10, 11, 12, 61, 62, 63, 64, 65, 66, 67, 45, 68, 52, 69, 47, 70, 71, 72, 73, 74, 75, 76, 77, 78, 79, 80, 81, 82, 83, 84, 85, 27, 86, 87, 88, 89, 33, 34, 35, 36, 37, 90, 91, 92, 93, 23, 94, 95, 96, 97, 24, 98, 99, 100, 101, 102, 103, 104, 105, 106, 107, 108, 109, 110, 111, 112, 113, 132, 133, 134, 135, 136, 137, 138, 139, 140, 141, 142, 143, 144, 145, 146] (by decide +kernel) (by decide +kernel)
set_option maxRecDepth 20000 in
theorem gX8_decades_X1_happen : GoodIn wsX8_decades (wsV RX8 268 RX1 yX1_happen wsX1_happen) := goodIn_app (goodIn_of _ (by decide +kernel)) ggX8_decades_X1_happen
set_option maxRecDepth 20000 in
theorem ggX8_decades_X1_howManyIn : GoodIn wsX8_decades wsX1_howManyIn := goodIn_r _ [117, 28, 98, 99, 100, 45, 101, 52, 102, 66, 67, 68, 69, 47, 132, 133, 134, 135, 136, 137, 138, 139, 140, 141, 142, 143, 144, 145, 146] (by decide +kernel) (by decide +kernel)
set_option maxRecDepth 20000 in
theorem gX8_decades_X1_howManyIn : GoodIn wsX8_decades (wsV RX8 144 RX1 yX1_howManyIn wsX1_howManyIn) := goodIn_app (goodIn_of _ (by decide +kernel)) ggX8_decades_X1_howManyIn
set_option maxRecDepth 20000 in
theorem dA_X8_decades_0 : (([(0, .iload_n 1, 1), (1, .iconst 0, 1), (2, .ldc_w 257, 3), (5, .invokestatic 57, 3), (8, .ifCond .eq 13, 3), (11, .iload_n 2, 1), (12, .iconst 0, 1), (13, .bipush 60, 2), (15, .invokestatic 57, 3), (18, .ifCond .ne 8, 3), (21, .aload_n 0, 1), (22, .invokevirtual 61, 3), (25, .ireturn, 1), (26, .aload_n 0, 1), (27, .getfield 16, 3), (30, .aload_n 0, 1), (31, .getfield 10, 3), (34, .invokevirtual 122, 3), (37, .iload_n 1, 1), (38, .i2l, 1), (39, .lstore_n 3, 1), (40, .iconst 0, 1), (41, .istore 5, 2), (43, .iload 5, 2), (45, .iload_n 2, 1), (46, .if_icmp .ge 40, 3), (49, .lload_n 3, 1), (50, .ldc2_w 258, 3), (53, .lmul, 1), (54, .ldc2_w 260, 3), (57, .ladd, 1), (58, .ldc2_w 262, 3), (61, .lrem, 1), (62, .lstore_n 3, 1), (63, .aload_n 0, 1), (64, .getfield 16, 3), (67, .lload_n 3, 1), (68, .ldc2_w 264, 3), (71, .ldiv, 1), (72, .ldc2_w 266, 3)] : List (Nat × Instr × Nat)).all fun q => decide (decode cX8_decades q.1 = .ok (q.2.1, q.2.2))) = true := by decide +kernel
theorem dX8_decades_0 : decode cX8_decades 0 = .ok (.iload_n 1, 1) := of_decide_eq_true (List.all_eq_true.mp dA_X8_decades_0 (0, .iload_n 1, 1) (List.mem_of_getElem? (i := 0) rfl))
theorem dX8_decades_1 : decode cX8_decades 1 = .ok (.iconst 0, 1) := of_decide_eq_true (List.all_eq_true.mp dA_X8_decades_0 (1, .iconst 0, 1) (List.mem_of_getElem? (i := 1) rfl))
theorem dX8_decades_2 : decode cX8_decades 2 = .ok (.ldc_w 257, 3) := of_decide_eq_true (List.all_eq_true.mp dA_X8_decades_0 (2, .ldc_w 257, 3) (List.mem_of_getElem? (i := 2) rfl))
theorem dX8_decades_5 : decode cX8_decades 5 = .ok (.invokestatic 57, 3) := of_decide_eq_true (List.all_eq_true.mp dA_X8_decades_0 (5, .invokestatic 57, 3) (List.mem_of_getElem? (i := 3) rfl))
theorem dX8_decades_8 : decode cX8_decades 8 = .ok (.ifCond .eq 13, 3) := of_decide_eq_true (List.all_eq_true.mp dA_X8_decades_0 (8, .ifCond .eq 13, 3) (List.mem_of_getElem? (i := 4) rfl))
theorem dX8_decades_11 : decode cX8_decades 11 = .ok (.iload_n 2, 1) := of_decide_eq_true (List.all_eq_true.mp dA_X8_decades_0 (11, .iload_n 2, 1) (List.mem_of_getElem? (i := 5) rfl))
theorem dX8_decades_12 : decode cX8_decades 12 = .ok (.iconst 0, 1) := of_decide_eq_true (List.all_eq_true.mp dA_X8_decades_0 (12, .iconst 0, 1) (List.mem_of_getElem? (i := 6) rfl))
theorem dX8_decades_13 : decode cX8_decades 13 = .ok (.bipush 60, 2) := of_decide_eq_true (List.all_eq_true.mp dA_X8_decades_0 (13, .bipush 60, 2) (List.mem_of_getElem? (i := 7) rfl))
theorem dX8_decades_15 : decode cX8_decades 15 = .ok (.invokestatic 57, 3) := of_decide_eq_true (List.all_eq_true.mp dA_X8_decades_0 (15, .invokestatic 57, 3) (List.mem_of_getElem? (i := 8) rfl))
theorem dX8_decades_18 : decode cX8_decades 18 = .ok (.ifCond .ne 8, 3) := of_decide_eq_true (List.all_eq_true.mp dA_X8_decades_0 (18, .ifCond .ne 8, 3) (List.mem_of_getElem? (i := 9) rfl))
theorem dX8_decades_21 : decode cX8_decades 21 = .ok (.aload_n 0, 1) := of_decide_eq_true (List.all_eq_true.mp dA_X8_decades_0 (21, .aload_n 0, 1) (List.mem_of_getElem? (i := 10) rfl))
theorem dX8_decades_22 : decode cX8_decades 22 = .ok (.invokevirtual 61, 3) := of_decide_eq_true (List.all_eq_true.mp dA_X8_decades_0 (22, .invokevirtual 61, 3) (List.mem_of_getElem? (i := 11) rfl))
theorem dX8_decades_25 : decode cX8_decades 25 = .ok (.ireturn, 1) := of_decide_eq_true (List.all_eq_true.mp dA_X8_decades_0 (25, .ireturn, 1) (List.mem_of_getElem? (i := 12) rfl))
theorem dX8_decades_26 : decode cX8_decades 26 = .ok (.aload_n 0, 1) := of_decide_eq_true (List.all_eq_true.mp dA_X8_decades_0 (26, .aload_n 0, 1) (List.mem_of_getElem? (i := 13) rfl))
theorem dX8_decades_27 : decode cX8_decades 27 = .ok (.getfield 16, 3) := of_decide_eq_true (List.all_eq_true.mp dA_X8_decades_0 (27, .getfield 16, 3) (List.mem_of_getElem? (i := 14) rfl))
theorem dX8_decades_30 : decode cX8_decades 30 = .ok (.aload_n 0, 1) := of_decide_eq_true (List.all_eq_true.mp dA_X8_decades_0 (30, .aload_n 0, 1) (List.mem_of_getElem? (i := 15) rfl))
theorem dX8_decades_31 : decode cX8_decades 31 = .ok (.getfield 10, 3) := of_decide_eq_true (List.all_eq_true.mp dA_X8_decades_0 (31, .getfield 10, 3) (List.mem_of_getElem? (i := 16) rfl))
theorem dX8_decades_34 : decode cX8_decades 34 = .ok (.invokevirtual 122, 3) := of_decide_eq_true (List.all_eq_true.mp dA_X8_decades_0 (34, .invokevirtual 122, 3) (List.mem_of_getElem? (i := 17) rfl))
theorem dX8_decades_37 : decode cX8_decades 37 = .ok (.iload_n 1, 1) := of_decide_eq_true (List.all_eq_true.mp dA_X8_decades_0 (37, .iload_n 1, 1) (List.mem_of_getElem? (i := 18) rfl))
theorem dX8_decades_38 : decode cX8_decades 38 = .ok (.i2l, 1) := of_decide_eq_true (List.all_eq_true.mp dA_X8_decades_0 (38, .i2l, 1) (List.mem_of_getElem? (i := 19) rfl))
theorem dX8_decades_39 : decode cX8_decades 39 = .ok (.lstore_n 3, 1) := of_decide_eq_true (List.all_eq_true.mp dA_X8_decades_0 (39, .lstore_n 3, 1) (List.mem_of_getElem? (i := 20) rfl))
theorem dX8_decades_40 : decode cX8_decades 40 = .ok (.iconst 0, 1) := of_decide_eq_true (List.all_eq_true.mp dA_X8_decades_0 (40, .iconst 0, 1) (List.mem_of_getElem? (i := 21) rfl))
theorem dX8_decades_41 : decode cX8_decades 41 = .ok (.istore 5, 2) := of_decide_eq_true (List.all_eq_true.mp dA_X8_decades_0 (41, .istore 5, 2) (List.mem_of_getElem? (i := 22) rfl))
theorem dX8_decades_43 : decode cX8_decades 43 = .ok (.iload 5, 2) := of_decide_eq_true (List.all_eq_true.mp dA_X8_decades_0 (43, .iload 5, 2) (List.mem_of_getElem? (i := 23) rfl))
theorem dX8_decades_45 : decode cX8_decades 45 = .ok (.iload_n 2, 1) := of_decide_eq_true (List.all_eq_true.mp dA_X8_decades_0 (45, .iload_n 2, 1) (List.mem_of_getElem? (i := 24) rfl))
theorem dX8_decades_46 : decode cX8_decades 46 = .ok (.if_icmp .ge 40, 3) := of_decide_eq_true (List.all_eq_true.mp dA_X8_decades_0 (46, .if_icmp .ge 40, 3) (List.mem_of_getElem? (i := 25) rfl))
theorem dX8_decades_49 : decode cX8_decades 49 = .ok (.lload_n 3, 1) := of_decide_eq_true (List.all_eq_true.mp dA_X8_decades_0 (49, .lload_n 3, 1) (List.mem_of_getElem? (i := 26) rfl))
theorem dX8_decades_50 : decode cX8_decades 50 = .ok (.ldc2_w 258, 3) := of_decide_eq_true (List.all_eq_true.mp dA_X8_decades_0 (50, .ldc2_w 258, 3) (List.mem_of_getElem? (i := 27) rfl))
theorem dX8_decades_53 : decode cX8_decades 53 = .ok (.lmul, 1) := of_decide_eq_true (List.all_eq_true.mp dA_X8_decades_0 (53, .lmul, 1) (List.mem_of_getElem? (i := 28) rfl))
theorem dX8_decades_54 : decode cX8_decades 54 = .ok (.ldc2_w 260, 3) := of_decide_eq_true (List.all_eq_true.mp dA_X8_decades_0 (54, .ldc2_w 260, 3) (List.mem_of_getElem? (i := 29) rfl))
theorem dX8_decades_57 : decode cX8_decades 57 = .ok (.ladd, 1) := of_decide_eq_true (List.all_eq_true.mp dA_X8_decades_0 (57, .ladd, 1) (List.mem_of_getElem? (i := 30) rfl))
theorem dX8_decades_58 : decode cX8_decades 58 = .ok (.ldc2_w 262, 3) := of_decide_eq_true (List.all_eq_true.mp dA_X8_decades_0 (58, .ldc2_w 262, 3) (List.mem_of_getElem? (i := 31) rfl))
theorem dX8_decades_61 : decode cX8_decades 61 = .ok (.lrem, 1) := of_decide_eq_true (List.all_eq_true.mp dA_X8_decades_0 (61, .lrem, 1) (List.mem_of_getElem? (i := 32) rfl))
theorem dX8_decades_62 : decode cX8_decades 62 = .ok (.lstore_n 3, 1) := of_decide_eq_true (List.all_eq_true.mp dA_X8_decades_0 (62, .lstore_n 3, 1) (List.mem_of_getElem? (i := 33) rfl))
theorem dX8_decades_63 : decode cX8_decades 63 = .ok (.aload_n 0, 1) := of_decide_eq_true (List.all_eq_true.mp dA_X8_decades_0 (63, .aload_n 0, 1) (List.mem_of_getElem? (i := 34) rfl))
theorem dX8_decades_64 : decode cX8_decades 64 = .ok (.getfield 16, 3) := of_decide_eq_true (List.all_eq_true.mp dA_X8_decades_0 (64, .getfield 16, 3) (List.mem_of_getElem? (i := 35) rfl))
theorem dX8_decades_67 : decode cX8_decades 67 = .ok (.lload_n 3, 1) := of_decide_eq_true (List.all_eq_true.mp dA_X8_decades_0 (67, .lload_n 3, 1) (List.mem_of_getElem? (i := 36) rfl))
theorem dX8_decades_68 : decode cX8_decades 68 = .ok (.ldc2_w 264, 3) := of_decide_eq_true (List.all_eq_true.mp dA_X8_decades_0 (68, .ldc2_w 264, 3) (List.mem_of_getElem? (i := 37) rfl))
theorem dX8_decades_71 : decode cX8_decades 71 = .ok (.ldiv, 1) := of_decide_eq_true (List.all_eq_true.mp dA_X8_decades_0 (71, .ldiv, 1) (List.mem_of_getElem? (i := 38) rfl))
theorem dX8_decades_72 : decode cX8_decades 72 = .ok (.ldc2_w 266, 3) := of_decide_eq_true (List.all_eq_true.mp dA_X8_decades_0 (72, .ldc2_w 266, 3) (List.mem_of_getElem? (i := 39) rfl))
set_option maxRecDepth 20000 in
theorem dA_X8_decades_75 : (([(75, .lrem, 1), (76, .l2i, 1), (77, .invokevirtual 268, 3), (80, .iinc 5 1, 3), (83, .goto (-40), 3), (86, .aload_n 0, 1), (87, .getfield 16, 3), (90, .invokevirtual 144, 3), (93, .ireturn, 1)] : List (Nat × Instr × Nat)).all fun q => decide (decode cX8_decades q.1 = .ok (q.2.1, q.2.2))) = true := by decide +kernel
theorem dX8_decades_75 : decode cX8_decades 75 = .ok (.lrem, 1) := of_decide_eq_true (List.all_eq_true.mp dA_X8_decades_75 (75, .lrem, 1) (List.mem_of_getElem? (i := 0) rfl))
theorem dX8_decades_76 : decode cX8_decades 76 = .ok (.l2i, 1) := of_decide_eq_true (List.all_eq_true.mp dA_X8_decades_75 (76, .l2i, 1) (List.mem_of_getElem? (i := 1) rfl))
theorem dX8_decades_77 : decode cX8_decades 77 = .ok (.invokevirtual 268, 3) := of_decide_eq_true (List.all_eq_true.mp dA_X8_decades_75 (77, .invokevirtual 268, 3) (List.mem_of_getElem? (i := 2) rfl))
theorem dX8_decades_80 : decode cX8_decades 80 = .ok (.iinc 5 1, 3) := of_decide_eq_true (List.all_eq_true.mp dA_X8_decades_75 (80, .iinc 5 1, 3) (List.mem_of_getElem? (i := 3) rfl))
theorem dX8_decades_83 : decode cX8_decades 83 = .ok (.goto (-40), 3) := of_decide_eq_true (List.all_eq_true.mp dA_X8_decades_75 (83, .goto (-40), 3) (List.mem_of_getElem? (i := 4) rfl))
theorem dX8_decades_86 : decode cX8_decades 86 = .ok (.aload_n 0, 1) := of_decide_eq_true (List.all_eq_true.mp dA_X8_decades_75 (86, .aload_n 0, 1) (List.mem_of_getElem? (i := 5) rfl))
theorem dX8_decades_87 : decode cX8_decades 87 = .ok (.getfield 16, 3) := of_decide_eq_true (List.all_eq_true.mp dA_X8_decades_75 (87, .getfield 16, 3) (List.mem_of_getElem? (i := 6) rfl))
theorem dX8_decades_90 : decode cX8_decades 90 = .ok (.invokevirtual 144, 3) := of_decide_eq_true (List.all_eq_true.mp dA_X8_decades_75 (90, .invokevirtual 144, 3) (List.mem_of_getElem? (i := 7) rfl))
theorem dX8_decades_93 : decode cX8_decades 93 = .ok (.ireturn, 1) := of_decide_eq_true (List.all_eq_true.mp dA_X8_decades_75 (93, .ireturn, 1) (List.mem_of_getElem? (i := 8) rfl))
set_option maxRecDepth 20000 in
theorem ggX8_part_X8_within : GoodIn wsX8_part wsX8_within := goodIn_r _ [6] (by decide +kernel) (by decide +kernel)
set_option maxRecDepth 20000 in
theorem gX8_part_X8_within : GoodIn wsX8_part (va_wsS RX8 57 yX8_within wsX8_within) := goodIn_app (goodIn_of _ (by decide +kernel)) ggX8_part_X8_within
set_option maxRecDepth 20000 in
theorem ggX8_part_X8_bad : GoodIn wsX8_part wsX8_bad := goodIn_r _ [10, 11, 12, 13, 14, 15, 16, 17, 18, 19, 20, 21, 22, 23, 24, 25] (by decide +kernel) (by decide +kernel)
set_option maxRecDepth 20000 in
theorem gX8_part_X8_bad : GoodIn wsX8_part (wsV RX8 61 RX8 yX8_bad wsX8_bad) := goodIn_app (goodIn_of _ (by decide +kernel)) ggX8_part_X8_bad
set_option maxRecDepth 20000 in
theorem dA_X8_part_0 : (([(0, .iload_n 1, 1), (1, .iconst 0, 1), (2, .iconst 1, 1), (3, .invokestatic 57, 3), (6, .ifCond .ne 9, 3), (9, .aload_n 0, 1), (10, .invokevirtual 61, 3), (13, .i2l, 1), (14, .lreturn, 1), (15, .iload_n 1, 1), (16, .ifCond .ne 11, 3), (19, .aload_n 0, 1), (20, .getfield 46, 3), (23, .i2l, 1), (24, .goto 8, 3), (27, .aload_n 0, 1), (28, .getfield 50, 3), (31, .i2l, 1), (32, .lreturn, 1)] : List (Nat × Instr × Nat)).all fun q => decide (decode cX8_part q.1 = .ok (q.2.1, q.2.2))) = true := by decide +kernel
theorem dX8_part_0 : decode cX8_part 0 = .ok (.iload_n 1, 1) := of_decide_eq_true (List.all_eq_true.mp dA_X8_part_0 (0, .iload_n 1, 1) (List.mem_of_getElem? (i := 0) rfl))
theorem dX8_part_1 : decode cX8_part 1 = .ok (.iconst 0, 1) := of_decide_eq_true (List.all_eq_true.mp dA_X8_part_0 (1, .iconst 0, 1) (List.mem_of_getElem? (i := 1) rfl))
theorem dX8_part_2 : decode cX8_part 2 = .ok (.iconst 1, 1) := of_decide_eq_true (List.all_eq_true.mp dA_X8_part_0 (2, .iconst 1, 1) (List.mem_of_getElem? (i := 2) rfl))
theorem dX8_part_3 : decode cX8_part 3 = .ok (.invokestatic 57, 3) := of_decide_eq_true (List.all_eq_true.mp dA_X8_part_0 (3, .invokestatic 57, 3) (List.mem_of_getElem? (i := 3) rfl))
theorem dX8_part_6 : decode cX8_part 6 = .ok (.ifCond .ne 9, 3) := of_decide_eq_true (List.all_eq_true.mp dA_X8_part_0 (6, .ifCond .ne 9, 3) (List.mem_of_getElem? (i := 4) rfl))
theorem dX8_part_9 : decode cX8_part 9 = .ok (.aload_n 0, 1) := of_decide_eq_true (List.all_eq_true.mp dA_X8_part_0 (9, .aload_n 0, 1) (List.mem_of_getElem? (i := 5) rfl))
theorem dX8_part_10 : decode cX8_part 10 = .ok (.invokevirtual 61, 3) := of_decide_eq_true (List.all_eq_true.mp dA_X8_part_0 (10, .invokevirtual 61, 3) (List.mem_of_getElem? (i := 6) rfl))
theorem dX8_part_13 : decode cX8_part 13 = .ok (.i2l, 1) := of_decide_eq_true (List.all_eq_true.mp dA_X8_part_0 (13, .i2l, 1) (List.mem_of_getElem? (i := 7) rfl))
theorem dX8_part_14 : decode cX8_part 14 = .ok (.lreturn, 1) := of_decide_eq_true (List.all_eq_true.mp dA_X8_part_0 (14, .lreturn, 1) (List.mem_of_getElem? (i := 8) rfl))
theorem dX8_part_15 : decode cX8_part 15 = .ok (.iload_n 1, 1) := of_decide_eq_true (List.all_eq_true.mp dA_X8_part_0 (15, .iload_n 1, 1) (List.mem_of_getElem? (i := 9) rfl))
theorem dX8_part_16 : decode cX8_part 16 = .ok (.ifCond .ne 11, 3) := of_decide_eq_true (List.all_eq_true.mp dA_X8_part_0 (16, .ifCond .ne 11, 3) (List.mem_of_getElem? (i := 10) rfl))
theorem dX8_part_19 : decode cX8_part 19 = .ok (.aload_n 0, 1) := of_decide_eq_true (List.all_eq_true.mp dA_X8_part_0 (19, .aload_n 0, 1) (List.mem_of_getElem? (i := 11) rfl))
theorem dX8_part_20 : decode cX8_part 20 = .ok (.getfield 46, 3) := of_decide_eq_true (List.all_eq_true.mp dA_X8_part_0 (20, .getfield 46, 3) (List.mem_of_getElem? (i := 12) rfl))
theorem dX8_part_23 : decode cX8_part 23 = .ok (.i2l, 1) := of_decide_eq_true (List.all_eq_true.mp dA_X8_part_0 (23, .i2l, 1) (List.mem_of_getElem? (i := 13) rfl))
theorem dX8_part_24 : decode cX8_part 24 = .ok (.goto 8, 3) := of_decide_eq_true (List.all_eq_true.mp dA_X8_part_0 (24, .goto 8, 3) (List.mem_of_getElem? (i := 14) rfl))
theorem dX8_part_27 : decode cX8_part 27 = .ok (.aload_n 0, 1) := of_decide_eq_true (List.all_eq_true.mp dA_X8_part_0 (27, .aload_n 0, 1) (List.mem_of_getElem? (i := 15) rfl))
theorem dX8_part_28 : decode cX8_part 28 = .ok (.getfield 50, 3) := of_decide_eq_true (List.all_eq_true.mp dA_X8_part_0 (28, .getfield 50, 3) (List.mem_of_getElem? (i := 16) rfl))
theorem dX8_part_31 : decode cX8_part 31 = .ok (.i2l, 1) := of_decide_eq_true (List.all_eq_true.mp dA_X8_part_0 (31, .i2l, 1) (List.mem_of_getElem? (i := 17) rfl))
theorem dX8_part_32 : decode cX8_part 32 = .ok (.lreturn, 1) := of_decide_eq_true (List.all_eq_true.mp dA_X8_part_0 (32, .lreturn, 1) (List.mem_of_getElem? (i := 18) rfl))
set_option maxRecDepth 20000 in
theorem ggX8_image_X8_within : GoodIn wsX8_image wsX8_within := goodIn_r _ [9] (by decide +kernel) (by decide +kernel)
set_option maxRecDepth 20000 in
theorem gX8_image_X8_within : GoodIn wsX8_image (va_wsS RX8 57 yX8_within wsX8_within) := goodIn_app (goodIn_of _ (by decide +kernel)) ggX8_image_X8_within
set_option maxRecDepth 20000 in
theorem ggX8_image_X8_bad : GoodIn wsX8_image wsX8_bad := goodIn_r _ [13, 14, 50, 51, 52, 53, 54, 55, 56, 57, 58, 59, 60, 61, 62, 63] (by decide +kernel) (by decide +kernel)
set_option maxRecDepth 20000 in
theorem gX8_image_X8_bad : GoodIn wsX8_image (wsV RX8 61 RX8 yX8_bad wsX8_bad) := goodIn_app (goodIn_of _ (by decide +kernel)) ggX8_image_X8_bad
set_option maxRecDepth 20000 in
theorem ggX8_image_X1_copy : GoodIn wsX8_image wsX1_copy := goodIn_r _ [19, 20, 21, 22, 23, 24, 25, 26, 27, 28, 29, 30, 31, 32, 18, 33, 34, 35, 36, 37, 38, 39, 40, 41, 42, 43, 44, 45, 46, 47, 48, 49, 64, 65, 66, 67, 68, 69, 70, 71, 72, 73, 74, 75, 76, 77, 78] (by decide +kernel) (by decide +kernel)
set_option maxRecDepth 20000 in
theorem gX8_image_X1_copy : GoodIn wsX8_image (wsV RX8 122 RX1 yX1_copy wsX1_copy) := goodIn_app (goodIn_of _ (by decide +kernel)) ggX8_image_X1_copy
set_option maxRecDepth 20000 in
theorem dA_X8_image_0 : (([(0, .iload_n 1, 1), (1, .iconst 0, 1), (2, .iconst 1, 1), (3, .invokestatic 57, 3), (6, .ifCond .ne 8, 3), (9, .aload_n 0, 1), (10, .invokevirtual 61, 3), (13, .ireturn, 1), (14, .iload_n 1, 1), (15, .ifCond .ne 22, 3), (18, .aload_n 0, 1), (19, .getfield 19, 3), (22, .aload_n 0, 1), (23, .getfield 10, 3), (26, .invokevirtual 122, 3), (29, .aload_n 0, 1), (30, .iconst 1, 1), (31, .putfield 271, 3), (34, .goto 19, 3), (37, .aload_n 0, 1), (38, .getfield 22, 3), (41, .aload_n 0, 1), (42, .getfield 10, 3), (45, .invokevirtual 122, 3), (48, .aload_n 0, 1), (49, .iconst 1, 1), (50, .putfield 275, 3), (53, .iconst 1, 1), (54, .ireturn, 1)] : List (Nat × Instr × Nat)).all fun q => decide (decode cX8_image q.1 = .ok (q.2.1, q.2.2))) = true := by decide +kernel
theorem dX8_image_0 : decode cX8_image 0 = .ok (.iload_n 1, 1) := of_decide_eq_true (List.all_eq_true.mp dA_X8_image_0 (0, .iload_n 1, 1) (List.mem_of_getElem? (i := 0) rfl))
theorem dX8_image_1 : decode cX8_image 1 = .ok (.iconst 0, 1) := of_decide_eq_true (List.all_eq_true.mp dA_X8_image_0 (1, .iconst 0, 1) (List.mem_of_getElem? (i := 1) rfl))
theorem dX8_image_2 : decode cX8_image 2 = .ok (.iconst 1, 1) := of_decide_eq_true (List.all_eq_true.mp dA_X8_image_0 (2, .iconst 1, 1) (List.mem_of_getElem? (i := 2) rfl))
theorem dX8_image_3 : decode cX8_image 3 = .ok (.invokestatic 57, 3) := of_decide_eq_true (List.all_eq_true.mp dA_X8_image_0 (3, .invokestatic 57, 3) (List.mem_of_getElem? (i := 3) rfl))
theorem dX8_image_6 : decode cX8_image 6 = .ok (.ifCond .ne 8, 3) := of_decide_eq_true (List.all_eq_true.mp dA_X8_image_0 (6, .ifCond .ne 8, 3) (List.mem_of_getElem? (i := 4) rfl))
theorem dX8_image_9 : decode cX8_image 9 = .ok (.aload_n 0, 1) := of_decide_eq_true (List.all_eq_true.mp dA_X8_image_0 (9, .aload_n 0, 1) (List.mem_of_getElem? (i := 5) rfl))
theorem dX8_image_10 : decode cX8_image 10 = .ok (.invokevirtual 61, 3) := of_decide_eq_true (List.all_eq_true.mp dA_X8_image_0 (10, .invokevirtual 61, 3) (List.mem_of_getElem? (i := 6) rfl))
theorem dX8_image_13 : decode cX8_image 13 = .ok (.ireturn, 1) := of_decide_eq_true (List.all_eq_true.mp dA_X8_image_0 (13, .ireturn, 1) (List.mem_of_getElem? (i := 7) rfl))
theorem dX8_image_14 : decode cX8_image 14 = .ok (.iload_n 1, 1) := of_decide_eq_true (List.all_eq_true.mp dA_X8_image_0 (14, .iload_n 1, 1) (List.mem_of_getElem? (i := 8) rfl))
theorem dX8_image_15 : decode cX8_image 15 = .ok (.ifCond .ne 22, 3) := of_decide_eq_true (List.all_eq_true.mp dA_X8_image_0 (15, .ifCond .ne 22, 3) (List.mem_of_getElem? (i := 9) rfl))
theorem dX8_image_18 : decode cX8_image 18 = .ok (.aload_n 0, 1) := of_decide_eq_true (List.all_eq_true.mp dA_X8_image_0 (18, .aload_n 0, 1) (List.mem_of_getElem? (i := 10) rfl))
theorem dX8_image_19 : decode cX8_image 19 = .ok (.getfield 19, 3) := of_decide_eq_true (List.all_eq_true.mp dA_X8_image_0 (19, .getfield 19, 3) (List.mem_of_getElem? (i := 11) rfl))
theorem dX8_image_22 : decode cX8_image 22 = .ok (.aload_n 0, 1) := of_decide_eq_true (List.all_eq_true.mp dA_X8_image_0 (22, .aload_n 0, 1) (List.mem_of_getElem? (i := 12) rfl))
theorem dX8_image_23 : decode cX8_image 23 = .ok (.getfield 10, 3) := of_decide_eq_true (List.all_eq_true.mp dA_X8_image_0 (23, .getfield 10, 3) (List.mem_of_getElem? (i := 13) rfl))
theorem dX8_image_26 : decode cX8_image 26 = .ok (.invokevirtual 122, 3) := of_decide_eq_true (List.all_eq_true.mp dA_X8_image_0 (26, .invokevirtual 122, 3) (List.mem_of_getElem? (i := 14) rfl))
theorem dX8_image_29 : decode cX8_image 29 = .ok (.aload_n 0, 1) := of_decide_eq_true (List.all_eq_true.mp dA_X8_image_0 (29, .aload_n 0, 1) (List.mem_of_getElem? (i := 15) rfl))
theorem dX8_image_30 : decode cX8_image 30 = .ok (.iconst 1, 1) := of_decide_eq_true (List.all_eq_true.mp dA_X8_image_0 (30, .iconst 1, 1) (List.mem_of_getElem? (i := 16) rfl))
theorem dX8_image_31 : decode cX8_image 31 = .ok (.putfield 271, 3) := of_decide_eq_true (List.all_eq_true.mp dA_X8_image_0 (31, .putfield 271, 3) (List.mem_of_getElem? (i := 17) rfl))
theorem dX8_image_34 : decode cX8_image 34 = .ok (.goto 19, 3) := of_decide_eq_true (List.all_eq_true.mp dA_X8_image_0 (34, .goto 19, 3) (List.mem_of_getElem? (i := 18) rfl))
theorem dX8_image_37 : decode cX8_image 37 = .ok (.aload_n 0, 1) := of_decide_eq_true (List.all_eq_true.mp dA_X8_image_0 (37, .aload_n 0, 1) (List.mem_of_getElem? (i := 19) rfl))
theorem dX8_image_38 : decode cX8_image 38 = .ok (.getfield 22, 3) := of_decide_eq_true (List.all_eq_true.mp dA_X8_image_0 (38, .getfield 22, 3) (List.mem_of_getElem? (i := 20) rfl))
theorem dX8_image_41 : decode cX8_image 41 = .ok (.aload_n 0, 1) := of_decide_eq_true (List.all_eq_true.mp dA_X8_image_0 (41, .aload_n 0, 1) (List.mem_of_getElem? (i := 21) rfl))
theorem dX8_image_42 : decode cX8_image 42 = .ok (.getfield 10, 3) := of_decide_eq_true (List.all_eq_true.mp dA_X8_image_0 (42, .getfield 10, 3) (List.mem_of_getElem? (i := 22) rfl))
theorem dX8_image_45 : decode cX8_image 45 = .ok (.invokevirtual 122, 3) := of_decide_eq_true (List.all_eq_true.mp dA_X8_image_0 (45, .invokevirtual 122, 3) (List.mem_of_getElem? (i := 23) rfl))
theorem dX8_image_48 : decode cX8_image 48 = .ok (.aload_n 0, 1) := of_decide_eq_true (List.all_eq_true.mp dA_X8_image_0 (48, .aload_n 0, 1) (List.mem_of_getElem? (i := 24) rfl))
theorem dX8_image_49 : decode cX8_image 49 = .ok (.iconst 1, 1) := of_decide_eq_true (List.all_eq_true.mp dA_X8_image_0 (49, .iconst 1, 1) (List.mem_of_getElem? (i := 25) rfl))
theorem dX8_image_50 : decode cX8_image 50 = .ok (.putfield 275, 3) := of_decide_eq_true (List.all_eq_true.mp dA_X8_image_0 (50, .putfield 275, 3) (List.mem_of_getElem? (i := 26) rfl))
theorem dX8_image_53 : decode cX8_image 53 = .ok (.iconst 1, 1) := of_decide_eq_true (List.all_eq_true.mp dA_X8_image_0 (53, .iconst 1, 1) (List.mem_of_getElem? (i := 27) rfl))
theorem dX8_image_54 : decode cX8_image 54 = .ok (.ireturn, 1) := of_decide_eq_true (List.all_eq_true.mp dA_X8_image_0 (54, .ireturn, 1) (List.mem_of_getElem? (i := 28) rfl))
set_option maxRecDepth 20000 in
theorem ggX8_from_X8_within : GoodIn wsX8_from wsX8_within := goodIn_r _ [9] (by decide +kernel) (by decide +kernel)
set_option maxRecDepth 20000 in
theorem gX8_from_X8_within : GoodIn wsX8_from (va_wsS RX8 57 yX8_within wsX8_within) := goodIn_app (goodIn_of _ (by decide +kernel)) ggX8_from_X8_within
set_option maxRecDepth 20000 in
theorem ggX8_from_X8_bad : GoodIn wsX8_from wsX8_bad := goodIn_r _ [13, 14, 55, 56, 57, 58, 59, 60, 61, 62, 63, 64, 65, 66, 67, 68] (by decide +kernel) (by decide +kernel)
set_option maxRecDepth 20000 in
theorem gX8_from_X8_bad : GoodIn wsX8_from (wsV RX8 61 RX8 yX8_bad wsX8_bad) := goodIn_app (goodIn_of _ (by decide +kernel)) ggX8_from_X8_bad
set_option maxRecDepth 20000 in
theorem ggX8_from_X8_no : GoodIn wsX8_from wsX8_no := goodIn_r _ [18, 19, 55, 56, 57, 58, 59, 60, 61, 62, 63, 64, 65, 66, 67, 68] (by decide +kernel) (by decide +kernel)
set_option maxRecDepth 20000 in
theorem gX8_from_X8_no : GoodIn wsX8_from (wsV RX8 132 RX8 yX8_no wsX8_no) := goodIn_app (goodIn_of _ (by decide +kernel)) ggX8_from_X8_no
set_option maxRecDepth 20000 in
theorem ggX8_from_X1_copy : GoodIn wsX8_from wsX1_copy := goodIn_r _ [24, 25, 26, 27, 28, 29, 30, 31, 32, 33, 34, 35, 36, 37, 23, 38, 39, 40, 41, 42, 43, 44, 45, 46, 47, 48, 49, 50, 51, 52, 53, 54, 69, 70, 71, 72, 73, 74, 75, 76, 77, 78, 79, 80, 81, 82, 83] (by decide +kernel) (by decide +kernel)
set_option maxRecDepth 20000 in
theorem gX8_from_X1_copy : GoodIn wsX8_from (wsV RX8 122 RX1 yX1_copy wsX1_copy) := goodIn_app (goodIn_of _ (by decide +kernel)) ggX8_from_X1_copy
set_option maxRecDepth 20000 in
theorem dA_X8_from_0 : (([(0, .iload_n 1, 1), (1, .iconst 0, 1), (2, .iconst 1, 1), (3, .invokestatic 57, 3), (6, .ifCond .ne 8, 3), (9, .aload_n 0, 1), (10, .invokevirtual 61, 3), (13, .ireturn, 1), (14, .iload_n 1, 1), (15, .ifCond .ne 13, 3), (18, .aload_n 0, 1), (19, .getfield 271, 3), (22, .ifCond .ne 18, 3), (25, .goto 10, 3), (28, .aload_n 0, 1), (29, .getfield 275, 3), (32, .ifCond .ne 8, 3), (35, .aload_n 0, 1), (36, .invokevirtual 132, 3), (39, .ireturn, 1), (40, .aload_n 0, 1), (41, .getfield 10, 3), (44, .iload_n 1, 1), (45, .ifCond .ne 10, 3), (48, .aload_n 0, 1), (49, .getfield 19, 3), (52, .goto 7, 3), (55, .aload_n 0, 1), (56, .getfield 22, 3), (59, .invokevirtual 122, 3), (62, .iconst 1, 1), (63, .ireturn, 1)] : List (Nat × Instr × Nat)).all fun q => decide (decode cX8_from q.1 = .ok (q.2.1, q.2.2))) = true := by decide +kernel
theorem dX8_from_0 : decode cX8_from 0 = .ok (.iload_n 1, 1) := of_decide_eq_true (List.all_eq_true.mp dA_X8_from_0 (0, .iload_n 1, 1) (List.mem_of_getElem? (i := 0) rfl))
theorem dX8_from_1 : decode cX8_from 1 = .ok (.iconst 0, 1) := of_decide_eq_true (List.all_eq_true.mp dA_X8_from_0 (1, .iconst 0, 1) (List.mem_of_getElem? (i := 1) rfl))
theorem dX8_from_2 : decode cX8_from 2 = .ok (.iconst 1, 1) := of_decide_eq_true (List.all_eq_true.mp dA_X8_from_0 (2, .iconst 1, 1) (List.mem_of_getElem? (i := 2) rfl))
theorem dX8_from_3 : decode cX8_from 3 = .ok (.invokestatic 57, 3) := of_decide_eq_true (List.all_eq_true.mp dA_X8_from_0 (3, .invokestatic 57, 3) (List.mem_of_getElem? (i := 3) rfl))
theorem dX8_from_6 : decode cX8_from 6 = .ok (.ifCond .ne 8, 3) := of_decide_eq_true (List.all_eq_true.mp dA_X8_from_0 (6, .ifCond .ne 8, 3) (List.mem_of_getElem? (i := 4) rfl))
theorem dX8_from_9 : decode cX8_from 9 = .ok (.aload_n 0, 1) := of_decide_eq_true (List.all_eq_true.mp dA_X8_from_0 (9, .aload_n 0, 1) (List.mem_of_getElem? (i := 5) rfl))
theorem dX8_from_10 : decode cX8_from 10 = .ok (.invokevirtual 61, 3) := of_decide_eq_true (List.all_eq_true.mp dA_X8_from_0 (10, .invokevirtual 61, 3) (List.mem_of_getElem? (i := 6) rfl))
theorem dX8_from_13 : decode cX8_from 13 = .ok (.ireturn, 1) := of_decide_eq_true (List.all_eq_true.mp dA_X8_from_0 (13, .ireturn, 1) (List.mem_of_getElem? (i := 7) rfl))
theorem dX8_from_14 : decode cX8_from 14 = .ok (.iload_n 1, 1) := of_decide_eq_true (List.all_eq_true.mp dA_X8_from_0 (14, .iload_n 1, 1) (List.mem_of_getElem? (i := 8) rfl))
theorem dX8_from_15 : decode cX8_from 15 = .ok (.ifCond .ne 13, 3) := of_decide_eq_true (List.all_eq_true.mp dA_X8_from_0 (15, .ifCond .ne 13, 3) (List.mem_of_getElem? (i := 9) rfl))
theorem dX8_from_18 : decode cX8_from 18 = .ok (.aload_n 0, 1) := of_decide_eq_true (List.all_eq_true.mp dA_X8_from_0 (18, .aload_n 0, 1) (List.mem_of_getElem? (i := 10) rfl))
theorem dX8_from_19 : decode cX8_from 19 = .ok (.getfield 271, 3) := of_decide_eq_true (List.all_eq_true.mp dA_X8_from_0 (19, .getfield 271, 3) (List.mem_of_getElem? (i := 11) rfl))
theorem dX8_from_22 : decode cX8_from 22 = .ok (.ifCond .ne 18, 3) := of_decide_eq_true (List.all_eq_true.mp dA_X8_from_0 (22, .ifCond .ne 18, 3) (List.mem_of_getElem? (i := 12) rfl))
theorem dX8_from_25 : decode cX8_from 25 = .ok (.goto 10, 3) := of_decide_eq_true (List.all_eq_true.mp dA_X8_from_0 (25, .goto 10, 3) (List.mem_of_getElem? (i := 13) rfl))
theorem dX8_from_28 : decode cX8_from 28 = .ok (.aload_n 0, 1) := of_decide_eq_true (List.all_eq_true.mp dA_X8_from_0 (28, .aload_n 0, 1) (List.mem_of_getElem? (i := 14) rfl))
theorem dX8_from_29 : decode cX8_from 29 = .ok (.getfield 275, 3) := of_decide_eq_true (List.all_eq_true.mp dA_X8_from_0 (29, .getfield 275, 3) (List.mem_of_getElem? (i := 15) rfl))
theorem dX8_from_32 : decode cX8_from 32 = .ok (.ifCond .ne 8, 3) := of_decide_eq_true (List.all_eq_true.mp dA_X8_from_0 (32, .ifCond .ne 8, 3) (List.mem_of_getElem? (i := 16) rfl))
theorem dX8_from_35 : decode cX8_from 35 = .ok (.aload_n 0, 1) := of_decide_eq_true (List.all_eq_true.mp dA_X8_from_0 (35, .aload_n 0, 1) (List.mem_of_getElem? (i := 17) rfl))
theorem dX8_from_36 : decode cX8_from 36 = .ok (.invokevirtual 132, 3) := of_decide_eq_true (List.all_eq_true.mp dA_X8_from_0 (36, .invokevirtual 132, 3) (List.mem_of_getElem? (i := 18) rfl))
theorem dX8_from_39 : decode cX8_from 39 = .ok (.ireturn, 1) := of_decide_eq_true (List.all_eq_true.mp dA_X8_from_0 (39, .ireturn, 1) (List.mem_of_getElem? (i := 19) rfl))
theorem dX8_from_40 : decode cX8_from 40 = .ok (.aload_n 0, 1) := of_decide_eq_true (List.all_eq_true.mp dA_X8_from_0 (40, .aload_n 0, 1) (List.mem_of_getElem? (i := 20) rfl))
theorem dX8_from_41 : decode cX8_from 41 = .ok (.getfield 10, 3) := of_decide_eq_true (List.all_eq_true.mp dA_X8_from_0 (41, .getfield 10, 3) (List.mem_of_getElem? (i := 21) rfl))
theorem dX8_from_44 : decode cX8_from 44 = .ok (.iload_n 1, 1) := of_decide_eq_true (List.all_eq_true.mp dA_X8_from_0 (44, .iload_n 1, 1) (List.mem_of_getElem? (i := 22) rfl))
theorem dX8_from_45 : decode cX8_from 45 = .ok (.ifCond .ne 10, 3) := of_decide_eq_true (List.all_eq_true.mp dA_X8_from_0 (45, .ifCond .ne 10, 3) (List.mem_of_getElem? (i := 23) rfl))
theorem dX8_from_48 : decode cX8_from 48 = .ok (.aload_n 0, 1) := of_decide_eq_true (List.all_eq_true.mp dA_X8_from_0 (48, .aload_n 0, 1) (List.mem_of_getElem? (i := 24) rfl))
theorem dX8_from_49 : decode cX8_from 49 = .ok (.getfield 19, 3) := of_decide_eq_true (List.all_eq_true.mp dA_X8_from_0 (49, .getfield 19, 3) (List.mem_of_getElem? (i := 25) rfl))
theorem dX8_from_52 : decode cX8_from 52 = .ok (.goto 7, 3) := of_decide_eq_true (List.all_eq_true.mp dA_X8_from_0 (52, .goto 7, 3) (List.mem_of_getElem? (i := 26) rfl))
theorem dX8_from_55 : decode cX8_from 55 = .ok (.aload_n 0, 1) := of_decide_eq_true (List.all_eq_true.mp dA_X8_from_0 (55, .aload_n 0, 1) (List.mem_of_getElem? (i := 27) rfl))
theorem dX8_from_56 : decode cX8_from 56 = .ok (.getfield 22, 3) := of_decide_eq_true (List.all_eq_true.mp dA_X8_from_0 (56, .getfield 22, 3) (List.mem_of_getElem? (i := 28) rfl))
theorem dX8_from_59 : decode cX8_from 59 = .ok (.invokevirtual 122, 3) := of_decide_eq_true (List.all_eq_true.mp dA_X8_from_0 (59, .invokevirtual 122, 3) (List.mem_of_getElem? (i := 29) rfl))
theorem dX8_from_62 : decode cX8_from 62 = .ok (.iconst 1, 1) := of_decide_eq_true (List.all_eq_true.mp dA_X8_from_0 (62, .iconst 1, 1) (List.mem_of_getElem? (i := 30) rfl))
theorem dX8_from_63 : decode cX8_from 63 = .ok (.ireturn, 1) := of_decide_eq_true (List.all_eq_true.mp dA_X8_from_0 (63, .ireturn, 1) (List.mem_of_getElem? (i := 31) rfl))
set_option maxRecDepth 20000 in
theorem ggX8_status_X8_bad : GoodIn wsX8_status wsX8_bad := goodIn_r _ [8, 1, 9, 10, 11, 12, 13, 14, 15, 16, 17, 18, 19, 20, 21, 22] (by decide +kernel) (by decide +kernel)
set_option maxRecDepth 20000 in
theorem gX8_status_X8_bad : GoodIn wsX8_status (wsV RX8 61 RX8 yX8_bad wsX8_bad) := goodIn_app (goodIn_of _ (by decide +kernel)) ggX8_status_X8_bad
set_option maxRecDepth 20000 in
theorem dA_X8_status_0 : (([(0, .iload_n 1, 1), (1, .tableswitch 42 0 2 #[27, 32, 37], 27), (28, .aload_n 0, 1), (29, .getfield 278, 3), (32, .ireturn, 1), (33, .aload_n 0, 1), (34, .getfield 281, 3), (37, .ireturn, 1), (38, .aload_n 0, 1), (39, .getfield 284, 3), (42, .ireturn, 1), (43, .aload_n 0, 1), (44, .invokevirtual 61, 3), (47, .pop, 1), (48, .iconst (-1), 1), (49, .ireturn, 1)] : List (Nat × Instr × Nat)).all fun q => decide (decode cX8_status q.1 = .ok (q.2.1, q.2.2))) = true := by decide +kernel
theorem dX8_status_0 : decode cX8_status 0 = .ok (.iload_n 1, 1) := of_decide_eq_true (List.all_eq_true.mp dA_X8_status_0 (0, .iload_n 1, 1) (List.mem_of_getElem? (i := 0) rfl))
theorem dX8_status_1 : decode cX8_status 1 = .ok (.tableswitch 42 0 2 #[27, 32, 37], 27) := of_decide_eq_true (List.all_eq_true.mp dA_X8_status_0 (1, .tableswitch 42 0 2 #[27, 32, 37], 27) (List.mem_of_getElem? (i := 1) rfl))
theorem dX8_status_28 : decode cX8_status 28 = .ok (.aload_n 0, 1) := of_decide_eq_true (List.all_eq_true.mp dA_X8_status_0 (28, .aload_n 0, 1) (List.mem_of_getElem? (i := 2) rfl))
theorem dX8_status_29 : decode cX8_status 29 = .ok (.getfield 278, 3) := of_decide_eq_true (List.all_eq_true.mp dA_X8_status_0 (29, .getfield 278, 3) (List.mem_of_getElem? (i := 3) rfl))
theorem dX8_status_32 : decode cX8_status 32 = .ok (.ireturn, 1) := of_decide_eq_true (List.all_eq_true.mp dA_X8_status_0 (32, .ireturn, 1) (List.mem_of_getElem? (i := 4) rfl))
theorem dX8_status_33 : decode cX8_status 33 = .ok (.aload_n 0, 1) := of_decide_eq_true (List.all_eq_true.mp dA_X8_status_0 (33, .aload_n 0, 1) (List.mem_of_getElem? (i := 5) rfl))
theorem dX8_status_34 : decode cX8_status 34 = .ok (.getfield 281, 3) := of_decide_eq_true (List.all_eq_true.mp dA_X8_status_0 (34, .getfield 281, 3) (List.mem_of_getElem? (i := 6) rfl))
theorem dX8_status_37 : decode cX8_status 37 = .ok (.ireturn, 1) := of_decide_eq_true (List.all_eq_true.mp dA_X8_status_0 (37, .ireturn, 1) (List.mem_of_getElem? (i := 7) rfl))
theorem dX8_status_38 : decode cX8_status 38 = .ok (.aload_n 0, 1) := of_decide_eq_true (List.all_eq_true.mp dA_X8_status_0 (38, .aload_n 0, 1) (List.mem_of_getElem? (i := 8) rfl))
theorem dX8_status_39 : decode cX8_status 39 = .ok (.getfield 284, 3) := of_decide_eq_true (List.all_eq_true.mp dA_X8_status_0 (39, .getfield 284, 3) (List.mem_of_getElem? (i := 9) rfl))
theorem dX8_status_42 : decode cX8_status 42 = .ok (.ireturn, 1) := of_decide_eq_true (List.all_eq_true.mp dA_X8_status_0 (42, .ireturn, 1) (List.mem_of_getElem? (i := 10) rfl))
theorem dX8_status_43 : decode cX8_status 43 = .ok (.aload_n 0, 1) := of_decide_eq_true (List.all_eq_true.mp dA_X8_status_0 (43, .aload_n 0, 1) (List.mem_of_getElem? (i := 11) rfl))
theorem dX8_status_44 : decode cX8_status 44 = .ok (.invokevirtual 61, 3) := of_decide_eq_true (List.all_eq_true.mp dA_X8_status_0 (44, .invokevirtual 61, 3) (List.mem_of_getElem? (i := 12) rfl))
theorem dX8_status_47 : decode cX8_status 47 = .ok (.pop, 1) := of_decide_eq_true (List.all_eq_true.mp dA_X8_status_0 (47, .pop, 1) (List.mem_of_getElem? (i := 13) rfl))
theorem dX8_status_48 : decode cX8_status 48 = .ok (.iconst (-1), 1) := of_decide_eq_true (List.all_eq_true.mp dA_X8_status_0 (48, .iconst (-1), 1) (List.mem_of_getElem? (i := 14) rfl))
theorem dX8_status_49 : decode cX8_status 49 = .ok (.ireturn, 1) := of_decide_eq_true (List.all_eq_true.mp dA_X8_status_0 (49, .ireturn, 1) (List.mem_of_getElem? (i := 15) rfl))
set_option maxRecDepth 20000 in
theorem ggX8_count_X8_within : GoodIn wsX8_count wsX8_within := goodIn_r _ [4] (by decide +kernel) (by decide +kernel)
set_option maxRecDepth 20000 in
theorem gX8_count_X8_within : GoodIn wsX8_count (va_wsS RX8 57 yX8_within wsX8_within) := goodIn_app (goodIn_of _ (by decide +kernel)) ggX8_count_X8_within
set_option maxRecDepth 20000 in
theorem ggX8_count_X8_counted : GoodIn wsX8_count wsX8_counted := goodIn_r _ [8, 9, 10, 11, 12, 13, 14, 15, 16, 17, 18, 19, 20, 21, 22, 23, 24, 25, 26, 27, 28, 29, 35, 36, 37, 38, 39, 40, 41, 42, 43, 44, 45, 46, 47, 48, 49, 50, 51, 52, 53, 54, 55, 56, 57, 58, 59, 60, 61, 62, 63, 64, 65, 66, 67, 68, 69] (by decide +kernel) (by decide +kernel)
set_option maxRecDepth 20000 in
theorem gX8_count_X8_counted : GoodIn wsX8_count (wsV RX8 287 RX8 yX8_counted wsX8_counted) := goodIn_app (goodIn_of _ (by decide +kernel)) ggX8_count_X8_counted
set_option maxRecDepth 20000 in
theorem ggX8_count_X8_bad : GoodIn wsX8_count wsX8_bad := goodIn_r _ [33, 34, 35, 36, 37, 38, 39, 40, 41, 42, 43, 44, 45, 46, 47, 48] (by decide +kernel) (by decide +kernel)
set_option maxRecDepth 20000 in
theorem gX8_count_X8_bad : GoodIn wsX8_count (wsV RX8 61 RX8 yX8_bad wsX8_bad) := goodIn_app (goodIn_of _ (by decide +kernel)) ggX8_count_X8_bad
set_option maxRecDepth 20000 in
theorem dA_X8_count_0 : (([(0, .iload_n 1, 1), (1, .iconst 0, 1), (2, .bipush 8, 2), (4, .invokestatic 57, 3), (7, .ifCond .eq 11, 3), (10, .aload_n 0, 1), (11, .iload_n 1, 1), (12, .invokevirtual 287, 3), (15, .goto 7, 3), (18, .aload_n 0, 1), (19, .invokevirtual 61, 3), (22, .ireturn, 1)] : List (Nat × Instr × Nat)).all fun q => decide (decode cX8_count q.1 = .ok (q.2.1, q.2.2))) = true := by decide +kernel
theorem dX8_count_0 : decode cX8_count 0 = .ok (.iload_n 1, 1) := of_decide_eq_true (List.all_eq_true.mp dA_X8_count_0 (0, .iload_n 1, 1) (List.mem_of_getElem? (i := 0) rfl))
theorem dX8_count_1 : decode cX8_count 1 = .ok (.iconst 0, 1) := of_decide_eq_true (List.all_eq_true.mp dA_X8_count_0 (1, .iconst 0, 1) (List.mem_of_getElem? (i := 1) rfl))
theorem dX8_count_2 : decode cX8_count 2 = .ok (.bipush 8, 2) := of_decide_eq_true (List.all_eq_true.mp dA_X8_count_0 (2, .bipush 8, 2) (List.mem_of_getElem? (i := 2) rfl))
theorem dX8_count_4 : decode cX8_count 4 = .ok (.invokestatic 57, 3) := of_decide_eq_true (List.all_eq_true.mp dA_X8_count_0 (4, .invokestatic 57, 3) (List.mem_of_getElem? (i := 3) rfl))
theorem dX8_count_7 : decode cX8_count 7 = .ok (.ifCond .eq 11, 3) := of_decide_eq_true (List.all_eq_true.mp dA_X8_count_0 (7, .ifCond .eq 11, 3) (List.mem_of_getElem? (i := 4) rfl))
theorem dX8_count_10 : decode cX8_count 10 = .ok (.aload_n 0, 1) := of_decide_eq_true (List.all_eq_true.mp dA_X8_count_0 (10, .aload_n 0, 1) (List.mem_of_getElem? (i := 5) rfl))
theorem dX8_count_11 : decode cX8_count 11 = .ok (.iload_n 1, 1) := of_decide_eq_true (List.all_eq_true.mp dA_X8_count_0 (11, .iload_n 1, 1) (List.mem_of_getElem? (i := 6) rfl))
theorem dX8_count_12 : decode cX8_count 12 = .ok (.invokevirtual 287, 3) := of_decide_eq_true (List.all_eq_true.mp dA_X8_count_0 (12, .invokevirtual 287, 3) (List.mem_of_getElem? (i := 7) rfl))
theorem dX8_count_15 : decode cX8_count 15 = .ok (.goto 7, 3) := of_decide_eq_true (List.all_eq_true.mp dA_X8_count_0 (15, .goto 7, 3) (List.mem_of_getElem? (i := 8) rfl))
theorem dX8_count_18 : decode cX8_count 18 = .ok (.aload_n 0, 1) := of_decide_eq_true (List.all_eq_true.mp dA_X8_count_0 (18, .aload_n 0, 1) (List.mem_of_getElem? (i := 9) rfl))
theorem dX8_count_19 : decode cX8_count 19 = .ok (.invokevirtual 61, 3) := of_decide_eq_true (List.all_eq_true.mp dA_X8_count_0 (19, .invokevirtual 61, 3) (List.mem_of_getElem? (i := 10) rfl))
theorem dX8_count_22 : decode cX8_count 22 = .ok (.ireturn, 1) := of_decide_eq_true (List.all_eq_true.mp dA_X8_count_0 (22, .ireturn, 1) (List.mem_of_getElem? (i := 11) rfl))
set_option maxRecDepth 20000 in
theorem ggX8_digest_X8_counted : GoodIn wsX8_digest wsX8_counted := goodIn_r _ [10, 3, 11, 12, 13, 14, 15, 16, 17, 18, 19, 20, 21, 22, 23, 24, 25, 26, 27, 28, 29, 30, 61, 62, 63, 64, 65, 66, 67, 68, 69, 70, 71, 72, 73, 74, 75, 76, 77, 78, 79, 80, 81, 82, 83, 84, 85, 86, 87, 88, 89, 90, 91, 92, 93, 94, 95] (by decide +kernel) (by decide +kernel)
set_option maxRecDepth 20000 in
theorem gX8_digest_X8_counted : GoodIn wsX8_digest (wsV RX8 287 RX8 yX8_counted wsX8_counted) := goodIn_app (goodIn_of _ (by decide +kernel)) ggX8_digest_X8_counted
set_option maxRecDepth 20000 in
theorem ggX8_digest_X8_standing : GoodIn wsX8_digest wsX8_standing := goodIn_r _ [34, 3, 35, 36, 37, 15, 38, 39, 40, 41, 42, 43, 44, 45, 46, 47, 48, 49, 50, 51, 52, 53, 54, 61, 62, 63, 64, 65, 66, 67, 68, 69, 70, 71, 72, 73, 74, 75, 76, 77, 78, 79, 80, 81, 82, 83, 84, 85] (by decide +kernel) (by decide +kernel)
set_option maxRecDepth 20000 in
theorem gX8_digest_X8_standing : GoodIn wsX8_digest (wsV RX8 166 RX8 yX8_standing wsX8_standing) := goodIn_app (goodIn_of _ (by decide +kernel)) ggX8_digest_X8_standing
set_option maxRecDepth 20000 in
theorem ggX8_digest_X1_wetOf : GoodIn wsX8_digest wsX1_wetOf := goodIn_r _ [45, 46, 75, 76, 77, 78, 79, 80, 81, 82, 83, 84, 85] (by decide +kernel) (by decide +kernel)
set_option maxRecDepth 20000 in
theorem gX8_digest_X1_wetOf : GoodIn wsX8_digest (wsV RX8 87 RX1 yX1_wetOf wsX1_wetOf) := goodIn_app (goodIn_of _ (by decide +kernel)) ggX8_digest_X1_wetOf
set_option maxRecDepth 20000 in
theorem ggX8_digest_X5_digestOn : GoodIn wsX8_digest wsX5_digestOn := goodIn_r _ [59, 23, 28, 60, 24, 25, 26, 21, 27, 29, 86, 87, 88, 89] (by decide +kernel) (by decide +kernel)
set_option maxRecDepth 20000 in
theorem gX8_digest_X5_digestOn : GoodIn wsX8_digest (wsV RX8 294 RX5 yX5_digestOn wsX5_digestOn) := goodIn_app (goodIn_of _ (by decide +kernel)) ggX8_digest_X5_digestOn
set_option maxRecDepth 20000 in
theorem dA_X8_digest_0 : (([(0, .ldc2_w 290, 3), (3, .lstore_n 1, 1), (4, .iconst 0, 1), (5, .istore_n 3, 1), (6, .iload_n 3, 1), (7, .bipush 9, 2), (9, .if_icmp .ge 22, 3), (12, .ldc2_w 292, 3), (15, .lload_n 1, 1), (16, .lmul, 1), (17, .aload_n 0, 1), (18, .iload_n 3, 1), (19, .invokevirtual 287, 3), (22, .i2l, 1), (23, .ladd, 1), (24, .lstore_n 1, 1), (25, .iinc 3 1, 3), (28, .goto (-22), 3), (31, .iconst 0, 1), (32, .istore_n 3, 1), (33, .iload_n 3, 1), (34, .iconst 3, 1), (35, .if_icmp .gt 22, 3), (38, .ldc2_w 292, 3), (41, .lload_n 1, 1), (42, .lmul, 1), (43, .aload_n 0, 1), (44, .iload_n 3, 1), (45, .invokevirtual 166, 3), (48, .i2l, 1), (49, .ladd, 1), (50, .lstore_n 1, 1), (51, .iinc 3 1, 3), (54, .goto (-21), 3), (57, .iconst 0, 1), (58, .istore_n 3, 1), (59, .iload_n 3, 1), (60, .bipush 6, 2), (62, .if_icmp .ge 25, 3), (65, .ldc2_w 292, 3)] : List (Nat × Instr × Nat)).all fun q => decide (decode cX8_digest q.1 = .ok (q.2.1, q.2.2))) = true := by decide +kernel
theorem dX8_digest_0 : decode cX8_digest 0 = .ok (.ldc2_w 290, 3) := of_decide_eq_true (List.all_eq_true.mp dA_X8_digest_0 (0, .ldc2_w 290, 3) (List.mem_of_getElem? (i := 0) rfl))
theorem dX8_digest_3 : decode cX8_digest 3 = .ok (.lstore_n 1, 1) := of_decide_eq_true (List.all_eq_true.mp dA_X8_digest_0 (3, .lstore_n 1, 1) (List.mem_of_getElem? (i := 1) rfl))
theorem dX8_digest_4 : decode cX8_digest 4 = .ok (.iconst 0, 1) := of_decide_eq_true (List.all_eq_true.mp dA_X8_digest_0 (4, .iconst 0, 1) (List.mem_of_getElem? (i := 2) rfl))
theorem dX8_digest_5 : decode cX8_digest 5 = .ok (.istore_n 3, 1) := of_decide_eq_true (List.all_eq_true.mp dA_X8_digest_0 (5, .istore_n 3, 1) (List.mem_of_getElem? (i := 3) rfl))
theorem dX8_digest_6 : decode cX8_digest 6 = .ok (.iload_n 3, 1) := of_decide_eq_true (List.all_eq_true.mp dA_X8_digest_0 (6, .iload_n 3, 1) (List.mem_of_getElem? (i := 4) rfl))
theorem dX8_digest_7 : decode cX8_digest 7 = .ok (.bipush 9, 2) := of_decide_eq_true (List.all_eq_true.mp dA_X8_digest_0 (7, .bipush 9, 2) (List.mem_of_getElem? (i := 5) rfl))
theorem dX8_digest_9 : decode cX8_digest 9 = .ok (.if_icmp .ge 22, 3) := of_decide_eq_true (List.all_eq_true.mp dA_X8_digest_0 (9, .if_icmp .ge 22, 3) (List.mem_of_getElem? (i := 6) rfl))
theorem dX8_digest_12 : decode cX8_digest 12 = .ok (.ldc2_w 292, 3) := of_decide_eq_true (List.all_eq_true.mp dA_X8_digest_0 (12, .ldc2_w 292, 3) (List.mem_of_getElem? (i := 7) rfl))
theorem dX8_digest_15 : decode cX8_digest 15 = .ok (.lload_n 1, 1) := of_decide_eq_true (List.all_eq_true.mp dA_X8_digest_0 (15, .lload_n 1, 1) (List.mem_of_getElem? (i := 8) rfl))
theorem dX8_digest_16 : decode cX8_digest 16 = .ok (.lmul, 1) := of_decide_eq_true (List.all_eq_true.mp dA_X8_digest_0 (16, .lmul, 1) (List.mem_of_getElem? (i := 9) rfl))
theorem dX8_digest_17 : decode cX8_digest 17 = .ok (.aload_n 0, 1) := of_decide_eq_true (List.all_eq_true.mp dA_X8_digest_0 (17, .aload_n 0, 1) (List.mem_of_getElem? (i := 10) rfl))
theorem dX8_digest_18 : decode cX8_digest 18 = .ok (.iload_n 3, 1) := of_decide_eq_true (List.all_eq_true.mp dA_X8_digest_0 (18, .iload_n 3, 1) (List.mem_of_getElem? (i := 11) rfl))
theorem dX8_digest_19 : decode cX8_digest 19 = .ok (.invokevirtual 287, 3) := of_decide_eq_true (List.all_eq_true.mp dA_X8_digest_0 (19, .invokevirtual 287, 3) (List.mem_of_getElem? (i := 12) rfl))
theorem dX8_digest_22 : decode cX8_digest 22 = .ok (.i2l, 1) := of_decide_eq_true (List.all_eq_true.mp dA_X8_digest_0 (22, .i2l, 1) (List.mem_of_getElem? (i := 13) rfl))
theorem dX8_digest_23 : decode cX8_digest 23 = .ok (.ladd, 1) := of_decide_eq_true (List.all_eq_true.mp dA_X8_digest_0 (23, .ladd, 1) (List.mem_of_getElem? (i := 14) rfl))
theorem dX8_digest_24 : decode cX8_digest 24 = .ok (.lstore_n 1, 1) := of_decide_eq_true (List.all_eq_true.mp dA_X8_digest_0 (24, .lstore_n 1, 1) (List.mem_of_getElem? (i := 15) rfl))
theorem dX8_digest_25 : decode cX8_digest 25 = .ok (.iinc 3 1, 3) := of_decide_eq_true (List.all_eq_true.mp dA_X8_digest_0 (25, .iinc 3 1, 3) (List.mem_of_getElem? (i := 16) rfl))
theorem dX8_digest_28 : decode cX8_digest 28 = .ok (.goto (-22), 3) := of_decide_eq_true (List.all_eq_true.mp dA_X8_digest_0 (28, .goto (-22), 3) (List.mem_of_getElem? (i := 17) rfl))
theorem dX8_digest_31 : decode cX8_digest 31 = .ok (.iconst 0, 1) := of_decide_eq_true (List.all_eq_true.mp dA_X8_digest_0 (31, .iconst 0, 1) (List.mem_of_getElem? (i := 18) rfl))
theorem dX8_digest_32 : decode cX8_digest 32 = .ok (.istore_n 3, 1) := of_decide_eq_true (List.all_eq_true.mp dA_X8_digest_0 (32, .istore_n 3, 1) (List.mem_of_getElem? (i := 19) rfl))
theorem dX8_digest_33 : decode cX8_digest 33 = .ok (.iload_n 3, 1) := of_decide_eq_true (List.all_eq_true.mp dA_X8_digest_0 (33, .iload_n 3, 1) (List.mem_of_getElem? (i := 20) rfl))
theorem dX8_digest_34 : decode cX8_digest 34 = .ok (.iconst 3, 1) := of_decide_eq_true (List.all_eq_true.mp dA_X8_digest_0 (34, .iconst 3, 1) (List.mem_of_getElem? (i := 21) rfl))
theorem dX8_digest_35 : decode cX8_digest 35 = .ok (.if_icmp .gt 22, 3) := of_decide_eq_true (List.all_eq_true.mp dA_X8_digest_0 (35, .if_icmp .gt 22, 3) (List.mem_of_getElem? (i := 22) rfl))
theorem dX8_digest_38 : decode cX8_digest 38 = .ok (.ldc2_w 292, 3) := of_decide_eq_true (List.all_eq_true.mp dA_X8_digest_0 (38, .ldc2_w 292, 3) (List.mem_of_getElem? (i := 23) rfl))
theorem dX8_digest_41 : decode cX8_digest 41 = .ok (.lload_n 1, 1) := of_decide_eq_true (List.all_eq_true.mp dA_X8_digest_0 (41, .lload_n 1, 1) (List.mem_of_getElem? (i := 24) rfl))
theorem dX8_digest_42 : decode cX8_digest 42 = .ok (.lmul, 1) := of_decide_eq_true (List.all_eq_true.mp dA_X8_digest_0 (42, .lmul, 1) (List.mem_of_getElem? (i := 25) rfl))
theorem dX8_digest_43 : decode cX8_digest 43 = .ok (.aload_n 0, 1) := of_decide_eq_true (List.all_eq_true.mp dA_X8_digest_0 (43, .aload_n 0, 1) (List.mem_of_getElem? (i := 26) rfl))
theorem dX8_digest_44 : decode cX8_digest 44 = .ok (.iload_n 3, 1) := of_decide_eq_true (List.all_eq_true.mp dA_X8_digest_0 (44, .iload_n 3, 1) (List.mem_of_getElem? (i := 27) rfl))
theorem dX8_digest_45 : decode cX8_digest 45 = .ok (.invokevirtual 166, 3) := of_decide_eq_true (List.all_eq_true.mp dA_X8_digest_0 (45, .invokevirtual 166, 3) (List.mem_of_getElem? (i := 28) rfl))
theorem dX8_digest_48 : decode cX8_digest 48 = .ok (.i2l, 1) := of_decide_eq_true (List.all_eq_true.mp dA_X8_digest_0 (48, .i2l, 1) (List.mem_of_getElem? (i := 29) rfl))
theorem dX8_digest_49 : decode cX8_digest 49 = .ok (.ladd, 1) := of_decide_eq_true (List.all_eq_true.mp dA_X8_digest_0 (49, .ladd, 1) (List.mem_of_getElem? (i := 30) rfl))
theorem dX8_digest_50 : decode cX8_digest 50 = .ok (.lstore_n 1, 1) := of_decide_eq_true (List.all_eq_true.mp dA_X8_digest_0 (50, .lstore_n 1, 1) (List.mem_of_getElem? (i := 31) rfl))
theorem dX8_digest_51 : decode cX8_digest 51 = .ok (.iinc 3 1, 3) := of_decide_eq_true (List.all_eq_true.mp dA_X8_digest_0 (51, .iinc 3 1, 3) (List.mem_of_getElem? (i := 32) rfl))
theorem dX8_digest_54 : decode cX8_digest 54 = .ok (.goto (-21), 3) := of_decide_eq_true (List.all_eq_true.mp dA_X8_digest_0 (54, .goto (-21), 3) (List.mem_of_getElem? (i := 33) rfl))
theorem dX8_digest_57 : decode cX8_digest 57 = .ok (.iconst 0, 1) := of_decide_eq_true (List.all_eq_true.mp dA_X8_digest_0 (57, .iconst 0, 1) (List.mem_of_getElem? (i := 34) rfl))
theorem dX8_digest_58 : decode cX8_digest 58 = .ok (.istore_n 3, 1) := of_decide_eq_true (List.all_eq_true.mp dA_X8_digest_0 (58, .istore_n 3, 1) (List.mem_of_getElem? (i := 35) rfl))
theorem dX8_digest_59 : decode cX8_digest 59 = .ok (.iload_n 3, 1) := of_decide_eq_true (List.all_eq_true.mp dA_X8_digest_0 (59, .iload_n 3, 1) (List.mem_of_getElem? (i := 36) rfl))
theorem dX8_digest_60 : decode cX8_digest 60 = .ok (.bipush 6, 2) := of_decide_eq_true (List.all_eq_true.mp dA_X8_digest_0 (60, .bipush 6, 2) (List.mem_of_getElem? (i := 37) rfl))
theorem dX8_digest_62 : decode cX8_digest 62 = .ok (.if_icmp .ge 25, 3) := of_decide_eq_true (List.all_eq_true.mp dA_X8_digest_0 (62, .if_icmp .ge 25, 3) (List.mem_of_getElem? (i := 38) rfl))
theorem dX8_digest_65 : decode cX8_digest 65 = .ok (.ldc2_w 292, 3) := of_decide_eq_true (List.all_eq_true.mp dA_X8_digest_0 (65, .ldc2_w 292, 3) (List.mem_of_getElem? (i := 39) rfl))
set_option maxRecDepth 20000 in
theorem dA_X8_digest_68 : (([(68, .lload_n 1, 1), (69, .lmul, 1), (70, .aload_n 0, 1), (71, .getfield 10, 3), (74, .iload_n 3, 1), (75, .invokevirtual 87, 3), (78, .i2l, 1), (79, .ladd, 1), (80, .lstore_n 1, 1), (81, .iinc 3 1, 3), (84, .goto (-25), 3), (87, .aload_n 0, 1), (88, .getfield 10, 3), (91, .getfield 65, 3), (94, .lload_n 1, 1), (95, .invokevirtual 294, 3), (98, .lstore_n 1, 1), (99, .aload_n 0, 1), (100, .getfield 10, 3), (103, .getfield 204, 3), (106, .lload_n 1, 1), (107, .invokevirtual 294, 3), (110, .lstore_n 1, 1), (111, .aload_n 0, 1), (112, .getfield 10, 3), (115, .getfield 229, 3), (118, .lload_n 1, 1), (119, .invokevirtual 294, 3), (122, .lstore_n 1, 1), (123, .aload_n 0, 1), (124, .getfield 10, 3), (127, .getfield 232, 3), (130, .lload_n 1, 1), (131, .invokevirtual 294, 3), (134, .lstore_n 1, 1), (135, .ldc2_w 292, 3), (138, .lload_n 1, 1), (139, .lmul, 1), (140, .aload_n 0, 1), (141, .getfield 46, 3)] : List (Nat × Instr × Nat)).all fun q => decide (decode cX8_digest q.1 = .ok (q.2.1, q.2.2))) = true := by decide +kernel
theorem dX8_digest_68 : decode cX8_digest 68 = .ok (.lload_n 1, 1) := of_decide_eq_true (List.all_eq_true.mp dA_X8_digest_68 (68, .lload_n 1, 1) (List.mem_of_getElem? (i := 0) rfl))
theorem dX8_digest_69 : decode cX8_digest 69 = .ok (.lmul, 1) := of_decide_eq_true (List.all_eq_true.mp dA_X8_digest_68 (69, .lmul, 1) (List.mem_of_getElem? (i := 1) rfl))
theorem dX8_digest_70 : decode cX8_digest 70 = .ok (.aload_n 0, 1) := of_decide_eq_true (List.all_eq_true.mp dA_X8_digest_68 (70, .aload_n 0, 1) (List.mem_of_getElem? (i := 2) rfl))
theorem dX8_digest_71 : decode cX8_digest 71 = .ok (.getfield 10, 3) := of_decide_eq_true (List.all_eq_true.mp dA_X8_digest_68 (71, .getfield 10, 3) (List.mem_of_getElem? (i := 3) rfl))
theorem dX8_digest_74 : decode cX8_digest 74 = .ok (.iload_n 3, 1) := of_decide_eq_true (List.all_eq_true.mp dA_X8_digest_68 (74, .iload_n 3, 1) (List.mem_of_getElem? (i := 4) rfl))
theorem dX8_digest_75 : decode cX8_digest 75 = .ok (.invokevirtual 87, 3) := of_decide_eq_true (List.all_eq_true.mp dA_X8_digest_68 (75, .invokevirtual 87, 3) (List.mem_of_getElem? (i := 5) rfl))
theorem dX8_digest_78 : decode cX8_digest 78 = .ok (.i2l, 1) := of_decide_eq_true (List.all_eq_true.mp dA_X8_digest_68 (78, .i2l, 1) (List.mem_of_getElem? (i := 6) rfl))
theorem dX8_digest_79 : decode cX8_digest 79 = .ok (.ladd, 1) := of_decide_eq_true (List.all_eq_true.mp dA_X8_digest_68 (79, .ladd, 1) (List.mem_of_getElem? (i := 7) rfl))
theorem dX8_digest_80 : decode cX8_digest 80 = .ok (.lstore_n 1, 1) := of_decide_eq_true (List.all_eq_true.mp dA_X8_digest_68 (80, .lstore_n 1, 1) (List.mem_of_getElem? (i := 8) rfl))
theorem dX8_digest_81 : decode cX8_digest 81 = .ok (.iinc 3 1, 3) := of_decide_eq_true (List.all_eq_true.mp dA_X8_digest_68 (81, .iinc 3 1, 3) (List.mem_of_getElem? (i := 9) rfl))
theorem dX8_digest_84 : decode cX8_digest 84 = .ok (.goto (-25), 3) := of_decide_eq_true (List.all_eq_true.mp dA_X8_digest_68 (84, .goto (-25), 3) (List.mem_of_getElem? (i := 10) rfl))
theorem dX8_digest_87 : decode cX8_digest 87 = .ok (.aload_n 0, 1) := of_decide_eq_true (List.all_eq_true.mp dA_X8_digest_68 (87, .aload_n 0, 1) (List.mem_of_getElem? (i := 11) rfl))
theorem dX8_digest_88 : decode cX8_digest 88 = .ok (.getfield 10, 3) := of_decide_eq_true (List.all_eq_true.mp dA_X8_digest_68 (88, .getfield 10, 3) (List.mem_of_getElem? (i := 12) rfl))
theorem dX8_digest_91 : decode cX8_digest 91 = .ok (.getfield 65, 3) := of_decide_eq_true (List.all_eq_true.mp dA_X8_digest_68 (91, .getfield 65, 3) (List.mem_of_getElem? (i := 13) rfl))
theorem dX8_digest_94 : decode cX8_digest 94 = .ok (.lload_n 1, 1) := of_decide_eq_true (List.all_eq_true.mp dA_X8_digest_68 (94, .lload_n 1, 1) (List.mem_of_getElem? (i := 14) rfl))
theorem dX8_digest_95 : decode cX8_digest 95 = .ok (.invokevirtual 294, 3) := of_decide_eq_true (List.all_eq_true.mp dA_X8_digest_68 (95, .invokevirtual 294, 3) (List.mem_of_getElem? (i := 15) rfl))
theorem dX8_digest_98 : decode cX8_digest 98 = .ok (.lstore_n 1, 1) := of_decide_eq_true (List.all_eq_true.mp dA_X8_digest_68 (98, .lstore_n 1, 1) (List.mem_of_getElem? (i := 16) rfl))
theorem dX8_digest_99 : decode cX8_digest 99 = .ok (.aload_n 0, 1) := of_decide_eq_true (List.all_eq_true.mp dA_X8_digest_68 (99, .aload_n 0, 1) (List.mem_of_getElem? (i := 17) rfl))
theorem dX8_digest_100 : decode cX8_digest 100 = .ok (.getfield 10, 3) := of_decide_eq_true (List.all_eq_true.mp dA_X8_digest_68 (100, .getfield 10, 3) (List.mem_of_getElem? (i := 18) rfl))
theorem dX8_digest_103 : decode cX8_digest 103 = .ok (.getfield 204, 3) := of_decide_eq_true (List.all_eq_true.mp dA_X8_digest_68 (103, .getfield 204, 3) (List.mem_of_getElem? (i := 19) rfl))
theorem dX8_digest_106 : decode cX8_digest 106 = .ok (.lload_n 1, 1) := of_decide_eq_true (List.all_eq_true.mp dA_X8_digest_68 (106, .lload_n 1, 1) (List.mem_of_getElem? (i := 20) rfl))
theorem dX8_digest_107 : decode cX8_digest 107 = .ok (.invokevirtual 294, 3) := of_decide_eq_true (List.all_eq_true.mp dA_X8_digest_68 (107, .invokevirtual 294, 3) (List.mem_of_getElem? (i := 21) rfl))
theorem dX8_digest_110 : decode cX8_digest 110 = .ok (.lstore_n 1, 1) := of_decide_eq_true (List.all_eq_true.mp dA_X8_digest_68 (110, .lstore_n 1, 1) (List.mem_of_getElem? (i := 22) rfl))
theorem dX8_digest_111 : decode cX8_digest 111 = .ok (.aload_n 0, 1) := of_decide_eq_true (List.all_eq_true.mp dA_X8_digest_68 (111, .aload_n 0, 1) (List.mem_of_getElem? (i := 23) rfl))
theorem dX8_digest_112 : decode cX8_digest 112 = .ok (.getfield 10, 3) := of_decide_eq_true (List.all_eq_true.mp dA_X8_digest_68 (112, .getfield 10, 3) (List.mem_of_getElem? (i := 24) rfl))
theorem dX8_digest_115 : decode cX8_digest 115 = .ok (.getfield 229, 3) := of_decide_eq_true (List.all_eq_true.mp dA_X8_digest_68 (115, .getfield 229, 3) (List.mem_of_getElem? (i := 25) rfl))
theorem dX8_digest_118 : decode cX8_digest 118 = .ok (.lload_n 1, 1) := of_decide_eq_true (List.all_eq_true.mp dA_X8_digest_68 (118, .lload_n 1, 1) (List.mem_of_getElem? (i := 26) rfl))
theorem dX8_digest_119 : decode cX8_digest 119 = .ok (.invokevirtual 294, 3) := of_decide_eq_true (List.all_eq_true.mp dA_X8_digest_68 (119, .invokevirtual 294, 3) (List.mem_of_getElem? (i := 27) rfl))
theorem dX8_digest_122 : decode cX8_digest 122 = .ok (.lstore_n 1, 1) := of_decide_eq_true (List.all_eq_true.mp dA_X8_digest_68 (122, .lstore_n 1, 1) (List.mem_of_getElem? (i := 28) rfl))
theorem dX8_digest_123 : decode cX8_digest 123 = .ok (.aload_n 0, 1) := of_decide_eq_true (List.all_eq_true.mp dA_X8_digest_68 (123, .aload_n 0, 1) (List.mem_of_getElem? (i := 29) rfl))
theorem dX8_digest_124 : decode cX8_digest 124 = .ok (.getfield 10, 3) := of_decide_eq_true (List.all_eq_true.mp dA_X8_digest_68 (124, .getfield 10, 3) (List.mem_of_getElem? (i := 30) rfl))
theorem dX8_digest_127 : decode cX8_digest 127 = .ok (.getfield 232, 3) := of_decide_eq_true (List.all_eq_true.mp dA_X8_digest_68 (127, .getfield 232, 3) (List.mem_of_getElem? (i := 31) rfl))
theorem dX8_digest_130 : decode cX8_digest 130 = .ok (.lload_n 1, 1) := of_decide_eq_true (List.all_eq_true.mp dA_X8_digest_68 (130, .lload_n 1, 1) (List.mem_of_getElem? (i := 32) rfl))
theorem dX8_digest_131 : decode cX8_digest 131 = .ok (.invokevirtual 294, 3) := of_decide_eq_true (List.all_eq_true.mp dA_X8_digest_68 (131, .invokevirtual 294, 3) (List.mem_of_getElem? (i := 33) rfl))
theorem dX8_digest_134 : decode cX8_digest 134 = .ok (.lstore_n 1, 1) := of_decide_eq_true (List.all_eq_true.mp dA_X8_digest_68 (134, .lstore_n 1, 1) (List.mem_of_getElem? (i := 34) rfl))
theorem dX8_digest_135 : decode cX8_digest 135 = .ok (.ldc2_w 292, 3) := of_decide_eq_true (List.all_eq_true.mp dA_X8_digest_68 (135, .ldc2_w 292, 3) (List.mem_of_getElem? (i := 35) rfl))
theorem dX8_digest_138 : decode cX8_digest 138 = .ok (.lload_n 1, 1) := of_decide_eq_true (List.all_eq_true.mp dA_X8_digest_68 (138, .lload_n 1, 1) (List.mem_of_getElem? (i := 36) rfl))
theorem dX8_digest_139 : decode cX8_digest 139 = .ok (.lmul, 1) := of_decide_eq_true (List.all_eq_true.mp dA_X8_digest_68 (139, .lmul, 1) (List.mem_of_getElem? (i := 37) rfl))
theorem dX8_digest_140 : decode cX8_digest 140 = .ok (.aload_n 0, 1) := of_decide_eq_true (List.all_eq_true.mp dA_X8_digest_68 (140, .aload_n 0, 1) (List.mem_of_getElem? (i := 38) rfl))
theorem dX8_digest_141 : decode cX8_digest 141 = .ok (.getfield 46, 3) := of_decide_eq_true (List.all_eq_true.mp dA_X8_digest_68 (141, .getfield 46, 3) (List.mem_of_getElem? (i := 39) rfl))
set_option maxRecDepth 20000 in
theorem dA_X8_digest_144 : (([(144, .i2l, 1), (145, .ladd, 1), (146, .lstore_n 1, 1), (147, .ldc2_w 292, 3), (150, .lload_n 1, 1), (151, .lmul, 1), (152, .aload_n 0, 1), (153, .getfield 50, 3), (156, .i2l, 1), (157, .ladd, 1), (158, .lreturn, 1)] : List (Nat × Instr × Nat)).all fun q => decide (decode cX8_digest q.1 = .ok (q.2.1, q.2.2))) = true := by decide +kernel
theorem dX8_digest_144 : decode cX8_digest 144 = .ok (.i2l, 1) := of_decide_eq_true (List.all_eq_true.mp dA_X8_digest_144 (144, .i2l, 1) (List.mem_of_getElem? (i := 0) rfl))
theorem dX8_digest_145 : decode cX8_digest 145 = .ok (.ladd, 1) := of_decide_eq_true (List.all_eq_true.mp dA_X8_digest_144 (145, .ladd, 1) (List.mem_of_getElem? (i := 1) rfl))
theorem dX8_digest_146 : decode cX8_digest 146 = .ok (.lstore_n 1, 1) := of_decide_eq_true (List.all_eq_true.mp dA_X8_digest_144 (146, .lstore_n 1, 1) (List.mem_of_getElem? (i := 2) rfl))
theorem dX8_digest_147 : decode cX8_digest 147 = .ok (.ldc2_w 292, 3) := of_decide_eq_true (List.all_eq_true.mp dA_X8_digest_144 (147, .ldc2_w 292, 3) (List.mem_of_getElem? (i := 3) rfl))
theorem dX8_digest_150 : decode cX8_digest 150 = .ok (.lload_n 1, 1) := of_decide_eq_true (List.all_eq_true.mp dA_X8_digest_144 (150, .lload_n 1, 1) (List.mem_of_getElem? (i := 4) rfl))
theorem dX8_digest_151 : decode cX8_digest 151 = .ok (.lmul, 1) := of_decide_eq_true (List.all_eq_true.mp dA_X8_digest_144 (151, .lmul, 1) (List.mem_of_getElem? (i := 5) rfl))
theorem dX8_digest_152 : decode cX8_digest 152 = .ok (.aload_n 0, 1) := of_decide_eq_true (List.all_eq_true.mp dA_X8_digest_144 (152, .aload_n 0, 1) (List.mem_of_getElem? (i := 6) rfl))
theorem dX8_digest_153 : decode cX8_digest 153 = .ok (.getfield 50, 3) := of_decide_eq_true (List.all_eq_true.mp dA_X8_digest_144 (153, .getfield 50, 3) (List.mem_of_getElem? (i := 7) rfl))
theorem dX8_digest_156 : decode cX8_digest 156 = .ok (.i2l, 1) := of_decide_eq_true (List.all_eq_true.mp dA_X8_digest_144 (156, .i2l, 1) (List.mem_of_getElem? (i := 8) rfl))
theorem dX8_digest_157 : decode cX8_digest 157 = .ok (.ladd, 1) := of_decide_eq_true (List.all_eq_true.mp dA_X8_digest_144 (157, .ladd, 1) (List.mem_of_getElem? (i := 9) rfl))
theorem dX8_digest_158 : decode cX8_digest 158 = .ok (.lreturn, 1) := of_decide_eq_true (List.all_eq_true.mp dA_X8_digest_144 (158, .lreturn, 1) (List.mem_of_getElem? (i := 10) rfl))
set_option maxRecDepth 20000 in
theorem dA_X8_bad_0 : (([(0, .aload_n 0, 1), (1, .dup, 1), (2, .getfield 278, 3), (5, .iconst 1, 1), (6, .iadd, 1), (7, .putfield 278, 3), (10, .bipush (-2), 2), (12, .ireturn, 1)] : List (Nat × Instr × Nat)).all fun q => decide (decode cX8_bad q.1 = .ok (q.2.1, q.2.2))) = true := by decide +kernel
theorem dX8_bad_0 : decode cX8_bad 0 = .ok (.aload_n 0, 1) := of_decide_eq_true (List.all_eq_true.mp dA_X8_bad_0 (0, .aload_n 0, 1) (List.mem_of_getElem? (i := 0) rfl))
theorem dX8_bad_1 : decode cX8_bad 1 = .ok (.dup, 1) := of_decide_eq_true (List.all_eq_true.mp dA_X8_bad_0 (1, .dup, 1) (List.mem_of_getElem? (i := 1) rfl))
theorem dX8_bad_2 : decode cX8_bad 2 = .ok (.getfield 278, 3) := of_decide_eq_true (List.all_eq_true.mp dA_X8_bad_0 (2, .getfield 278, 3) (List.mem_of_getElem? (i := 2) rfl))
theorem dX8_bad_5 : decode cX8_bad 5 = .ok (.iconst 1, 1) := of_decide_eq_true (List.all_eq_true.mp dA_X8_bad_0 (5, .iconst 1, 1) (List.mem_of_getElem? (i := 3) rfl))
theorem dX8_bad_6 : decode cX8_bad 6 = .ok (.iadd, 1) := of_decide_eq_true (List.all_eq_true.mp dA_X8_bad_0 (6, .iadd, 1) (List.mem_of_getElem? (i := 4) rfl))
theorem dX8_bad_7 : decode cX8_bad 7 = .ok (.putfield 278, 3) := of_decide_eq_true (List.all_eq_true.mp dA_X8_bad_0 (7, .putfield 278, 3) (List.mem_of_getElem? (i := 5) rfl))
theorem dX8_bad_10 : decode cX8_bad 10 = .ok (.bipush (-2), 2) := of_decide_eq_true (List.all_eq_true.mp dA_X8_bad_0 (10, .bipush (-2), 2) (List.mem_of_getElem? (i := 6) rfl))
theorem dX8_bad_12 : decode cX8_bad 12 = .ok (.ireturn, 1) := of_decide_eq_true (List.all_eq_true.mp dA_X8_bad_0 (12, .ireturn, 1) (List.mem_of_getElem? (i := 7) rfl))
set_option maxRecDepth 20000 in
theorem dA_X8_no_0 : (([(0, .aload_n 0, 1), (1, .dup, 1), (2, .getfield 281, 3), (5, .iconst 1, 1), (6, .iadd, 1), (7, .putfield 281, 3), (10, .bipush (-3), 2), (12, .ireturn, 1)] : List (Nat × Instr × Nat)).all fun q => decide (decode cX8_no q.1 = .ok (q.2.1, q.2.2))) = true := by decide +kernel
theorem dX8_no_0 : decode cX8_no 0 = .ok (.aload_n 0, 1) := of_decide_eq_true (List.all_eq_true.mp dA_X8_no_0 (0, .aload_n 0, 1) (List.mem_of_getElem? (i := 0) rfl))
theorem dX8_no_1 : decode cX8_no 1 = .ok (.dup, 1) := of_decide_eq_true (List.all_eq_true.mp dA_X8_no_0 (1, .dup, 1) (List.mem_of_getElem? (i := 1) rfl))
theorem dX8_no_2 : decode cX8_no 2 = .ok (.getfield 281, 3) := of_decide_eq_true (List.all_eq_true.mp dA_X8_no_0 (2, .getfield 281, 3) (List.mem_of_getElem? (i := 2) rfl))
theorem dX8_no_5 : decode cX8_no 5 = .ok (.iconst 1, 1) := of_decide_eq_true (List.all_eq_true.mp dA_X8_no_0 (5, .iconst 1, 1) (List.mem_of_getElem? (i := 3) rfl))
theorem dX8_no_6 : decode cX8_no 6 = .ok (.iadd, 1) := of_decide_eq_true (List.all_eq_true.mp dA_X8_no_0 (6, .iadd, 1) (List.mem_of_getElem? (i := 4) rfl))
theorem dX8_no_7 : decode cX8_no 7 = .ok (.putfield 281, 3) := of_decide_eq_true (List.all_eq_true.mp dA_X8_no_0 (7, .putfield 281, 3) (List.mem_of_getElem? (i := 5) rfl))
theorem dX8_no_10 : decode cX8_no 10 = .ok (.bipush (-3), 2) := of_decide_eq_true (List.all_eq_true.mp dA_X8_no_0 (10, .bipush (-3), 2) (List.mem_of_getElem? (i := 6) rfl))
theorem dX8_no_12 : decode cX8_no 12 = .ok (.ireturn, 1) := of_decide_eq_true (List.all_eq_true.mp dA_X8_no_0 (12, .ireturn, 1) (List.mem_of_getElem? (i := 7) rfl))
set_option maxRecDepth 20000 in
theorem dA_X8_full_0 : (([(0, .aload_n 0, 1), (1, .dup, 1), (2, .getfield 284, 3), (5, .iconst 1, 1), (6, .iadd, 1), (7, .putfield 284, 3), (10, .bipush (-4), 2), (12, .ireturn, 1)] : List (Nat × Instr × Nat)).all fun q => decide (decode cX8_full q.1 = .ok (q.2.1, q.2.2))) = true := by decide +kernel
theorem dX8_full_0 : decode cX8_full 0 = .ok (.aload_n 0, 1) := of_decide_eq_true (List.all_eq_true.mp dA_X8_full_0 (0, .aload_n 0, 1) (List.mem_of_getElem? (i := 0) rfl))
theorem dX8_full_1 : decode cX8_full 1 = .ok (.dup, 1) := of_decide_eq_true (List.all_eq_true.mp dA_X8_full_0 (1, .dup, 1) (List.mem_of_getElem? (i := 1) rfl))
theorem dX8_full_2 : decode cX8_full 2 = .ok (.getfield 284, 3) := of_decide_eq_true (List.all_eq_true.mp dA_X8_full_0 (2, .getfield 284, 3) (List.mem_of_getElem? (i := 2) rfl))
theorem dX8_full_5 : decode cX8_full 5 = .ok (.iconst 1, 1) := of_decide_eq_true (List.all_eq_true.mp dA_X8_full_0 (5, .iconst 1, 1) (List.mem_of_getElem? (i := 3) rfl))
theorem dX8_full_6 : decode cX8_full 6 = .ok (.iadd, 1) := of_decide_eq_true (List.all_eq_true.mp dA_X8_full_0 (6, .iadd, 1) (List.mem_of_getElem? (i := 4) rfl))
theorem dX8_full_7 : decode cX8_full 7 = .ok (.putfield 284, 3) := of_decide_eq_true (List.all_eq_true.mp dA_X8_full_0 (7, .putfield 284, 3) (List.mem_of_getElem? (i := 5) rfl))
theorem dX8_full_10 : decode cX8_full 10 = .ok (.bipush (-4), 2) := of_decide_eq_true (List.all_eq_true.mp dA_X8_full_0 (10, .bipush (-4), 2) (List.mem_of_getElem? (i := 6) rfl))
theorem dX8_full_12 : decode cX8_full 12 = .ok (.ireturn, 1) := of_decide_eq_true (List.all_eq_true.mp dA_X8_full_0 (12, .ireturn, 1) (List.mem_of_getElem? (i := 7) rfl))
set_option maxRecDepth 20000 in
theorem ggX8_standing_X1_letsNow : GoodIn wsX8_standing wsX1_letsNow := goodIn_r _ [6, 7, 8, 9, 10, 11, 12, 5, 13, 14, 15, 16, 17, 18, 37, 38, 39, 40, 41, 42, 43, 44, 45, 46, 47] (by decide +kernel) (by decide +kernel)
set_option maxRecDepth 20000 in
theorem gX8_standing_X1_letsNow : GoodIn wsX8_standing (wsV RX8 189 RX1 yX1_letsNow wsX1_letsNow) := goodIn_app (goodIn_of _ (by decide +kernel)) ggX8_standing_X1_letsNow
set_option maxRecDepth 20000 in
theorem ggX8_standing_X1_wetNow : GoodIn wsX8_standing wsX1_wetNow := goodIn_r _ [22, 8, 10, 11, 12, 5, 13, 14, 37, 38, 39, 40, 41, 42, 43, 44, 45, 46, 47] (by decide +kernel) (by decide +kernel)
set_option maxRecDepth 20000 in
theorem gX8_standing_X1_wetNow : GoodIn wsX8_standing (wsV RX8 169 RX1 yX1_wetNow wsX1_wetNow) := goodIn_app (goodIn_of _ (by decide +kernel)) ggX8_standing_X1_wetNow
set_option maxRecDepth 20000 in
theorem dA_X8_standing_0 : (([(0, .iload_n 1, 1), (1, .tableswitch 75 0 4 #[35, 43, 51, 59, 67], 35), (36, .aload_n 0, 1), (37, .getfield 10, 3), (40, .getfield 78, 3), (43, .ireturn, 1), (44, .aload_n 0, 1), (45, .getfield 10, 3), (48, .getfield 298, 3), (51, .ireturn, 1), (52, .aload_n 0, 1), (53, .getfield 10, 3), (56, .getfield 179, 3), (59, .ireturn, 1), (60, .aload_n 0, 1), (61, .getfield 10, 3), (64, .getfield 301, 3), (67, .ireturn, 1), (68, .aload_n 0, 1), (69, .getfield 10, 3), (72, .invokevirtual 189, 3), (75, .ireturn, 1), (76, .aload_n 0, 1), (77, .getfield 10, 3), (80, .invokevirtual 169, 3), (83, .ireturn, 1)] : List (Nat × Instr × Nat)).all fun q => decide (decode cX8_standing q.1 = .ok (q.2.1, q.2.2))) = true := by decide +kernel
theorem dX8_standing_0 : decode cX8_standing 0 = .ok (.iload_n 1, 1) := of_decide_eq_true (List.all_eq_true.mp dA_X8_standing_0 (0, .iload_n 1, 1) (List.mem_of_getElem? (i := 0) rfl))
theorem dX8_standing_1 : decode cX8_standing 1 = .ok (.tableswitch 75 0 4 #[35, 43, 51, 59, 67], 35) := of_decide_eq_true (List.all_eq_true.mp dA_X8_standing_0 (1, .tableswitch 75 0 4 #[35, 43, 51, 59, 67], 35) (List.mem_of_getElem? (i := 1) rfl))
theorem dX8_standing_36 : decode cX8_standing 36 = .ok (.aload_n 0, 1) := of_decide_eq_true (List.all_eq_true.mp dA_X8_standing_0 (36, .aload_n 0, 1) (List.mem_of_getElem? (i := 2) rfl))
theorem dX8_standing_37 : decode cX8_standing 37 = .ok (.getfield 10, 3) := of_decide_eq_true (List.all_eq_true.mp dA_X8_standing_0 (37, .getfield 10, 3) (List.mem_of_getElem? (i := 3) rfl))
theorem dX8_standing_40 : decode cX8_standing 40 = .ok (.getfield 78, 3) := of_decide_eq_true (List.all_eq_true.mp dA_X8_standing_0 (40, .getfield 78, 3) (List.mem_of_getElem? (i := 4) rfl))
theorem dX8_standing_43 : decode cX8_standing 43 = .ok (.ireturn, 1) := of_decide_eq_true (List.all_eq_true.mp dA_X8_standing_0 (43, .ireturn, 1) (List.mem_of_getElem? (i := 5) rfl))
theorem dX8_standing_44 : decode cX8_standing 44 = .ok (.aload_n 0, 1) := of_decide_eq_true (List.all_eq_true.mp dA_X8_standing_0 (44, .aload_n 0, 1) (List.mem_of_getElem? (i := 6) rfl))
theorem dX8_standing_45 : decode cX8_standing 45 = .ok (.getfield 10, 3) := of_decide_eq_true (List.all_eq_true.mp dA_X8_standing_0 (45, .getfield 10, 3) (List.mem_of_getElem? (i := 7) rfl))
theorem dX8_standing_48 : decode cX8_standing 48 = .ok (.getfield 298, 3) := of_decide_eq_true (List.all_eq_true.mp dA_X8_standing_0 (48, .getfield 298, 3) (List.mem_of_getElem? (i := 8) rfl))
theorem dX8_standing_51 : decode cX8_standing 51 = .ok (.ireturn, 1) := of_decide_eq_true (List.all_eq_true.mp dA_X8_standing_0 (51, .ireturn, 1) (List.mem_of_getElem? (i := 9) rfl))
theorem dX8_standing_52 : decode cX8_standing 52 = .ok (.aload_n 0, 1) := of_decide_eq_true (List.all_eq_true.mp dA_X8_standing_0 (52, .aload_n 0, 1) (List.mem_of_getElem? (i := 10) rfl))
theorem dX8_standing_53 : decode cX8_standing 53 = .ok (.getfield 10, 3) := of_decide_eq_true (List.all_eq_true.mp dA_X8_standing_0 (53, .getfield 10, 3) (List.mem_of_getElem? (i := 11) rfl))
theorem dX8_standing_56 : decode cX8_standing 56 = .ok (.getfield 179, 3) := of_decide_eq_true (List.all_eq_true.mp dA_X8_standing_0 (56, .getfield 179, 3) (List.mem_of_getElem? (i := 12) rfl))
theorem dX8_standing_59 : decode cX8_standing 59 = .ok (.ireturn, 1) := of_decide_eq_true (List.all_eq_true.mp dA_X8_standing_0 (59, .ireturn, 1) (List.mem_of_getElem? (i := 13) rfl))
theorem dX8_standing_60 : decode cX8_standing 60 = .ok (.aload_n 0, 1) := of_decide_eq_true (List.all_eq_true.mp dA_X8_standing_0 (60, .aload_n 0, 1) (List.mem_of_getElem? (i := 14) rfl))
theorem dX8_standing_61 : decode cX8_standing 61 = .ok (.getfield 10, 3) := of_decide_eq_true (List.all_eq_true.mp dA_X8_standing_0 (61, .getfield 10, 3) (List.mem_of_getElem? (i := 15) rfl))
theorem dX8_standing_64 : decode cX8_standing 64 = .ok (.getfield 301, 3) := of_decide_eq_true (List.all_eq_true.mp dA_X8_standing_0 (64, .getfield 301, 3) (List.mem_of_getElem? (i := 16) rfl))
theorem dX8_standing_67 : decode cX8_standing 67 = .ok (.ireturn, 1) := of_decide_eq_true (List.all_eq_true.mp dA_X8_standing_0 (67, .ireturn, 1) (List.mem_of_getElem? (i := 17) rfl))
theorem dX8_standing_68 : decode cX8_standing 68 = .ok (.aload_n 0, 1) := of_decide_eq_true (List.all_eq_true.mp dA_X8_standing_0 (68, .aload_n 0, 1) (List.mem_of_getElem? (i := 18) rfl))
theorem dX8_standing_69 : decode cX8_standing 69 = .ok (.getfield 10, 3) := of_decide_eq_true (List.all_eq_true.mp dA_X8_standing_0 (69, .getfield 10, 3) (List.mem_of_getElem? (i := 19) rfl))
theorem dX8_standing_72 : decode cX8_standing 72 = .ok (.invokevirtual 189, 3) := of_decide_eq_true (List.all_eq_true.mp dA_X8_standing_0 (72, .invokevirtual 189, 3) (List.mem_of_getElem? (i := 20) rfl))
theorem dX8_standing_75 : decode cX8_standing 75 = .ok (.ireturn, 1) := of_decide_eq_true (List.all_eq_true.mp dA_X8_standing_0 (75, .ireturn, 1) (List.mem_of_getElem? (i := 21) rfl))
theorem dX8_standing_76 : decode cX8_standing 76 = .ok (.aload_n 0, 1) := of_decide_eq_true (List.all_eq_true.mp dA_X8_standing_0 (76, .aload_n 0, 1) (List.mem_of_getElem? (i := 22) rfl))
theorem dX8_standing_77 : decode cX8_standing 77 = .ok (.getfield 10, 3) := of_decide_eq_true (List.all_eq_true.mp dA_X8_standing_0 (77, .getfield 10, 3) (List.mem_of_getElem? (i := 23) rfl))
theorem dX8_standing_80 : decode cX8_standing 80 = .ok (.invokevirtual 169, 3) := of_decide_eq_true (List.all_eq_true.mp dA_X8_standing_0 (80, .invokevirtual 169, 3) (List.mem_of_getElem? (i := 24) rfl))
theorem dX8_standing_83 : decode cX8_standing 83 = .ok (.ireturn, 1) := of_decide_eq_true (List.all_eq_true.mp dA_X8_standing_0 (83, .ireturn, 1) (List.mem_of_getElem? (i := 25) rfl))
set_option maxRecDepth 20000 in
theorem ggX8_counted_X1_howManyIn : GoodIn wsX8_counted wsX1_howManyIn := goodIn_r _ [7, 8, 9, 10, 11, 12, 13, 14, 15, 16, 17, 18, 19, 20, 36, 37, 38, 39, 40, 41, 42, 43, 44, 45, 46, 47, 48, 49, 50] (by decide +kernel) (by decide +kernel)
set_option maxRecDepth 20000 in
theorem gX8_counted_X1_howManyIn : GoodIn wsX8_counted (wsV RX8 144 RX1 yX1_howManyIn wsX1_howManyIn) := goodIn_app (goodIn_of _ (by decide +kernel)) ggX8_counted_X1_howManyIn
set_option maxRecDepth 20000 in
theorem ggX8_counted_X5_sum : GoodIn wsX8_counted wsX5_sum := goodIn_r _ [13, 14, 15, 16, 17, 12, 18, 19, 20, 47, 48, 49, 50] (by decide +kernel) (by decide +kernel)
set_option maxRecDepth 20000 in
theorem gX8_counted_X5_sum : GoodIn wsX8_counted (wsV RX8 304 RX5 yX5_sum wsX5_sum) := goodIn_app (goodIn_of _ (by decide +kernel)) ggX8_counted_X5_sum
set_option maxRecDepth 20000 in
theorem dA_X8_counted_0 : (([(0, .iload_n 1, 1), (1, .tableswitch 130 0 7 #[47, 58, 66, 74, 86, 97, 108, 119], 47), (48, .aload_n 0, 1)] : List (Nat × Instr × Nat)).all fun q => decide (decode cX8_counted q.1 = .ok (q.2.1, q.2.2))) = true := by decide +kernel
theorem dX8_counted_0 : decode cX8_counted 0 = .ok (.iload_n 1, 1) := of_decide_eq_true (List.all_eq_true.mp dA_X8_counted_0 (0, .iload_n 1, 1) (List.mem_of_getElem? (i := 0) rfl))
theorem dX8_counted_1 : decode cX8_counted 1 = .ok (.tableswitch 130 0 7 #[47, 58, 66, 74, 86, 97, 108, 119], 47) := of_decide_eq_true (List.all_eq_true.mp dA_X8_counted_0 (1, .tableswitch 130 0 7 #[47, 58, 66, 74, 86, 97, 108, 119], 47) (List.mem_of_getElem? (i := 1) rfl))
theorem dX8_counted_48 : decode cX8_counted 48 = .ok (.aload_n 0, 1) := of_decide_eq_true (List.all_eq_true.mp dA_X8_counted_0 (48, .aload_n 0, 1) (List.mem_of_getElem? (i := 2) rfl))
