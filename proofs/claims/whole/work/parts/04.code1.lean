set_option maxRecDepth 20000 in
theorem ggX0_pairsThatRest_X0_toGuest : GoodIn wsX0_pairsThatRest wsX0_toGuest := goodIn_r _ [4] (by decide +kernel) (by decide +kernel)
set_option maxRecDepth 20000 in
theorem gX0_pairsThatRest_X0_toGuest : GoodIn wsX0_pairsThatRest (va_wsS RX0 9 yX0_toGuest wsX0_toGuest) := goodIn_app (goodIn_of _ (by decide +kernel)) ggX0_pairsThatRest_X0_toGuest
set_option maxRecDepth 20000 in
theorem ggX0_pairsThatRest_X0_toHost : GoodIn wsX0_pairsThatRest wsX0_toHost := goodIn_r _ [7] (by decide +kernel) (by decide +kernel)
set_option maxRecDepth 20000 in
theorem gX0_pairsThatRest_X0_toHost : GoodIn wsX0_pairsThatRest (va_wsS RX0 13 yX0_toHost wsX0_toHost) := goodIn_app (goodIn_of _ (by decide +kernel)) ggX0_pairsThatRest_X0_toHost
set_option maxRecDepth 20000 in
theorem dA_X0_pairsThatRest_0 : (([(0, .iconst 0, 1), (1, .istore_n 1, 1), (2, .iconst 0, 1), (3, .istore_n 2, 1), (4, .iload_n 2, 1), (5, .iconst 4, 1), (6, .if_icmp .ge 67, 3), (9, .iload_n 2, 1), (10, .iload_n 0, 1), (11, .invokestatic 9, 3), (14, .iload_n 2, 1), (15, .iconst 1, 1), (16, .ixor, 1), (17, .iload_n 0, 1), (18, .invokestatic 9, 3), (21, .if_icmp .lt 7, 3), (24, .iconst 1, 1), (25, .goto 4, 3), (28, .iconst 0, 1), (29, .istore_n 3, 1), (30, .iload_n 2, 1), (31, .iload_n 0, 1), (32, .invokestatic 13, 3), (35, .iload_n 2, 1), (36, .iconst 2, 1), (37, .ixor, 1), (38, .iload_n 0, 1), (39, .invokestatic 13, 3), (42, .if_icmp .lt 7, 3), (45, .iconst 1, 1), (46, .goto 4, 3), (49, .iconst 0, 1), (50, .istore 4, 2), (52, .iload_n 3, 1), (53, .ifCond .eq 14, 3), (56, .iload 4, 2), (58, .ifCond .eq 9, 3), (61, .iload_n 1, 1), (62, .iconst 1, 1), (63, .iload_n 2, 1)] : List (Nat × Instr × Nat)).all fun q => decide (decode cX0_pairsThatRest q.1 = .ok (q.2.1, q.2.2))) = true := by decide +kernel
theorem dX0_pairsThatRest_0 : decode cX0_pairsThatRest 0 = .ok (.iconst 0, 1) := of_decide_eq_true (List.all_eq_true.mp dA_X0_pairsThatRest_0 (0, .iconst 0, 1) (List.mem_of_getElem? (i := 0) rfl))
theorem dX0_pairsThatRest_1 : decode cX0_pairsThatRest 1 = .ok (.istore_n 1, 1) := of_decide_eq_true (List.all_eq_true.mp dA_X0_pairsThatRest_0 (1, .istore_n 1, 1) (List.mem_of_getElem? (i := 1) rfl))
theorem dX0_pairsThatRest_2 : decode cX0_pairsThatRest 2 = .ok (.iconst 0, 1) := of_decide_eq_true (List.all_eq_true.mp dA_X0_pairsThatRest_0 (2, .iconst 0, 1) (List.mem_of_getElem? (i := 2) rfl))
theorem dX0_pairsThatRest_3 : decode cX0_pairsThatRest 3 = .ok (.istore_n 2, 1) := of_decide_eq_true (List.all_eq_true.mp dA_X0_pairsThatRest_0 (3, .istore_n 2, 1) (List.mem_of_getElem? (i := 3) rfl))
theorem dX0_pairsThatRest_4 : decode cX0_pairsThatRest 4 = .ok (.iload_n 2, 1) := of_decide_eq_true (List.all_eq_true.mp dA_X0_pairsThatRest_0 (4, .iload_n 2, 1) (List.mem_of_getElem? (i := 4) rfl))
theorem dX0_pairsThatRest_5 : decode cX0_pairsThatRest 5 = .ok (.iconst 4, 1) := of_decide_eq_true (List.all_eq_true.mp dA_X0_pairsThatRest_0 (5, .iconst 4, 1) (List.mem_of_getElem? (i := 5) rfl))
theorem dX0_pairsThatRest_6 : decode cX0_pairsThatRest 6 = .ok (.if_icmp .ge 67, 3) := of_decide_eq_true (List.all_eq_true.mp dA_X0_pairsThatRest_0 (6, .if_icmp .ge 67, 3) (List.mem_of_getElem? (i := 6) rfl))
theorem dX0_pairsThatRest_9 : decode cX0_pairsThatRest 9 = .ok (.iload_n 2, 1) := of_decide_eq_true (List.all_eq_true.mp dA_X0_pairsThatRest_0 (9, .iload_n 2, 1) (List.mem_of_getElem? (i := 7) rfl))
theorem dX0_pairsThatRest_10 : decode cX0_pairsThatRest 10 = .ok (.iload_n 0, 1) := of_decide_eq_true (List.all_eq_true.mp dA_X0_pairsThatRest_0 (10, .iload_n 0, 1) (List.mem_of_getElem? (i := 8) rfl))
theorem dX0_pairsThatRest_11 : decode cX0_pairsThatRest 11 = .ok (.invokestatic 9, 3) := of_decide_eq_true (List.all_eq_true.mp dA_X0_pairsThatRest_0 (11, .invokestatic 9, 3) (List.mem_of_getElem? (i := 9) rfl))
theorem dX0_pairsThatRest_14 : decode cX0_pairsThatRest 14 = .ok (.iload_n 2, 1) := of_decide_eq_true (List.all_eq_true.mp dA_X0_pairsThatRest_0 (14, .iload_n 2, 1) (List.mem_of_getElem? (i := 10) rfl))
theorem dX0_pairsThatRest_15 : decode cX0_pairsThatRest 15 = .ok (.iconst 1, 1) := of_decide_eq_true (List.all_eq_true.mp dA_X0_pairsThatRest_0 (15, .iconst 1, 1) (List.mem_of_getElem? (i := 11) rfl))
theorem dX0_pairsThatRest_16 : decode cX0_pairsThatRest 16 = .ok (.ixor, 1) := of_decide_eq_true (List.all_eq_true.mp dA_X0_pairsThatRest_0 (16, .ixor, 1) (List.mem_of_getElem? (i := 12) rfl))
theorem dX0_pairsThatRest_17 : decode cX0_pairsThatRest 17 = .ok (.iload_n 0, 1) := of_decide_eq_true (List.all_eq_true.mp dA_X0_pairsThatRest_0 (17, .iload_n 0, 1) (List.mem_of_getElem? (i := 13) rfl))
theorem dX0_pairsThatRest_18 : decode cX0_pairsThatRest 18 = .ok (.invokestatic 9, 3) := of_decide_eq_true (List.all_eq_true.mp dA_X0_pairsThatRest_0 (18, .invokestatic 9, 3) (List.mem_of_getElem? (i := 14) rfl))
theorem dX0_pairsThatRest_21 : decode cX0_pairsThatRest 21 = .ok (.if_icmp .lt 7, 3) := of_decide_eq_true (List.all_eq_true.mp dA_X0_pairsThatRest_0 (21, .if_icmp .lt 7, 3) (List.mem_of_getElem? (i := 15) rfl))
theorem dX0_pairsThatRest_24 : decode cX0_pairsThatRest 24 = .ok (.iconst 1, 1) := of_decide_eq_true (List.all_eq_true.mp dA_X0_pairsThatRest_0 (24, .iconst 1, 1) (List.mem_of_getElem? (i := 16) rfl))
theorem dX0_pairsThatRest_25 : decode cX0_pairsThatRest 25 = .ok (.goto 4, 3) := of_decide_eq_true (List.all_eq_true.mp dA_X0_pairsThatRest_0 (25, .goto 4, 3) (List.mem_of_getElem? (i := 17) rfl))
theorem dX0_pairsThatRest_28 : decode cX0_pairsThatRest 28 = .ok (.iconst 0, 1) := of_decide_eq_true (List.all_eq_true.mp dA_X0_pairsThatRest_0 (28, .iconst 0, 1) (List.mem_of_getElem? (i := 18) rfl))
theorem dX0_pairsThatRest_29 : decode cX0_pairsThatRest 29 = .ok (.istore_n 3, 1) := of_decide_eq_true (List.all_eq_true.mp dA_X0_pairsThatRest_0 (29, .istore_n 3, 1) (List.mem_of_getElem? (i := 19) rfl))
theorem dX0_pairsThatRest_30 : decode cX0_pairsThatRest 30 = .ok (.iload_n 2, 1) := of_decide_eq_true (List.all_eq_true.mp dA_X0_pairsThatRest_0 (30, .iload_n 2, 1) (List.mem_of_getElem? (i := 20) rfl))
theorem dX0_pairsThatRest_31 : decode cX0_pairsThatRest 31 = .ok (.iload_n 0, 1) := of_decide_eq_true (List.all_eq_true.mp dA_X0_pairsThatRest_0 (31, .iload_n 0, 1) (List.mem_of_getElem? (i := 21) rfl))
theorem dX0_pairsThatRest_32 : decode cX0_pairsThatRest 32 = .ok (.invokestatic 13, 3) := of_decide_eq_true (List.all_eq_true.mp dA_X0_pairsThatRest_0 (32, .invokestatic 13, 3) (List.mem_of_getElem? (i := 22) rfl))
theorem dX0_pairsThatRest_35 : decode cX0_pairsThatRest 35 = .ok (.iload_n 2, 1) := of_decide_eq_true (List.all_eq_true.mp dA_X0_pairsThatRest_0 (35, .iload_n 2, 1) (List.mem_of_getElem? (i := 23) rfl))
theorem dX0_pairsThatRest_36 : decode cX0_pairsThatRest 36 = .ok (.iconst 2, 1) := of_decide_eq_true (List.all_eq_true.mp dA_X0_pairsThatRest_0 (36, .iconst 2, 1) (List.mem_of_getElem? (i := 24) rfl))
theorem dX0_pairsThatRest_37 : decode cX0_pairsThatRest 37 = .ok (.ixor, 1) := of_decide_eq_true (List.all_eq_true.mp dA_X0_pairsThatRest_0 (37, .ixor, 1) (List.mem_of_getElem? (i := 25) rfl))
theorem dX0_pairsThatRest_38 : decode cX0_pairsThatRest 38 = .ok (.iload_n 0, 1) := of_decide_eq_true (List.all_eq_true.mp dA_X0_pairsThatRest_0 (38, .iload_n 0, 1) (List.mem_of_getElem? (i := 26) rfl))
theorem dX0_pairsThatRest_39 : decode cX0_pairsThatRest 39 = .ok (.invokestatic 13, 3) := of_decide_eq_true (List.all_eq_true.mp dA_X0_pairsThatRest_0 (39, .invokestatic 13, 3) (List.mem_of_getElem? (i := 27) rfl))
theorem dX0_pairsThatRest_42 : decode cX0_pairsThatRest 42 = .ok (.if_icmp .lt 7, 3) := of_decide_eq_true (List.all_eq_true.mp dA_X0_pairsThatRest_0 (42, .if_icmp .lt 7, 3) (List.mem_of_getElem? (i := 28) rfl))
theorem dX0_pairsThatRest_45 : decode cX0_pairsThatRest 45 = .ok (.iconst 1, 1) := of_decide_eq_true (List.all_eq_true.mp dA_X0_pairsThatRest_0 (45, .iconst 1, 1) (List.mem_of_getElem? (i := 29) rfl))
theorem dX0_pairsThatRest_46 : decode cX0_pairsThatRest 46 = .ok (.goto 4, 3) := of_decide_eq_true (List.all_eq_true.mp dA_X0_pairsThatRest_0 (46, .goto 4, 3) (List.mem_of_getElem? (i := 30) rfl))
theorem dX0_pairsThatRest_49 : decode cX0_pairsThatRest 49 = .ok (.iconst 0, 1) := of_decide_eq_true (List.all_eq_true.mp dA_X0_pairsThatRest_0 (49, .iconst 0, 1) (List.mem_of_getElem? (i := 31) rfl))
theorem dX0_pairsThatRest_50 : decode cX0_pairsThatRest 50 = .ok (.istore 4, 2) := of_decide_eq_true (List.all_eq_true.mp dA_X0_pairsThatRest_0 (50, .istore 4, 2) (List.mem_of_getElem? (i := 32) rfl))
theorem dX0_pairsThatRest_52 : decode cX0_pairsThatRest 52 = .ok (.iload_n 3, 1) := of_decide_eq_true (List.all_eq_true.mp dA_X0_pairsThatRest_0 (52, .iload_n 3, 1) (List.mem_of_getElem? (i := 33) rfl))
theorem dX0_pairsThatRest_53 : decode cX0_pairsThatRest 53 = .ok (.ifCond .eq 14, 3) := of_decide_eq_true (List.all_eq_true.mp dA_X0_pairsThatRest_0 (53, .ifCond .eq 14, 3) (List.mem_of_getElem? (i := 34) rfl))
theorem dX0_pairsThatRest_56 : decode cX0_pairsThatRest 56 = .ok (.iload 4, 2) := of_decide_eq_true (List.all_eq_true.mp dA_X0_pairsThatRest_0 (56, .iload 4, 2) (List.mem_of_getElem? (i := 35) rfl))
theorem dX0_pairsThatRest_58 : decode cX0_pairsThatRest 58 = .ok (.ifCond .eq 9, 3) := of_decide_eq_true (List.all_eq_true.mp dA_X0_pairsThatRest_0 (58, .ifCond .eq 9, 3) (List.mem_of_getElem? (i := 36) rfl))
theorem dX0_pairsThatRest_61 : decode cX0_pairsThatRest 61 = .ok (.iload_n 1, 1) := of_decide_eq_true (List.all_eq_true.mp dA_X0_pairsThatRest_0 (61, .iload_n 1, 1) (List.mem_of_getElem? (i := 37) rfl))
theorem dX0_pairsThatRest_62 : decode cX0_pairsThatRest 62 = .ok (.iconst 1, 1) := of_decide_eq_true (List.all_eq_true.mp dA_X0_pairsThatRest_0 (62, .iconst 1, 1) (List.mem_of_getElem? (i := 38) rfl))
theorem dX0_pairsThatRest_63 : decode cX0_pairsThatRest 63 = .ok (.iload_n 2, 1) := of_decide_eq_true (List.all_eq_true.mp dA_X0_pairsThatRest_0 (63, .iload_n 2, 1) (List.mem_of_getElem? (i := 39) rfl))
set_option maxRecDepth 20000 in
theorem dA_X0_pairsThatRest_64 : (([(64, .ishl, 1), (65, .ior, 1), (66, .istore_n 1, 1), (67, .iinc 2 1, 3), (70, .goto (-66), 3), (73, .iload_n 1, 1), (74, .ireturn, 1)] : List (Nat × Instr × Nat)).all fun q => decide (decode cX0_pairsThatRest q.1 = .ok (q.2.1, q.2.2))) = true := by decide +kernel
theorem dX0_pairsThatRest_64 : decode cX0_pairsThatRest 64 = .ok (.ishl, 1) := of_decide_eq_true (List.all_eq_true.mp dA_X0_pairsThatRest_64 (64, .ishl, 1) (List.mem_of_getElem? (i := 0) rfl))
theorem dX0_pairsThatRest_65 : decode cX0_pairsThatRest 65 = .ok (.ior, 1) := of_decide_eq_true (List.all_eq_true.mp dA_X0_pairsThatRest_64 (65, .ior, 1) (List.mem_of_getElem? (i := 1) rfl))
theorem dX0_pairsThatRest_66 : decode cX0_pairsThatRest 66 = .ok (.istore_n 1, 1) := of_decide_eq_true (List.all_eq_true.mp dA_X0_pairsThatRest_64 (66, .istore_n 1, 1) (List.mem_of_getElem? (i := 2) rfl))
theorem dX0_pairsThatRest_67 : decode cX0_pairsThatRest 67 = .ok (.iinc 2 1, 3) := of_decide_eq_true (List.all_eq_true.mp dA_X0_pairsThatRest_64 (67, .iinc 2 1, 3) (List.mem_of_getElem? (i := 3) rfl))
theorem dX0_pairsThatRest_70 : decode cX0_pairsThatRest 70 = .ok (.goto (-66), 3) := of_decide_eq_true (List.all_eq_true.mp dA_X0_pairsThatRest_64 (70, .goto (-66), 3) (List.mem_of_getElem? (i := 4) rfl))
theorem dX0_pairsThatRest_73 : decode cX0_pairsThatRest 73 = .ok (.iload_n 1, 1) := of_decide_eq_true (List.all_eq_true.mp dA_X0_pairsThatRest_64 (73, .iload_n 1, 1) (List.mem_of_getElem? (i := 5) rfl))
theorem dX0_pairsThatRest_74 : decode cX0_pairsThatRest 74 = .ok (.ireturn, 1) := of_decide_eq_true (List.all_eq_true.mp dA_X0_pairsThatRest_64 (74, .ireturn, 1) (List.mem_of_getElem? (i := 6) rfl))
set_option maxRecDepth 20000 in
theorem dA_X0_toGuest_0 : (([(0, .iload_n 0, 1), (1, .iconst 1, 1), (2, .iand, 1), (3, .ifCond .ne 5, 3), (6, .iconst 0, 1), (7, .ireturn, 1), (8, .iload_n 1, 1), (9, .ifCond .eq 14, 3), (12, .iload_n 0, 1), (13, .iconst 2, 1), (14, .iand, 1), (15, .ifCond .eq 8, 3), (18, .bipush (-3), 2), (20, .goto 4, 3), (23, .iconst 5, 1), (24, .ireturn, 1)] : List (Nat × Instr × Nat)).all fun q => decide (decode cX0_toGuest q.1 = .ok (q.2.1, q.2.2))) = true := by decide +kernel
theorem dX0_toGuest_0 : decode cX0_toGuest 0 = .ok (.iload_n 0, 1) := of_decide_eq_true (List.all_eq_true.mp dA_X0_toGuest_0 (0, .iload_n 0, 1) (List.mem_of_getElem? (i := 0) rfl))
theorem dX0_toGuest_1 : decode cX0_toGuest 1 = .ok (.iconst 1, 1) := of_decide_eq_true (List.all_eq_true.mp dA_X0_toGuest_0 (1, .iconst 1, 1) (List.mem_of_getElem? (i := 1) rfl))
theorem dX0_toGuest_2 : decode cX0_toGuest 2 = .ok (.iand, 1) := of_decide_eq_true (List.all_eq_true.mp dA_X0_toGuest_0 (2, .iand, 1) (List.mem_of_getElem? (i := 2) rfl))
theorem dX0_toGuest_3 : decode cX0_toGuest 3 = .ok (.ifCond .ne 5, 3) := of_decide_eq_true (List.all_eq_true.mp dA_X0_toGuest_0 (3, .ifCond .ne 5, 3) (List.mem_of_getElem? (i := 3) rfl))
theorem dX0_toGuest_6 : decode cX0_toGuest 6 = .ok (.iconst 0, 1) := of_decide_eq_true (List.all_eq_true.mp dA_X0_toGuest_0 (6, .iconst 0, 1) (List.mem_of_getElem? (i := 4) rfl))
theorem dX0_toGuest_7 : decode cX0_toGuest 7 = .ok (.ireturn, 1) := of_decide_eq_true (List.all_eq_true.mp dA_X0_toGuest_0 (7, .ireturn, 1) (List.mem_of_getElem? (i := 5) rfl))
theorem dX0_toGuest_8 : decode cX0_toGuest 8 = .ok (.iload_n 1, 1) := of_decide_eq_true (List.all_eq_true.mp dA_X0_toGuest_0 (8, .iload_n 1, 1) (List.mem_of_getElem? (i := 6) rfl))
theorem dX0_toGuest_9 : decode cX0_toGuest 9 = .ok (.ifCond .eq 14, 3) := of_decide_eq_true (List.all_eq_true.mp dA_X0_toGuest_0 (9, .ifCond .eq 14, 3) (List.mem_of_getElem? (i := 7) rfl))
theorem dX0_toGuest_12 : decode cX0_toGuest 12 = .ok (.iload_n 0, 1) := of_decide_eq_true (List.all_eq_true.mp dA_X0_toGuest_0 (12, .iload_n 0, 1) (List.mem_of_getElem? (i := 8) rfl))
theorem dX0_toGuest_13 : decode cX0_toGuest 13 = .ok (.iconst 2, 1) := of_decide_eq_true (List.all_eq_true.mp dA_X0_toGuest_0 (13, .iconst 2, 1) (List.mem_of_getElem? (i := 9) rfl))
theorem dX0_toGuest_14 : decode cX0_toGuest 14 = .ok (.iand, 1) := of_decide_eq_true (List.all_eq_true.mp dA_X0_toGuest_0 (14, .iand, 1) (List.mem_of_getElem? (i := 10) rfl))
theorem dX0_toGuest_15 : decode cX0_toGuest 15 = .ok (.ifCond .eq 8, 3) := of_decide_eq_true (List.all_eq_true.mp dA_X0_toGuest_0 (15, .ifCond .eq 8, 3) (List.mem_of_getElem? (i := 11) rfl))
theorem dX0_toGuest_18 : decode cX0_toGuest 18 = .ok (.bipush (-3), 2) := of_decide_eq_true (List.all_eq_true.mp dA_X0_toGuest_0 (18, .bipush (-3), 2) (List.mem_of_getElem? (i := 12) rfl))
theorem dX0_toGuest_20 : decode cX0_toGuest 20 = .ok (.goto 4, 3) := of_decide_eq_true (List.all_eq_true.mp dA_X0_toGuest_0 (20, .goto 4, 3) (List.mem_of_getElem? (i := 13) rfl))
theorem dX0_toGuest_23 : decode cX0_toGuest 23 = .ok (.iconst 5, 1) := of_decide_eq_true (List.all_eq_true.mp dA_X0_toGuest_0 (23, .iconst 5, 1) (List.mem_of_getElem? (i := 14) rfl))
theorem dX0_toGuest_24 : decode cX0_toGuest 24 = .ok (.ireturn, 1) := of_decide_eq_true (List.all_eq_true.mp dA_X0_toGuest_0 (24, .ireturn, 1) (List.mem_of_getElem? (i := 15) rfl))
set_option maxRecDepth 20000 in
theorem dA_X0_toHost_0 : (([(0, .iload_n 1, 1), (1, .ifCond .eq 13, 3), (4, .iload_n 0, 1), (5, .iconst 1, 1), (6, .iand, 1), (7, .ifCond .eq 7, 3), (10, .iconst 1, 1), (11, .goto 4, 3), (14, .iconst 0, 1), (15, .istore_n 2, 1), (16, .iload_n 0, 1), (17, .iconst 2, 1), (18, .iand, 1), (19, .ifCond .eq 14, 3), (22, .iload_n 2, 1), (23, .ifCond .eq 7, 3), (26, .iconst 4, 1), (27, .goto 5, 3), (30, .bipush (-2), 2), (32, .ireturn, 1), (33, .iload_n 2, 1), (34, .ifCond .eq 8, 3), (37, .bipush (-4), 2), (39, .goto 4, 3), (42, .iconst 0, 1), (43, .ireturn, 1)] : List (Nat × Instr × Nat)).all fun q => decide (decode cX0_toHost q.1 = .ok (q.2.1, q.2.2))) = true := by decide +kernel
theorem dX0_toHost_0 : decode cX0_toHost 0 = .ok (.iload_n 1, 1) := of_decide_eq_true (List.all_eq_true.mp dA_X0_toHost_0 (0, .iload_n 1, 1) (List.mem_of_getElem? (i := 0) rfl))
theorem dX0_toHost_1 : decode cX0_toHost 1 = .ok (.ifCond .eq 13, 3) := of_decide_eq_true (List.all_eq_true.mp dA_X0_toHost_0 (1, .ifCond .eq 13, 3) (List.mem_of_getElem? (i := 1) rfl))
theorem dX0_toHost_4 : decode cX0_toHost 4 = .ok (.iload_n 0, 1) := of_decide_eq_true (List.all_eq_true.mp dA_X0_toHost_0 (4, .iload_n 0, 1) (List.mem_of_getElem? (i := 2) rfl))
theorem dX0_toHost_5 : decode cX0_toHost 5 = .ok (.iconst 1, 1) := of_decide_eq_true (List.all_eq_true.mp dA_X0_toHost_0 (5, .iconst 1, 1) (List.mem_of_getElem? (i := 3) rfl))
theorem dX0_toHost_6 : decode cX0_toHost 6 = .ok (.iand, 1) := of_decide_eq_true (List.all_eq_true.mp dA_X0_toHost_0 (6, .iand, 1) (List.mem_of_getElem? (i := 4) rfl))
theorem dX0_toHost_7 : decode cX0_toHost 7 = .ok (.ifCond .eq 7, 3) := of_decide_eq_true (List.all_eq_true.mp dA_X0_toHost_0 (7, .ifCond .eq 7, 3) (List.mem_of_getElem? (i := 5) rfl))
theorem dX0_toHost_10 : decode cX0_toHost 10 = .ok (.iconst 1, 1) := of_decide_eq_true (List.all_eq_true.mp dA_X0_toHost_0 (10, .iconst 1, 1) (List.mem_of_getElem? (i := 6) rfl))
theorem dX0_toHost_11 : decode cX0_toHost 11 = .ok (.goto 4, 3) := of_decide_eq_true (List.all_eq_true.mp dA_X0_toHost_0 (11, .goto 4, 3) (List.mem_of_getElem? (i := 7) rfl))
theorem dX0_toHost_14 : decode cX0_toHost 14 = .ok (.iconst 0, 1) := of_decide_eq_true (List.all_eq_true.mp dA_X0_toHost_0 (14, .iconst 0, 1) (List.mem_of_getElem? (i := 8) rfl))
theorem dX0_toHost_15 : decode cX0_toHost 15 = .ok (.istore_n 2, 1) := of_decide_eq_true (List.all_eq_true.mp dA_X0_toHost_0 (15, .istore_n 2, 1) (List.mem_of_getElem? (i := 9) rfl))
theorem dX0_toHost_16 : decode cX0_toHost 16 = .ok (.iload_n 0, 1) := of_decide_eq_true (List.all_eq_true.mp dA_X0_toHost_0 (16, .iload_n 0, 1) (List.mem_of_getElem? (i := 10) rfl))
theorem dX0_toHost_17 : decode cX0_toHost 17 = .ok (.iconst 2, 1) := of_decide_eq_true (List.all_eq_true.mp dA_X0_toHost_0 (17, .iconst 2, 1) (List.mem_of_getElem? (i := 11) rfl))
theorem dX0_toHost_18 : decode cX0_toHost 18 = .ok (.iand, 1) := of_decide_eq_true (List.all_eq_true.mp dA_X0_toHost_0 (18, .iand, 1) (List.mem_of_getElem? (i := 12) rfl))
theorem dX0_toHost_19 : decode cX0_toHost 19 = .ok (.ifCond .eq 14, 3) := of_decide_eq_true (List.all_eq_true.mp dA_X0_toHost_0 (19, .ifCond .eq 14, 3) (List.mem_of_getElem? (i := 13) rfl))
theorem dX0_toHost_22 : decode cX0_toHost 22 = .ok (.iload_n 2, 1) := of_decide_eq_true (List.all_eq_true.mp dA_X0_toHost_0 (22, .iload_n 2, 1) (List.mem_of_getElem? (i := 14) rfl))
theorem dX0_toHost_23 : decode cX0_toHost 23 = .ok (.ifCond .eq 7, 3) := of_decide_eq_true (List.all_eq_true.mp dA_X0_toHost_0 (23, .ifCond .eq 7, 3) (List.mem_of_getElem? (i := 15) rfl))
theorem dX0_toHost_26 : decode cX0_toHost 26 = .ok (.iconst 4, 1) := of_decide_eq_true (List.all_eq_true.mp dA_X0_toHost_0 (26, .iconst 4, 1) (List.mem_of_getElem? (i := 16) rfl))
theorem dX0_toHost_27 : decode cX0_toHost 27 = .ok (.goto 5, 3) := of_decide_eq_true (List.all_eq_true.mp dA_X0_toHost_0 (27, .goto 5, 3) (List.mem_of_getElem? (i := 17) rfl))
theorem dX0_toHost_30 : decode cX0_toHost 30 = .ok (.bipush (-2), 2) := of_decide_eq_true (List.all_eq_true.mp dA_X0_toHost_0 (30, .bipush (-2), 2) (List.mem_of_getElem? (i := 18) rfl))
theorem dX0_toHost_32 : decode cX0_toHost 32 = .ok (.ireturn, 1) := of_decide_eq_true (List.all_eq_true.mp dA_X0_toHost_0 (32, .ireturn, 1) (List.mem_of_getElem? (i := 19) rfl))
theorem dX0_toHost_33 : decode cX0_toHost 33 = .ok (.iload_n 2, 1) := of_decide_eq_true (List.all_eq_true.mp dA_X0_toHost_0 (33, .iload_n 2, 1) (List.mem_of_getElem? (i := 20) rfl))
theorem dX0_toHost_34 : decode cX0_toHost 34 = .ok (.ifCond .eq 8, 3) := of_decide_eq_true (List.all_eq_true.mp dA_X0_toHost_0 (34, .ifCond .eq 8, 3) (List.mem_of_getElem? (i := 21) rfl))
theorem dX0_toHost_37 : decode cX0_toHost 37 = .ok (.bipush (-4), 2) := of_decide_eq_true (List.all_eq_true.mp dA_X0_toHost_0 (37, .bipush (-4), 2) (List.mem_of_getElem? (i := 22) rfl))
theorem dX0_toHost_39 : decode cX0_toHost 39 = .ok (.goto 4, 3) := of_decide_eq_true (List.all_eq_true.mp dA_X0_toHost_0 (39, .goto 4, 3) (List.mem_of_getElem? (i := 23) rfl))
theorem dX0_toHost_42 : decode cX0_toHost 42 = .ok (.iconst 0, 1) := of_decide_eq_true (List.all_eq_true.mp dA_X0_toHost_0 (42, .iconst 0, 1) (List.mem_of_getElem? (i := 24) rfl))
theorem dX0_toHost_43 : decode cX0_toHost 43 = .ok (.ireturn, 1) := of_decide_eq_true (List.all_eq_true.mp dA_X0_toHost_0 (43, .ireturn, 1) (List.mem_of_getElem? (i := 25) rfl))
set_option maxRecDepth 20000 in
theorem ggX1_init_X5_init : GoodIn wsX1_init wsX5_init := goodIn_r _ [17, 18, 2, 3, 19, 20, 21, 22, 23, 24, 4, 25, 37, 38, 39, 40] (by decide +kernel) (by decide +kernel)
set_option maxRecDepth 20000 in
theorem gX1_init_X5_init : GoodIn wsX1_init (wsX5_init) := ggX1_init_X5_init
set_option maxRecDepth 20000 in
theorem dA_X1_init_0 : (([(0, .aload_n 0, 1), (1, .invokespecial 5, 3), (4, .aload_n 0, 1), (5, .bipush 6, 2), (7, .newarray .int, 2), (9, .putfield 11, 3), (12, .aload_n 0, 1), (13, .new 15, 3), (16, .dup, 1), (17, .iconst 4, 1), (18, .bipush 7, 2), (20, .invokespecial 17, 3), (23, .putfield 20, 3), (26, .aload_n 0, 1), (27, .new 15, 3), (30, .dup, 1), (31, .iconst 4, 1), (32, .iconst 5, 1), (33, .invokespecial 17, 3), (36, .putfield 24, 3), (39, .aload_n 0, 1), (40, .new 15, 3), (43, .dup, 1), (44, .iconst 5, 1), (45, .bipush 6, 2), (47, .invokespecial 17, 3), (50, .putfield 27, 3), (53, .aload_n 0, 1), (54, .new 15, 3), (57, .dup, 1), (58, .iconst 3, 1), (59, .bipush 6, 2), (61, .invokespecial 17, 3), (64, .putfield 30, 3), (67, .aload_n 0, 1), (68, .new 15, 3), (71, .dup, 1), (72, .bipush 24, 2), (74, .bipush 8, 2), (76, .invokespecial 17, 3)] : List (Nat × Instr × Nat)).all fun q => decide (decode cX1_init q.1 = .ok (q.2.1, q.2.2))) = true := by decide +kernel
theorem dX1_init_0 : decode cX1_init 0 = .ok (.aload_n 0, 1) := of_decide_eq_true (List.all_eq_true.mp dA_X1_init_0 (0, .aload_n 0, 1) (List.mem_of_getElem? (i := 0) rfl))
theorem dX1_init_1 : decode cX1_init 1 = .ok (.invokespecial 5, 3) := of_decide_eq_true (List.all_eq_true.mp dA_X1_init_0 (1, .invokespecial 5, 3) (List.mem_of_getElem? (i := 1) rfl))
theorem dX1_init_4 : decode cX1_init 4 = .ok (.aload_n 0, 1) := of_decide_eq_true (List.all_eq_true.mp dA_X1_init_0 (4, .aload_n 0, 1) (List.mem_of_getElem? (i := 2) rfl))
theorem dX1_init_5 : decode cX1_init 5 = .ok (.bipush 6, 2) := of_decide_eq_true (List.all_eq_true.mp dA_X1_init_0 (5, .bipush 6, 2) (List.mem_of_getElem? (i := 3) rfl))
theorem dX1_init_7 : decode cX1_init 7 = .ok (.newarray .int, 2) := of_decide_eq_true (List.all_eq_true.mp dA_X1_init_0 (7, .newarray .int, 2) (List.mem_of_getElem? (i := 4) rfl))
theorem dX1_init_9 : decode cX1_init 9 = .ok (.putfield 11, 3) := of_decide_eq_true (List.all_eq_true.mp dA_X1_init_0 (9, .putfield 11, 3) (List.mem_of_getElem? (i := 5) rfl))
theorem dX1_init_12 : decode cX1_init 12 = .ok (.aload_n 0, 1) := of_decide_eq_true (List.all_eq_true.mp dA_X1_init_0 (12, .aload_n 0, 1) (List.mem_of_getElem? (i := 6) rfl))
theorem dX1_init_13 : decode cX1_init 13 = .ok (.new 15, 3) := of_decide_eq_true (List.all_eq_true.mp dA_X1_init_0 (13, .new 15, 3) (List.mem_of_getElem? (i := 7) rfl))
theorem dX1_init_16 : decode cX1_init 16 = .ok (.dup, 1) := of_decide_eq_true (List.all_eq_true.mp dA_X1_init_0 (16, .dup, 1) (List.mem_of_getElem? (i := 8) rfl))
theorem dX1_init_17 : decode cX1_init 17 = .ok (.iconst 4, 1) := of_decide_eq_true (List.all_eq_true.mp dA_X1_init_0 (17, .iconst 4, 1) (List.mem_of_getElem? (i := 9) rfl))
theorem dX1_init_18 : decode cX1_init 18 = .ok (.bipush 7, 2) := of_decide_eq_true (List.all_eq_true.mp dA_X1_init_0 (18, .bipush 7, 2) (List.mem_of_getElem? (i := 10) rfl))
theorem dX1_init_20 : decode cX1_init 20 = .ok (.invokespecial 17, 3) := of_decide_eq_true (List.all_eq_true.mp dA_X1_init_0 (20, .invokespecial 17, 3) (List.mem_of_getElem? (i := 11) rfl))
theorem dX1_init_23 : decode cX1_init 23 = .ok (.putfield 20, 3) := of_decide_eq_true (List.all_eq_true.mp dA_X1_init_0 (23, .putfield 20, 3) (List.mem_of_getElem? (i := 12) rfl))
theorem dX1_init_26 : decode cX1_init 26 = .ok (.aload_n 0, 1) := of_decide_eq_true (List.all_eq_true.mp dA_X1_init_0 (26, .aload_n 0, 1) (List.mem_of_getElem? (i := 13) rfl))
theorem dX1_init_27 : decode cX1_init 27 = .ok (.new 15, 3) := of_decide_eq_true (List.all_eq_true.mp dA_X1_init_0 (27, .new 15, 3) (List.mem_of_getElem? (i := 14) rfl))
theorem dX1_init_30 : decode cX1_init 30 = .ok (.dup, 1) := of_decide_eq_true (List.all_eq_true.mp dA_X1_init_0 (30, .dup, 1) (List.mem_of_getElem? (i := 15) rfl))
theorem dX1_init_31 : decode cX1_init 31 = .ok (.iconst 4, 1) := of_decide_eq_true (List.all_eq_true.mp dA_X1_init_0 (31, .iconst 4, 1) (List.mem_of_getElem? (i := 16) rfl))
theorem dX1_init_32 : decode cX1_init 32 = .ok (.iconst 5, 1) := of_decide_eq_true (List.all_eq_true.mp dA_X1_init_0 (32, .iconst 5, 1) (List.mem_of_getElem? (i := 17) rfl))
theorem dX1_init_33 : decode cX1_init 33 = .ok (.invokespecial 17, 3) := of_decide_eq_true (List.all_eq_true.mp dA_X1_init_0 (33, .invokespecial 17, 3) (List.mem_of_getElem? (i := 18) rfl))
theorem dX1_init_36 : decode cX1_init 36 = .ok (.putfield 24, 3) := of_decide_eq_true (List.all_eq_true.mp dA_X1_init_0 (36, .putfield 24, 3) (List.mem_of_getElem? (i := 19) rfl))
theorem dX1_init_39 : decode cX1_init 39 = .ok (.aload_n 0, 1) := of_decide_eq_true (List.all_eq_true.mp dA_X1_init_0 (39, .aload_n 0, 1) (List.mem_of_getElem? (i := 20) rfl))
theorem dX1_init_40 : decode cX1_init 40 = .ok (.new 15, 3) := of_decide_eq_true (List.all_eq_true.mp dA_X1_init_0 (40, .new 15, 3) (List.mem_of_getElem? (i := 21) rfl))
theorem dX1_init_43 : decode cX1_init 43 = .ok (.dup, 1) := of_decide_eq_true (List.all_eq_true.mp dA_X1_init_0 (43, .dup, 1) (List.mem_of_getElem? (i := 22) rfl))
theorem dX1_init_44 : decode cX1_init 44 = .ok (.iconst 5, 1) := of_decide_eq_true (List.all_eq_true.mp dA_X1_init_0 (44, .iconst 5, 1) (List.mem_of_getElem? (i := 23) rfl))
theorem dX1_init_45 : decode cX1_init 45 = .ok (.bipush 6, 2) := of_decide_eq_true (List.all_eq_true.mp dA_X1_init_0 (45, .bipush 6, 2) (List.mem_of_getElem? (i := 24) rfl))
theorem dX1_init_47 : decode cX1_init 47 = .ok (.invokespecial 17, 3) := of_decide_eq_true (List.all_eq_true.mp dA_X1_init_0 (47, .invokespecial 17, 3) (List.mem_of_getElem? (i := 25) rfl))
theorem dX1_init_50 : decode cX1_init 50 = .ok (.putfield 27, 3) := of_decide_eq_true (List.all_eq_true.mp dA_X1_init_0 (50, .putfield 27, 3) (List.mem_of_getElem? (i := 26) rfl))
theorem dX1_init_53 : decode cX1_init 53 = .ok (.aload_n 0, 1) := of_decide_eq_true (List.all_eq_true.mp dA_X1_init_0 (53, .aload_n 0, 1) (List.mem_of_getElem? (i := 27) rfl))
theorem dX1_init_54 : decode cX1_init 54 = .ok (.new 15, 3) := of_decide_eq_true (List.all_eq_true.mp dA_X1_init_0 (54, .new 15, 3) (List.mem_of_getElem? (i := 28) rfl))
theorem dX1_init_57 : decode cX1_init 57 = .ok (.dup, 1) := of_decide_eq_true (List.all_eq_true.mp dA_X1_init_0 (57, .dup, 1) (List.mem_of_getElem? (i := 29) rfl))
theorem dX1_init_58 : decode cX1_init 58 = .ok (.iconst 3, 1) := of_decide_eq_true (List.all_eq_true.mp dA_X1_init_0 (58, .iconst 3, 1) (List.mem_of_getElem? (i := 30) rfl))
theorem dX1_init_59 : decode cX1_init 59 = .ok (.bipush 6, 2) := of_decide_eq_true (List.all_eq_true.mp dA_X1_init_0 (59, .bipush 6, 2) (List.mem_of_getElem? (i := 31) rfl))
theorem dX1_init_61 : decode cX1_init 61 = .ok (.invokespecial 17, 3) := of_decide_eq_true (List.all_eq_true.mp dA_X1_init_0 (61, .invokespecial 17, 3) (List.mem_of_getElem? (i := 32) rfl))
theorem dX1_init_64 : decode cX1_init 64 = .ok (.putfield 30, 3) := of_decide_eq_true (List.all_eq_true.mp dA_X1_init_0 (64, .putfield 30, 3) (List.mem_of_getElem? (i := 33) rfl))
theorem dX1_init_67 : decode cX1_init 67 = .ok (.aload_n 0, 1) := of_decide_eq_true (List.all_eq_true.mp dA_X1_init_0 (67, .aload_n 0, 1) (List.mem_of_getElem? (i := 34) rfl))
theorem dX1_init_68 : decode cX1_init 68 = .ok (.new 15, 3) := of_decide_eq_true (List.all_eq_true.mp dA_X1_init_0 (68, .new 15, 3) (List.mem_of_getElem? (i := 35) rfl))
theorem dX1_init_71 : decode cX1_init 71 = .ok (.dup, 1) := of_decide_eq_true (List.all_eq_true.mp dA_X1_init_0 (71, .dup, 1) (List.mem_of_getElem? (i := 36) rfl))
theorem dX1_init_72 : decode cX1_init 72 = .ok (.bipush 24, 2) := of_decide_eq_true (List.all_eq_true.mp dA_X1_init_0 (72, .bipush 24, 2) (List.mem_of_getElem? (i := 37) rfl))
theorem dX1_init_74 : decode cX1_init 74 = .ok (.bipush 8, 2) := of_decide_eq_true (List.all_eq_true.mp dA_X1_init_0 (74, .bipush 8, 2) (List.mem_of_getElem? (i := 38) rfl))
theorem dX1_init_76 : decode cX1_init 76 = .ok (.invokespecial 17, 3) := of_decide_eq_true (List.all_eq_true.mp dA_X1_init_0 (76, .invokespecial 17, 3) (List.mem_of_getElem? (i := 39) rfl))
set_option maxRecDepth 20000 in
theorem dA_X1_init_79 : (([(79, .putfield 33, 3), (82, .aload_n 0, 1), (83, .iconst 3, 1), (84, .putfield 36, 3), (87, .return_, 1)] : List (Nat × Instr × Nat)).all fun q => decide (decode cX1_init q.1 = .ok (q.2.1, q.2.2))) = true := by decide +kernel
theorem dX1_init_79 : decode cX1_init 79 = .ok (.putfield 33, 3) := of_decide_eq_true (List.all_eq_true.mp dA_X1_init_79 (79, .putfield 33, 3) (List.mem_of_getElem? (i := 0) rfl))
theorem dX1_init_82 : decode cX1_init 82 = .ok (.aload_n 0, 1) := of_decide_eq_true (List.all_eq_true.mp dA_X1_init_79 (82, .aload_n 0, 1) (List.mem_of_getElem? (i := 1) rfl))
theorem dX1_init_83 : decode cX1_init 83 = .ok (.iconst 3, 1) := of_decide_eq_true (List.all_eq_true.mp dA_X1_init_79 (83, .iconst 3, 1) (List.mem_of_getElem? (i := 2) rfl))
theorem dX1_init_84 : decode cX1_init 84 = .ok (.putfield 36, 3) := of_decide_eq_true (List.all_eq_true.mp dA_X1_init_79 (84, .putfield 36, 3) (List.mem_of_getElem? (i := 3) rfl))
theorem dX1_init_87 : decode cX1_init 87 = .ok (.return_, 1) := of_decide_eq_true (List.all_eq_true.mp dA_X1_init_79 (87, .return_, 1) (List.mem_of_getElem? (i := 4) rfl))
set_option maxRecDepth 20000 in
theorem ggX1_begin_X1_setWet : GoodIn wsX1_begin wsX1_setWet := goodIn_r _ [15, 16, 23, 24, 25, 26, 27, 28, 29, 30, 31, 32, 33] (by decide +kernel) (by decide +kernel)
set_option maxRecDepth 20000 in
theorem gX1_begin_X1_setWet : GoodIn wsX1_begin (wsV RX1 52 RX1 yX1_setWet wsX1_setWet) := goodIn_app (goodIn_of _ (by decide +kernel)) ggX1_begin_X1_setWet
set_option maxRecDepth 20000 in
theorem ggX1_begin_X5_empty : GoodIn wsX1_begin wsX5_empty := goodIn_r _ [21, 22, 34, 35, 36, 37] (by decide +kernel) (by decide +kernel)
set_option maxRecDepth 20000 in
theorem gX1_begin_X5_empty : GoodIn wsX1_begin (wsV RX1 55 RX5 yX5_empty wsX5_empty) := goodIn_app (goodIn_of _ (by decide +kernel)) ggX1_begin_X5_empty
set_option maxRecDepth 20000 in
theorem dA_X1_begin_0 : (([(0, .aload_n 0, 1), (1, .iload_n 1, 1), (2, .putfield 40, 3), (5, .aload_n 0, 1), (6, .iload_n 2, 1), (7, .putfield 36, 3), (10, .aload_n 0, 1), (11, .iconst 0, 1), (12, .putfield 43, 3), (15, .aload_n 0, 1), (16, .iconst 0, 1), (17, .putfield 46, 3), (20, .aload_n 0, 1), (21, .iconst 0, 1), (22, .putfield 49, 3), (25, .iconst 0, 1), (26, .istore_n 3, 1), (27, .iload_n 3, 1), (28, .bipush 6, 2), (30, .if_icmp .ge 15, 3), (33, .aload_n 0, 1), (34, .iload_n 3, 1), (35, .iconst 0, 1), (36, .invokevirtual 52, 3), (39, .iinc 3 1, 3), (42, .goto (-15), 3), (45, .aload_n 0, 1), (46, .getfield 20, 3), (49, .invokevirtual 55, 3), (52, .aload_n 0, 1), (53, .getfield 24, 3), (56, .invokevirtual 55, 3), (59, .aload_n 0, 1), (60, .getfield 27, 3), (63, .invokevirtual 55, 3), (66, .aload_n 0, 1), (67, .getfield 30, 3), (70, .invokevirtual 55, 3), (73, .aload_n 0, 1), (74, .getfield 33, 3)] : List (Nat × Instr × Nat)).all fun q => decide (decode cX1_begin q.1 = .ok (q.2.1, q.2.2))) = true := by decide +kernel
theorem dX1_begin_0 : decode cX1_begin 0 = .ok (.aload_n 0, 1) := of_decide_eq_true (List.all_eq_true.mp dA_X1_begin_0 (0, .aload_n 0, 1) (List.mem_of_getElem? (i := 0) rfl))
theorem dX1_begin_1 : decode cX1_begin 1 = .ok (.iload_n 1, 1) := of_decide_eq_true (List.all_eq_true.mp dA_X1_begin_0 (1, .iload_n 1, 1) (List.mem_of_getElem? (i := 1) rfl))
theorem dX1_begin_2 : decode cX1_begin 2 = .ok (.putfield 40, 3) := of_decide_eq_true (List.all_eq_true.mp dA_X1_begin_0 (2, .putfield 40, 3) (List.mem_of_getElem? (i := 2) rfl))
theorem dX1_begin_5 : decode cX1_begin 5 = .ok (.aload_n 0, 1) := of_decide_eq_true (List.all_eq_true.mp dA_X1_begin_0 (5, .aload_n 0, 1) (List.mem_of_getElem? (i := 3) rfl))
theorem dX1_begin_6 : decode cX1_begin 6 = .ok (.iload_n 2, 1) := of_decide_eq_true (List.all_eq_true.mp dA_X1_begin_0 (6, .iload_n 2, 1) (List.mem_of_getElem? (i := 4) rfl))
theorem dX1_begin_7 : decode cX1_begin 7 = .ok (.putfield 36, 3) := of_decide_eq_true (List.all_eq_true.mp dA_X1_begin_0 (7, .putfield 36, 3) (List.mem_of_getElem? (i := 5) rfl))
theorem dX1_begin_10 : decode cX1_begin 10 = .ok (.aload_n 0, 1) := of_decide_eq_true (List.all_eq_true.mp dA_X1_begin_0 (10, .aload_n 0, 1) (List.mem_of_getElem? (i := 6) rfl))
theorem dX1_begin_11 : decode cX1_begin 11 = .ok (.iconst 0, 1) := of_decide_eq_true (List.all_eq_true.mp dA_X1_begin_0 (11, .iconst 0, 1) (List.mem_of_getElem? (i := 7) rfl))
theorem dX1_begin_12 : decode cX1_begin 12 = .ok (.putfield 43, 3) := of_decide_eq_true (List.all_eq_true.mp dA_X1_begin_0 (12, .putfield 43, 3) (List.mem_of_getElem? (i := 8) rfl))
theorem dX1_begin_15 : decode cX1_begin 15 = .ok (.aload_n 0, 1) := of_decide_eq_true (List.all_eq_true.mp dA_X1_begin_0 (15, .aload_n 0, 1) (List.mem_of_getElem? (i := 9) rfl))
theorem dX1_begin_16 : decode cX1_begin 16 = .ok (.iconst 0, 1) := of_decide_eq_true (List.all_eq_true.mp dA_X1_begin_0 (16, .iconst 0, 1) (List.mem_of_getElem? (i := 10) rfl))
theorem dX1_begin_17 : decode cX1_begin 17 = .ok (.putfield 46, 3) := of_decide_eq_true (List.all_eq_true.mp dA_X1_begin_0 (17, .putfield 46, 3) (List.mem_of_getElem? (i := 11) rfl))
theorem dX1_begin_20 : decode cX1_begin 20 = .ok (.aload_n 0, 1) := of_decide_eq_true (List.all_eq_true.mp dA_X1_begin_0 (20, .aload_n 0, 1) (List.mem_of_getElem? (i := 12) rfl))
theorem dX1_begin_21 : decode cX1_begin 21 = .ok (.iconst 0, 1) := of_decide_eq_true (List.all_eq_true.mp dA_X1_begin_0 (21, .iconst 0, 1) (List.mem_of_getElem? (i := 13) rfl))
theorem dX1_begin_22 : decode cX1_begin 22 = .ok (.putfield 49, 3) := of_decide_eq_true (List.all_eq_true.mp dA_X1_begin_0 (22, .putfield 49, 3) (List.mem_of_getElem? (i := 14) rfl))
theorem dX1_begin_25 : decode cX1_begin 25 = .ok (.iconst 0, 1) := of_decide_eq_true (List.all_eq_true.mp dA_X1_begin_0 (25, .iconst 0, 1) (List.mem_of_getElem? (i := 15) rfl))
theorem dX1_begin_26 : decode cX1_begin 26 = .ok (.istore_n 3, 1) := of_decide_eq_true (List.all_eq_true.mp dA_X1_begin_0 (26, .istore_n 3, 1) (List.mem_of_getElem? (i := 16) rfl))
theorem dX1_begin_27 : decode cX1_begin 27 = .ok (.iload_n 3, 1) := of_decide_eq_true (List.all_eq_true.mp dA_X1_begin_0 (27, .iload_n 3, 1) (List.mem_of_getElem? (i := 17) rfl))
theorem dX1_begin_28 : decode cX1_begin 28 = .ok (.bipush 6, 2) := of_decide_eq_true (List.all_eq_true.mp dA_X1_begin_0 (28, .bipush 6, 2) (List.mem_of_getElem? (i := 18) rfl))
theorem dX1_begin_30 : decode cX1_begin 30 = .ok (.if_icmp .ge 15, 3) := of_decide_eq_true (List.all_eq_true.mp dA_X1_begin_0 (30, .if_icmp .ge 15, 3) (List.mem_of_getElem? (i := 19) rfl))
theorem dX1_begin_33 : decode cX1_begin 33 = .ok (.aload_n 0, 1) := of_decide_eq_true (List.all_eq_true.mp dA_X1_begin_0 (33, .aload_n 0, 1) (List.mem_of_getElem? (i := 20) rfl))
theorem dX1_begin_34 : decode cX1_begin 34 = .ok (.iload_n 3, 1) := of_decide_eq_true (List.all_eq_true.mp dA_X1_begin_0 (34, .iload_n 3, 1) (List.mem_of_getElem? (i := 21) rfl))
theorem dX1_begin_35 : decode cX1_begin 35 = .ok (.iconst 0, 1) := of_decide_eq_true (List.all_eq_true.mp dA_X1_begin_0 (35, .iconst 0, 1) (List.mem_of_getElem? (i := 22) rfl))
theorem dX1_begin_36 : decode cX1_begin 36 = .ok (.invokevirtual 52, 3) := of_decide_eq_true (List.all_eq_true.mp dA_X1_begin_0 (36, .invokevirtual 52, 3) (List.mem_of_getElem? (i := 23) rfl))
theorem dX1_begin_39 : decode cX1_begin 39 = .ok (.iinc 3 1, 3) := of_decide_eq_true (List.all_eq_true.mp dA_X1_begin_0 (39, .iinc 3 1, 3) (List.mem_of_getElem? (i := 24) rfl))
theorem dX1_begin_42 : decode cX1_begin 42 = .ok (.goto (-15), 3) := of_decide_eq_true (List.all_eq_true.mp dA_X1_begin_0 (42, .goto (-15), 3) (List.mem_of_getElem? (i := 25) rfl))
theorem dX1_begin_45 : decode cX1_begin 45 = .ok (.aload_n 0, 1) := of_decide_eq_true (List.all_eq_true.mp dA_X1_begin_0 (45, .aload_n 0, 1) (List.mem_of_getElem? (i := 26) rfl))
theorem dX1_begin_46 : decode cX1_begin 46 = .ok (.getfield 20, 3) := of_decide_eq_true (List.all_eq_true.mp dA_X1_begin_0 (46, .getfield 20, 3) (List.mem_of_getElem? (i := 27) rfl))
theorem dX1_begin_49 : decode cX1_begin 49 = .ok (.invokevirtual 55, 3) := of_decide_eq_true (List.all_eq_true.mp dA_X1_begin_0 (49, .invokevirtual 55, 3) (List.mem_of_getElem? (i := 28) rfl))
theorem dX1_begin_52 : decode cX1_begin 52 = .ok (.aload_n 0, 1) := of_decide_eq_true (List.all_eq_true.mp dA_X1_begin_0 (52, .aload_n 0, 1) (List.mem_of_getElem? (i := 29) rfl))
theorem dX1_begin_53 : decode cX1_begin 53 = .ok (.getfield 24, 3) := of_decide_eq_true (List.all_eq_true.mp dA_X1_begin_0 (53, .getfield 24, 3) (List.mem_of_getElem? (i := 30) rfl))
theorem dX1_begin_56 : decode cX1_begin 56 = .ok (.invokevirtual 55, 3) := of_decide_eq_true (List.all_eq_true.mp dA_X1_begin_0 (56, .invokevirtual 55, 3) (List.mem_of_getElem? (i := 31) rfl))
theorem dX1_begin_59 : decode cX1_begin 59 = .ok (.aload_n 0, 1) := of_decide_eq_true (List.all_eq_true.mp dA_X1_begin_0 (59, .aload_n 0, 1) (List.mem_of_getElem? (i := 32) rfl))
theorem dX1_begin_60 : decode cX1_begin 60 = .ok (.getfield 27, 3) := of_decide_eq_true (List.all_eq_true.mp dA_X1_begin_0 (60, .getfield 27, 3) (List.mem_of_getElem? (i := 33) rfl))
theorem dX1_begin_63 : decode cX1_begin 63 = .ok (.invokevirtual 55, 3) := of_decide_eq_true (List.all_eq_true.mp dA_X1_begin_0 (63, .invokevirtual 55, 3) (List.mem_of_getElem? (i := 34) rfl))
theorem dX1_begin_66 : decode cX1_begin 66 = .ok (.aload_n 0, 1) := of_decide_eq_true (List.all_eq_true.mp dA_X1_begin_0 (66, .aload_n 0, 1) (List.mem_of_getElem? (i := 35) rfl))
theorem dX1_begin_67 : decode cX1_begin 67 = .ok (.getfield 30, 3) := of_decide_eq_true (List.all_eq_true.mp dA_X1_begin_0 (67, .getfield 30, 3) (List.mem_of_getElem? (i := 36) rfl))
theorem dX1_begin_70 : decode cX1_begin 70 = .ok (.invokevirtual 55, 3) := of_decide_eq_true (List.all_eq_true.mp dA_X1_begin_0 (70, .invokevirtual 55, 3) (List.mem_of_getElem? (i := 37) rfl))
theorem dX1_begin_73 : decode cX1_begin 73 = .ok (.aload_n 0, 1) := of_decide_eq_true (List.all_eq_true.mp dA_X1_begin_0 (73, .aload_n 0, 1) (List.mem_of_getElem? (i := 38) rfl))
theorem dX1_begin_74 : decode cX1_begin 74 = .ok (.getfield 33, 3) := of_decide_eq_true (List.all_eq_true.mp dA_X1_begin_0 (74, .getfield 33, 3) (List.mem_of_getElem? (i := 39) rfl))
set_option maxRecDepth 20000 in
theorem dA_X1_begin_77 : (([(77, .invokevirtual 55, 3), (80, .return_, 1)] : List (Nat × Instr × Nat)).all fun q => decide (decode cX1_begin q.1 = .ok (q.2.1, q.2.2))) = true := by decide +kernel
theorem dX1_begin_77 : decode cX1_begin 77 = .ok (.invokevirtual 55, 3) := of_decide_eq_true (List.all_eq_true.mp dA_X1_begin_77 (77, .invokevirtual 55, 3) (List.mem_of_getElem? (i := 0) rfl))
theorem dX1_begin_80 : decode cX1_begin 80 = .ok (.return_, 1) := of_decide_eq_true (List.all_eq_true.mp dA_X1_begin_77 (80, .return_, 1) (List.mem_of_getElem? (i := 1) rfl))
set_option maxRecDepth 20000 in
theorem ggX1_copy_X1_wetOf : GoodIn wsX1_copy wsX1_wetOf := goodIn_r _ [15, 16, 32, 33, 34, 35, 36, 37, 38, 39, 40, 41, 42] (by decide +kernel) (by decide +kernel)
set_option maxRecDepth 20000 in
theorem gX1_copy_X1_wetOf : GoodIn wsX1_copy (wsV RX1 58 RX1 yX1_wetOf wsX1_wetOf) := goodIn_app (goodIn_of _ (by decide +kernel)) ggX1_copy_X1_wetOf
set_option maxRecDepth 20000 in
theorem ggX1_copy_X1_setWet : GoodIn wsX1_copy wsX1_setWet := goodIn_r _ [20, 16, 32, 33, 34, 35, 36, 37, 38, 39, 40, 41, 42] (by decide +kernel) (by decide +kernel)
set_option maxRecDepth 20000 in
theorem gX1_copy_X1_setWet : GoodIn wsX1_copy (wsV RX1 52 RX1 yX1_setWet wsX1_setWet) := goodIn_app (goodIn_of _ (by decide +kernel)) ggX1_copy_X1_setWet
set_option maxRecDepth 20000 in
theorem ggX1_copy_X5_copy : GoodIn wsX1_copy wsX5_copy := goodIn_r _ [25, 26, 27, 28, 29, 30, 31, 43, 44, 45, 46] (by decide +kernel) (by decide +kernel)
set_option maxRecDepth 20000 in
theorem gX1_copy_X5_copy : GoodIn wsX1_copy (wsV RX1 62 RX5 yX5_copy wsX5_copy) := goodIn_app (goodIn_of _ (by decide +kernel)) ggX1_copy_X5_copy
set_option maxRecDepth 20000 in
theorem dA_X1_copy_0 : (([(0, .aload_n 0, 1), (1, .aload_n 1, 1), (2, .getfield 40, 3), (5, .putfield 40, 3), (8, .aload_n 0, 1), (9, .aload_n 1, 1), (10, .getfield 36, 3), (13, .putfield 36, 3), (16, .aload_n 0, 1), (17, .aload_n 1, 1), (18, .getfield 43, 3), (21, .putfield 43, 3), (24, .aload_n 0, 1), (25, .aload_n 1, 1), (26, .getfield 46, 3), (29, .putfield 46, 3), (32, .aload_n 0, 1), (33, .aload_n 1, 1), (34, .getfield 49, 3), (37, .putfield 49, 3), (40, .iconst 0, 1), (41, .istore_n 2, 1), (42, .iload_n 2, 1), (43, .bipush 6, 2), (45, .if_icmp .ge 19, 3), (48, .aload_n 0, 1), (49, .iload_n 2, 1), (50, .aload_n 1, 1), (51, .iload_n 2, 1), (52, .invokevirtual 58, 3), (55, .invokevirtual 52, 3), (58, .iinc 2 1, 3), (61, .goto (-19), 3), (64, .aload_n 0, 1), (65, .getfield 20, 3), (68, .aload_n 1, 1), (69, .getfield 20, 3), (72, .invokevirtual 62, 3), (75, .aload_n 0, 1), (76, .getfield 24, 3)] : List (Nat × Instr × Nat)).all fun q => decide (decode cX1_copy q.1 = .ok (q.2.1, q.2.2))) = true := by decide +kernel
theorem dX1_copy_0 : decode cX1_copy 0 = .ok (.aload_n 0, 1) := of_decide_eq_true (List.all_eq_true.mp dA_X1_copy_0 (0, .aload_n 0, 1) (List.mem_of_getElem? (i := 0) rfl))
theorem dX1_copy_1 : decode cX1_copy 1 = .ok (.aload_n 1, 1) := of_decide_eq_true (List.all_eq_true.mp dA_X1_copy_0 (1, .aload_n 1, 1) (List.mem_of_getElem? (i := 1) rfl))
theorem dX1_copy_2 : decode cX1_copy 2 = .ok (.getfield 40, 3) := of_decide_eq_true (List.all_eq_true.mp dA_X1_copy_0 (2, .getfield 40, 3) (List.mem_of_getElem? (i := 2) rfl))
theorem dX1_copy_5 : decode cX1_copy 5 = .ok (.putfield 40, 3) := of_decide_eq_true (List.all_eq_true.mp dA_X1_copy_0 (5, .putfield 40, 3) (List.mem_of_getElem? (i := 3) rfl))
theorem dX1_copy_8 : decode cX1_copy 8 = .ok (.aload_n 0, 1) := of_decide_eq_true (List.all_eq_true.mp dA_X1_copy_0 (8, .aload_n 0, 1) (List.mem_of_getElem? (i := 4) rfl))
theorem dX1_copy_9 : decode cX1_copy 9 = .ok (.aload_n 1, 1) := of_decide_eq_true (List.all_eq_true.mp dA_X1_copy_0 (9, .aload_n 1, 1) (List.mem_of_getElem? (i := 5) rfl))
theorem dX1_copy_10 : decode cX1_copy 10 = .ok (.getfield 36, 3) := of_decide_eq_true (List.all_eq_true.mp dA_X1_copy_0 (10, .getfield 36, 3) (List.mem_of_getElem? (i := 6) rfl))
theorem dX1_copy_13 : decode cX1_copy 13 = .ok (.putfield 36, 3) := of_decide_eq_true (List.all_eq_true.mp dA_X1_copy_0 (13, .putfield 36, 3) (List.mem_of_getElem? (i := 7) rfl))
theorem dX1_copy_16 : decode cX1_copy 16 = .ok (.aload_n 0, 1) := of_decide_eq_true (List.all_eq_true.mp dA_X1_copy_0 (16, .aload_n 0, 1) (List.mem_of_getElem? (i := 8) rfl))
theorem dX1_copy_17 : decode cX1_copy 17 = .ok (.aload_n 1, 1) := of_decide_eq_true (List.all_eq_true.mp dA_X1_copy_0 (17, .aload_n 1, 1) (List.mem_of_getElem? (i := 9) rfl))
theorem dX1_copy_18 : decode cX1_copy 18 = .ok (.getfield 43, 3) := of_decide_eq_true (List.all_eq_true.mp dA_X1_copy_0 (18, .getfield 43, 3) (List.mem_of_getElem? (i := 10) rfl))
theorem dX1_copy_21 : decode cX1_copy 21 = .ok (.putfield 43, 3) := of_decide_eq_true (List.all_eq_true.mp dA_X1_copy_0 (21, .putfield 43, 3) (List.mem_of_getElem? (i := 11) rfl))
theorem dX1_copy_24 : decode cX1_copy 24 = .ok (.aload_n 0, 1) := of_decide_eq_true (List.all_eq_true.mp dA_X1_copy_0 (24, .aload_n 0, 1) (List.mem_of_getElem? (i := 12) rfl))
theorem dX1_copy_25 : decode cX1_copy 25 = .ok (.aload_n 1, 1) := of_decide_eq_true (List.all_eq_true.mp dA_X1_copy_0 (25, .aload_n 1, 1) (List.mem_of_getElem? (i := 13) rfl))
theorem dX1_copy_26 : decode cX1_copy 26 = .ok (.getfield 46, 3) := of_decide_eq_true (List.all_eq_true.mp dA_X1_copy_0 (26, .getfield 46, 3) (List.mem_of_getElem? (i := 14) rfl))
theorem dX1_copy_29 : decode cX1_copy 29 = .ok (.putfield 46, 3) := of_decide_eq_true (List.all_eq_true.mp dA_X1_copy_0 (29, .putfield 46, 3) (List.mem_of_getElem? (i := 15) rfl))
theorem dX1_copy_32 : decode cX1_copy 32 = .ok (.aload_n 0, 1) := of_decide_eq_true (List.all_eq_true.mp dA_X1_copy_0 (32, .aload_n 0, 1) (List.mem_of_getElem? (i := 16) rfl))
theorem dX1_copy_33 : decode cX1_copy 33 = .ok (.aload_n 1, 1) := of_decide_eq_true (List.all_eq_true.mp dA_X1_copy_0 (33, .aload_n 1, 1) (List.mem_of_getElem? (i := 17) rfl))
theorem dX1_copy_34 : decode cX1_copy 34 = .ok (.getfield 49, 3) := of_decide_eq_true (List.all_eq_true.mp dA_X1_copy_0 (34, .getfield 49, 3) (List.mem_of_getElem? (i := 18) rfl))
theorem dX1_copy_37 : decode cX1_copy 37 = .ok (.putfield 49, 3) := of_decide_eq_true (List.all_eq_true.mp dA_X1_copy_0 (37, .putfield 49, 3) (List.mem_of_getElem? (i := 19) rfl))
theorem dX1_copy_40 : decode cX1_copy 40 = .ok (.iconst 0, 1) := of_decide_eq_true (List.all_eq_true.mp dA_X1_copy_0 (40, .iconst 0, 1) (List.mem_of_getElem? (i := 20) rfl))
theorem dX1_copy_41 : decode cX1_copy 41 = .ok (.istore_n 2, 1) := of_decide_eq_true (List.all_eq_true.mp dA_X1_copy_0 (41, .istore_n 2, 1) (List.mem_of_getElem? (i := 21) rfl))
theorem dX1_copy_42 : decode cX1_copy 42 = .ok (.iload_n 2, 1) := of_decide_eq_true (List.all_eq_true.mp dA_X1_copy_0 (42, .iload_n 2, 1) (List.mem_of_getElem? (i := 22) rfl))
theorem dX1_copy_43 : decode cX1_copy 43 = .ok (.bipush 6, 2) := of_decide_eq_true (List.all_eq_true.mp dA_X1_copy_0 (43, .bipush 6, 2) (List.mem_of_getElem? (i := 23) rfl))
theorem dX1_copy_45 : decode cX1_copy 45 = .ok (.if_icmp .ge 19, 3) := of_decide_eq_true (List.all_eq_true.mp dA_X1_copy_0 (45, .if_icmp .ge 19, 3) (List.mem_of_getElem? (i := 24) rfl))
theorem dX1_copy_48 : decode cX1_copy 48 = .ok (.aload_n 0, 1) := of_decide_eq_true (List.all_eq_true.mp dA_X1_copy_0 (48, .aload_n 0, 1) (List.mem_of_getElem? (i := 25) rfl))
theorem dX1_copy_49 : decode cX1_copy 49 = .ok (.iload_n 2, 1) := of_decide_eq_true (List.all_eq_true.mp dA_X1_copy_0 (49, .iload_n 2, 1) (List.mem_of_getElem? (i := 26) rfl))
theorem dX1_copy_50 : decode cX1_copy 50 = .ok (.aload_n 1, 1) := of_decide_eq_true (List.all_eq_true.mp dA_X1_copy_0 (50, .aload_n 1, 1) (List.mem_of_getElem? (i := 27) rfl))
theorem dX1_copy_51 : decode cX1_copy 51 = .ok (.iload_n 2, 1) := of_decide_eq_true (List.all_eq_true.mp dA_X1_copy_0 (51, .iload_n 2, 1) (List.mem_of_getElem? (i := 28) rfl))
theorem dX1_copy_52 : decode cX1_copy 52 = .ok (.invokevirtual 58, 3) := of_decide_eq_true (List.all_eq_true.mp dA_X1_copy_0 (52, .invokevirtual 58, 3) (List.mem_of_getElem? (i := 29) rfl))
theorem dX1_copy_55 : decode cX1_copy 55 = .ok (.invokevirtual 52, 3) := of_decide_eq_true (List.all_eq_true.mp dA_X1_copy_0 (55, .invokevirtual 52, 3) (List.mem_of_getElem? (i := 30) rfl))
theorem dX1_copy_58 : decode cX1_copy 58 = .ok (.iinc 2 1, 3) := of_decide_eq_true (List.all_eq_true.mp dA_X1_copy_0 (58, .iinc 2 1, 3) (List.mem_of_getElem? (i := 31) rfl))
theorem dX1_copy_61 : decode cX1_copy 61 = .ok (.goto (-19), 3) := of_decide_eq_true (List.all_eq_true.mp dA_X1_copy_0 (61, .goto (-19), 3) (List.mem_of_getElem? (i := 32) rfl))
theorem dX1_copy_64 : decode cX1_copy 64 = .ok (.aload_n 0, 1) := of_decide_eq_true (List.all_eq_true.mp dA_X1_copy_0 (64, .aload_n 0, 1) (List.mem_of_getElem? (i := 33) rfl))
theorem dX1_copy_65 : decode cX1_copy 65 = .ok (.getfield 20, 3) := of_decide_eq_true (List.all_eq_true.mp dA_X1_copy_0 (65, .getfield 20, 3) (List.mem_of_getElem? (i := 34) rfl))
theorem dX1_copy_68 : decode cX1_copy 68 = .ok (.aload_n 1, 1) := of_decide_eq_true (List.all_eq_true.mp dA_X1_copy_0 (68, .aload_n 1, 1) (List.mem_of_getElem? (i := 35) rfl))
theorem dX1_copy_69 : decode cX1_copy 69 = .ok (.getfield 20, 3) := of_decide_eq_true (List.all_eq_true.mp dA_X1_copy_0 (69, .getfield 20, 3) (List.mem_of_getElem? (i := 36) rfl))
theorem dX1_copy_72 : decode cX1_copy 72 = .ok (.invokevirtual 62, 3) := of_decide_eq_true (List.all_eq_true.mp dA_X1_copy_0 (72, .invokevirtual 62, 3) (List.mem_of_getElem? (i := 37) rfl))
theorem dX1_copy_75 : decode cX1_copy 75 = .ok (.aload_n 0, 1) := of_decide_eq_true (List.all_eq_true.mp dA_X1_copy_0 (75, .aload_n 0, 1) (List.mem_of_getElem? (i := 38) rfl))
theorem dX1_copy_76 : decode cX1_copy 76 = .ok (.getfield 24, 3) := of_decide_eq_true (List.all_eq_true.mp dA_X1_copy_0 (76, .getfield 24, 3) (List.mem_of_getElem? (i := 39) rfl))
set_option maxRecDepth 20000 in
theorem dA_X1_copy_79 : (([(79, .aload_n 1, 1), (80, .getfield 24, 3), (83, .invokevirtual 62, 3), (86, .aload_n 0, 1), (87, .getfield 27, 3), (90, .aload_n 1, 1), (91, .getfield 27, 3), (94, .invokevirtual 62, 3), (97, .aload_n 0, 1), (98, .getfield 30, 3), (101, .aload_n 1, 1), (102, .getfield 30, 3), (105, .invokevirtual 62, 3), (108, .aload_n 0, 1), (109, .getfield 33, 3), (112, .aload_n 1, 1), (113, .getfield 33, 3), (116, .invokevirtual 62, 3), (119, .return_, 1)] : List (Nat × Instr × Nat)).all fun q => decide (decode cX1_copy q.1 = .ok (q.2.1, q.2.2))) = true := by decide +kernel
theorem dX1_copy_79 : decode cX1_copy 79 = .ok (.aload_n 1, 1) := of_decide_eq_true (List.all_eq_true.mp dA_X1_copy_79 (79, .aload_n 1, 1) (List.mem_of_getElem? (i := 0) rfl))
theorem dX1_copy_80 : decode cX1_copy 80 = .ok (.getfield 24, 3) := of_decide_eq_true (List.all_eq_true.mp dA_X1_copy_79 (80, .getfield 24, 3) (List.mem_of_getElem? (i := 1) rfl))
theorem dX1_copy_83 : decode cX1_copy 83 = .ok (.invokevirtual 62, 3) := of_decide_eq_true (List.all_eq_true.mp dA_X1_copy_79 (83, .invokevirtual 62, 3) (List.mem_of_getElem? (i := 2) rfl))
theorem dX1_copy_86 : decode cX1_copy 86 = .ok (.aload_n 0, 1) := of_decide_eq_true (List.all_eq_true.mp dA_X1_copy_79 (86, .aload_n 0, 1) (List.mem_of_getElem? (i := 3) rfl))
theorem dX1_copy_87 : decode cX1_copy 87 = .ok (.getfield 27, 3) := of_decide_eq_true (List.all_eq_true.mp dA_X1_copy_79 (87, .getfield 27, 3) (List.mem_of_getElem? (i := 4) rfl))
theorem dX1_copy_90 : decode cX1_copy 90 = .ok (.aload_n 1, 1) := of_decide_eq_true (List.all_eq_true.mp dA_X1_copy_79 (90, .aload_n 1, 1) (List.mem_of_getElem? (i := 5) rfl))
theorem dX1_copy_91 : decode cX1_copy 91 = .ok (.getfield 27, 3) := of_decide_eq_true (List.all_eq_true.mp dA_X1_copy_79 (91, .getfield 27, 3) (List.mem_of_getElem? (i := 6) rfl))
theorem dX1_copy_94 : decode cX1_copy 94 = .ok (.invokevirtual 62, 3) := of_decide_eq_true (List.all_eq_true.mp dA_X1_copy_79 (94, .invokevirtual 62, 3) (List.mem_of_getElem? (i := 7) rfl))
theorem dX1_copy_97 : decode cX1_copy 97 = .ok (.aload_n 0, 1) := of_decide_eq_true (List.all_eq_true.mp dA_X1_copy_79 (97, .aload_n 0, 1) (List.mem_of_getElem? (i := 8) rfl))
theorem dX1_copy_98 : decode cX1_copy 98 = .ok (.getfield 30, 3) := of_decide_eq_true (List.all_eq_true.mp dA_X1_copy_79 (98, .getfield 30, 3) (List.mem_of_getElem? (i := 9) rfl))
theorem dX1_copy_101 : decode cX1_copy 101 = .ok (.aload_n 1, 1) := of_decide_eq_true (List.all_eq_true.mp dA_X1_copy_79 (101, .aload_n 1, 1) (List.mem_of_getElem? (i := 10) rfl))
theorem dX1_copy_102 : decode cX1_copy 102 = .ok (.getfield 30, 3) := of_decide_eq_true (List.all_eq_true.mp dA_X1_copy_79 (102, .getfield 30, 3) (List.mem_of_getElem? (i := 11) rfl))
theorem dX1_copy_105 : decode cX1_copy 105 = .ok (.invokevirtual 62, 3) := of_decide_eq_true (List.all_eq_true.mp dA_X1_copy_79 (105, .invokevirtual 62, 3) (List.mem_of_getElem? (i := 12) rfl))
theorem dX1_copy_108 : decode cX1_copy 108 = .ok (.aload_n 0, 1) := of_decide_eq_true (List.all_eq_true.mp dA_X1_copy_79 (108, .aload_n 0, 1) (List.mem_of_getElem? (i := 13) rfl))
theorem dX1_copy_109 : decode cX1_copy 109 = .ok (.getfield 33, 3) := of_decide_eq_true (List.all_eq_true.mp dA_X1_copy_79 (109, .getfield 33, 3) (List.mem_of_getElem? (i := 14) rfl))
theorem dX1_copy_112 : decode cX1_copy 112 = .ok (.aload_n 1, 1) := of_decide_eq_true (List.all_eq_true.mp dA_X1_copy_79 (112, .aload_n 1, 1) (List.mem_of_getElem? (i := 15) rfl))
theorem dX1_copy_113 : decode cX1_copy 113 = .ok (.getfield 33, 3) := of_decide_eq_true (List.all_eq_true.mp dA_X1_copy_79 (113, .getfield 33, 3) (List.mem_of_getElem? (i := 16) rfl))
theorem dX1_copy_116 : decode cX1_copy 116 = .ok (.invokevirtual 62, 3) := of_decide_eq_true (List.all_eq_true.mp dA_X1_copy_79 (116, .invokevirtual 62, 3) (List.mem_of_getElem? (i := 17) rfl))
theorem dX1_copy_119 : decode cX1_copy 119 = .ok (.return_, 1) := of_decide_eq_true (List.all_eq_true.mp dA_X1_copy_79 (119, .return_, 1) (List.mem_of_getElem? (i := 18) rfl))
set_option maxRecDepth 20000 in
theorem dA_X1_wetOf_0 : (([(0, .iload_n 1, 1), (1, .bipush 6, 2), (3, .irem, 1), (4, .istore_n 2, 1), (5, .iload_n 2, 1), (6, .ifCond .lt 21, 3), (9, .iload_n 2, 1), (10, .aload_n 0, 1), (11, .getfield 11, 3), (14, .arraylength, 1), (15, .if_icmp .ge 12, 3), (18, .aload_n 0, 1), (19, .getfield 11, 3), (22, .iload_n 2, 1), (23, .iaload, 1), (24, .goto 4, 3), (27, .iconst 0, 1), (28, .ireturn, 1)] : List (Nat × Instr × Nat)).all fun q => decide (decode cX1_wetOf q.1 = .ok (q.2.1, q.2.2))) = true := by decide +kernel
theorem dX1_wetOf_0 : decode cX1_wetOf 0 = .ok (.iload_n 1, 1) := of_decide_eq_true (List.all_eq_true.mp dA_X1_wetOf_0 (0, .iload_n 1, 1) (List.mem_of_getElem? (i := 0) rfl))
theorem dX1_wetOf_1 : decode cX1_wetOf 1 = .ok (.bipush 6, 2) := of_decide_eq_true (List.all_eq_true.mp dA_X1_wetOf_0 (1, .bipush 6, 2) (List.mem_of_getElem? (i := 1) rfl))
theorem dX1_wetOf_3 : decode cX1_wetOf 3 = .ok (.irem, 1) := of_decide_eq_true (List.all_eq_true.mp dA_X1_wetOf_0 (3, .irem, 1) (List.mem_of_getElem? (i := 2) rfl))
theorem dX1_wetOf_4 : decode cX1_wetOf 4 = .ok (.istore_n 2, 1) := of_decide_eq_true (List.all_eq_true.mp dA_X1_wetOf_0 (4, .istore_n 2, 1) (List.mem_of_getElem? (i := 3) rfl))
theorem dX1_wetOf_5 : decode cX1_wetOf 5 = .ok (.iload_n 2, 1) := of_decide_eq_true (List.all_eq_true.mp dA_X1_wetOf_0 (5, .iload_n 2, 1) (List.mem_of_getElem? (i := 4) rfl))
theorem dX1_wetOf_6 : decode cX1_wetOf 6 = .ok (.ifCond .lt 21, 3) := of_decide_eq_true (List.all_eq_true.mp dA_X1_wetOf_0 (6, .ifCond .lt 21, 3) (List.mem_of_getElem? (i := 5) rfl))
theorem dX1_wetOf_9 : decode cX1_wetOf 9 = .ok (.iload_n 2, 1) := of_decide_eq_true (List.all_eq_true.mp dA_X1_wetOf_0 (9, .iload_n 2, 1) (List.mem_of_getElem? (i := 6) rfl))
theorem dX1_wetOf_10 : decode cX1_wetOf 10 = .ok (.aload_n 0, 1) := of_decide_eq_true (List.all_eq_true.mp dA_X1_wetOf_0 (10, .aload_n 0, 1) (List.mem_of_getElem? (i := 7) rfl))
theorem dX1_wetOf_11 : decode cX1_wetOf 11 = .ok (.getfield 11, 3) := of_decide_eq_true (List.all_eq_true.mp dA_X1_wetOf_0 (11, .getfield 11, 3) (List.mem_of_getElem? (i := 8) rfl))
theorem dX1_wetOf_14 : decode cX1_wetOf 14 = .ok (.arraylength, 1) := of_decide_eq_true (List.all_eq_true.mp dA_X1_wetOf_0 (14, .arraylength, 1) (List.mem_of_getElem? (i := 9) rfl))
theorem dX1_wetOf_15 : decode cX1_wetOf 15 = .ok (.if_icmp .ge 12, 3) := of_decide_eq_true (List.all_eq_true.mp dA_X1_wetOf_0 (15, .if_icmp .ge 12, 3) (List.mem_of_getElem? (i := 10) rfl))
theorem dX1_wetOf_18 : decode cX1_wetOf 18 = .ok (.aload_n 0, 1) := of_decide_eq_true (List.all_eq_true.mp dA_X1_wetOf_0 (18, .aload_n 0, 1) (List.mem_of_getElem? (i := 11) rfl))
theorem dX1_wetOf_19 : decode cX1_wetOf 19 = .ok (.getfield 11, 3) := of_decide_eq_true (List.all_eq_true.mp dA_X1_wetOf_0 (19, .getfield 11, 3) (List.mem_of_getElem? (i := 12) rfl))
theorem dX1_wetOf_22 : decode cX1_wetOf 22 = .ok (.iload_n 2, 1) := of_decide_eq_true (List.all_eq_true.mp dA_X1_wetOf_0 (22, .iload_n 2, 1) (List.mem_of_getElem? (i := 13) rfl))
theorem dX1_wetOf_23 : decode cX1_wetOf 23 = .ok (.iaload, 1) := of_decide_eq_true (List.all_eq_true.mp dA_X1_wetOf_0 (23, .iaload, 1) (List.mem_of_getElem? (i := 14) rfl))
theorem dX1_wetOf_24 : decode cX1_wetOf 24 = .ok (.goto 4, 3) := of_decide_eq_true (List.all_eq_true.mp dA_X1_wetOf_0 (24, .goto 4, 3) (List.mem_of_getElem? (i := 15) rfl))
theorem dX1_wetOf_27 : decode cX1_wetOf 27 = .ok (.iconst 0, 1) := of_decide_eq_true (List.all_eq_true.mp dA_X1_wetOf_0 (27, .iconst 0, 1) (List.mem_of_getElem? (i := 16) rfl))
theorem dX1_wetOf_28 : decode cX1_wetOf 28 = .ok (.ireturn, 1) := of_decide_eq_true (List.all_eq_true.mp dA_X1_wetOf_0 (28, .ireturn, 1) (List.mem_of_getElem? (i := 17) rfl))
set_option maxRecDepth 20000 in
theorem dA_X1_setWet_0 : (([(0, .iload_n 1, 1), (1, .ifCond .lt 19, 3), (4, .iload_n 1, 1), (5, .aload_n 0, 1), (6, .getfield 11, 3), (9, .arraylength, 1), (10, .if_icmp .ge 10, 3), (13, .aload_n 0, 1), (14, .getfield 11, 3), (17, .iload_n 1, 1), (18, .iload_n 2, 1), (19, .iastore, 1), (20, .return_, 1)] : List (Nat × Instr × Nat)).all fun q => decide (decode cX1_setWet q.1 = .ok (q.2.1, q.2.2))) = true := by decide +kernel
theorem dX1_setWet_0 : decode cX1_setWet 0 = .ok (.iload_n 1, 1) := of_decide_eq_true (List.all_eq_true.mp dA_X1_setWet_0 (0, .iload_n 1, 1) (List.mem_of_getElem? (i := 0) rfl))
theorem dX1_setWet_1 : decode cX1_setWet 1 = .ok (.ifCond .lt 19, 3) := of_decide_eq_true (List.all_eq_true.mp dA_X1_setWet_0 (1, .ifCond .lt 19, 3) (List.mem_of_getElem? (i := 1) rfl))
theorem dX1_setWet_4 : decode cX1_setWet 4 = .ok (.iload_n 1, 1) := of_decide_eq_true (List.all_eq_true.mp dA_X1_setWet_0 (4, .iload_n 1, 1) (List.mem_of_getElem? (i := 2) rfl))
theorem dX1_setWet_5 : decode cX1_setWet 5 = .ok (.aload_n 0, 1) := of_decide_eq_true (List.all_eq_true.mp dA_X1_setWet_0 (5, .aload_n 0, 1) (List.mem_of_getElem? (i := 3) rfl))
theorem dX1_setWet_6 : decode cX1_setWet 6 = .ok (.getfield 11, 3) := of_decide_eq_true (List.all_eq_true.mp dA_X1_setWet_0 (6, .getfield 11, 3) (List.mem_of_getElem? (i := 4) rfl))
theorem dX1_setWet_9 : decode cX1_setWet 9 = .ok (.arraylength, 1) := of_decide_eq_true (List.all_eq_true.mp dA_X1_setWet_0 (9, .arraylength, 1) (List.mem_of_getElem? (i := 5) rfl))
theorem dX1_setWet_10 : decode cX1_setWet 10 = .ok (.if_icmp .ge 10, 3) := of_decide_eq_true (List.all_eq_true.mp dA_X1_setWet_0 (10, .if_icmp .ge 10, 3) (List.mem_of_getElem? (i := 6) rfl))
theorem dX1_setWet_13 : decode cX1_setWet 13 = .ok (.aload_n 0, 1) := of_decide_eq_true (List.all_eq_true.mp dA_X1_setWet_0 (13, .aload_n 0, 1) (List.mem_of_getElem? (i := 7) rfl))
theorem dX1_setWet_14 : decode cX1_setWet 14 = .ok (.getfield 11, 3) := of_decide_eq_true (List.all_eq_true.mp dA_X1_setWet_0 (14, .getfield 11, 3) (List.mem_of_getElem? (i := 8) rfl))
theorem dX1_setWet_17 : decode cX1_setWet 17 = .ok (.iload_n 1, 1) := of_decide_eq_true (List.all_eq_true.mp dA_X1_setWet_0 (17, .iload_n 1, 1) (List.mem_of_getElem? (i := 9) rfl))
theorem dX1_setWet_18 : decode cX1_setWet 18 = .ok (.iload_n 2, 1) := of_decide_eq_true (List.all_eq_true.mp dA_X1_setWet_0 (18, .iload_n 2, 1) (List.mem_of_getElem? (i := 10) rfl))
theorem dX1_setWet_19 : decode cX1_setWet 19 = .ok (.iastore, 1) := of_decide_eq_true (List.all_eq_true.mp dA_X1_setWet_0 (19, .iastore, 1) (List.mem_of_getElem? (i := 11) rfl))
theorem dX1_setWet_20 : decode cX1_setWet 20 = .ok (.return_, 1) := of_decide_eq_true (List.all_eq_true.mp dA_X1_setWet_0 (20, .return_, 1) (List.mem_of_getElem? (i := 12) rfl))
set_option maxRecDepth 20000 in
theorem ggX1_wetNow_X1_wetOf : GoodIn wsX1_wetNow wsX1_wetOf := goodIn_r _ [6, 7, 8, 9, 10, 11, 12, 13, 14, 15, 16, 17, 18] (by decide +kernel) (by decide +kernel)
set_option maxRecDepth 20000 in
theorem gX1_wetNow_X1_wetOf : GoodIn wsX1_wetNow (wsV RX1 58 RX1 yX1_wetOf wsX1_wetOf) := goodIn_app (goodIn_of _ (by decide +kernel)) ggX1_wetNow_X1_wetOf
set_option maxRecDepth 20000 in
theorem dA_X1_wetNow_0 : (([(0, .aload_n 0, 1), (1, .aload_n 0, 1), (2, .getfield 43, 3), (5, .invokevirtual 58, 3), (8, .ireturn, 1)] : List (Nat × Instr × Nat)).all fun q => decide (decode cX1_wetNow q.1 = .ok (q.2.1, q.2.2))) = true := by decide +kernel
theorem dX1_wetNow_0 : decode cX1_wetNow 0 = .ok (.aload_n 0, 1) := of_decide_eq_true (List.all_eq_true.mp dA_X1_wetNow_0 (0, .aload_n 0, 1) (List.mem_of_getElem? (i := 0) rfl))
theorem dX1_wetNow_1 : decode cX1_wetNow 1 = .ok (.aload_n 0, 1) := of_decide_eq_true (List.all_eq_true.mp dA_X1_wetNow_0 (1, .aload_n 0, 1) (List.mem_of_getElem? (i := 1) rfl))
theorem dX1_wetNow_2 : decode cX1_wetNow 2 = .ok (.getfield 43, 3) := of_decide_eq_true (List.all_eq_true.mp dA_X1_wetNow_0 (2, .getfield 43, 3) (List.mem_of_getElem? (i := 2) rfl))
theorem dX1_wetNow_5 : decode cX1_wetNow 5 = .ok (.invokevirtual 58, 3) := of_decide_eq_true (List.all_eq_true.mp dA_X1_wetNow_0 (5, .invokevirtual 58, 3) (List.mem_of_getElem? (i := 3) rfl))
theorem dX1_wetNow_8 : decode cX1_wetNow 8 = .ok (.ireturn, 1) := of_decide_eq_true (List.all_eq_true.mp dA_X1_wetNow_0 (8, .ireturn, 1) (List.mem_of_getElem? (i := 4) rfl))
set_option maxRecDepth 20000 in
theorem ggX1_welcome_X5_append : GoodIn wsX1_welcome wsX5_append := goodIn_r _ [6, 7, 8, 9, 10, 11, 5, 12, 13, 14, 15, 16, 17, 18, 31, 32, 33, 34] (by decide +kernel) (by decide +kernel)
set_option maxRecDepth 20000 in
theorem gX1_welcome_X5_append : GoodIn wsX1_welcome (wsV RX1 66 RX5 yX5_append wsX5_append) := goodIn_app (goodIn_of _ (by decide +kernel)) ggX1_welcome_X5_append
set_option maxRecDepth 20000 in
theorem ggX1_welcome_X5_put : GoodIn wsX1_welcome wsX5_put := goodIn_r _ [17, 7, 8, 18, 31, 32, 33, 34] (by decide +kernel) (by decide +kernel)
set_option maxRecDepth 20000 in
theorem gX1_welcome_X5_put : GoodIn wsX1_welcome (wsV RX1 70 RX5 yX5_put wsX5_put) := goodIn_app (goodIn_of _ (by decide +kernel)) ggX1_welcome_X5_put
set_option maxRecDepth 20000 in
theorem dA_X1_welcome_0 : (([(0, .aload_n 0, 1), (1, .getfield 20, 3), (4, .invokevirtual 66, 3), (7, .istore_n 3, 1), (8, .aload_n 0, 1), (9, .getfield 20, 3), (12, .iload_n 3, 1), (13, .iconst 0, 1), (14, .iload_n 1, 1), (15, .invokevirtual 70, 3), (18, .aload_n 0, 1), (19, .getfield 20, 3), (22, .iload_n 3, 1), (23, .iconst 1, 1), (24, .iload_n 2, 1), (25, .invokevirtual 70, 3), (28, .iload_n 3, 1), (29, .ireturn, 1)] : List (Nat × Instr × Nat)).all fun q => decide (decode cX1_welcome q.1 = .ok (q.2.1, q.2.2))) = true := by decide +kernel
theorem dX1_welcome_0 : decode cX1_welcome 0 = .ok (.aload_n 0, 1) := of_decide_eq_true (List.all_eq_true.mp dA_X1_welcome_0 (0, .aload_n 0, 1) (List.mem_of_getElem? (i := 0) rfl))
theorem dX1_welcome_1 : decode cX1_welcome 1 = .ok (.getfield 20, 3) := of_decide_eq_true (List.all_eq_true.mp dA_X1_welcome_0 (1, .getfield 20, 3) (List.mem_of_getElem? (i := 1) rfl))
theorem dX1_welcome_4 : decode cX1_welcome 4 = .ok (.invokevirtual 66, 3) := of_decide_eq_true (List.all_eq_true.mp dA_X1_welcome_0 (4, .invokevirtual 66, 3) (List.mem_of_getElem? (i := 2) rfl))
theorem dX1_welcome_7 : decode cX1_welcome 7 = .ok (.istore_n 3, 1) := of_decide_eq_true (List.all_eq_true.mp dA_X1_welcome_0 (7, .istore_n 3, 1) (List.mem_of_getElem? (i := 3) rfl))
theorem dX1_welcome_8 : decode cX1_welcome 8 = .ok (.aload_n 0, 1) := of_decide_eq_true (List.all_eq_true.mp dA_X1_welcome_0 (8, .aload_n 0, 1) (List.mem_of_getElem? (i := 4) rfl))
theorem dX1_welcome_9 : decode cX1_welcome 9 = .ok (.getfield 20, 3) := of_decide_eq_true (List.all_eq_true.mp dA_X1_welcome_0 (9, .getfield 20, 3) (List.mem_of_getElem? (i := 5) rfl))
theorem dX1_welcome_12 : decode cX1_welcome 12 = .ok (.iload_n 3, 1) := of_decide_eq_true (List.all_eq_true.mp dA_X1_welcome_0 (12, .iload_n 3, 1) (List.mem_of_getElem? (i := 6) rfl))
theorem dX1_welcome_13 : decode cX1_welcome 13 = .ok (.iconst 0, 1) := of_decide_eq_true (List.all_eq_true.mp dA_X1_welcome_0 (13, .iconst 0, 1) (List.mem_of_getElem? (i := 7) rfl))
theorem dX1_welcome_14 : decode cX1_welcome 14 = .ok (.iload_n 1, 1) := of_decide_eq_true (List.all_eq_true.mp dA_X1_welcome_0 (14, .iload_n 1, 1) (List.mem_of_getElem? (i := 8) rfl))
theorem dX1_welcome_15 : decode cX1_welcome 15 = .ok (.invokevirtual 70, 3) := of_decide_eq_true (List.all_eq_true.mp dA_X1_welcome_0 (15, .invokevirtual 70, 3) (List.mem_of_getElem? (i := 9) rfl))
theorem dX1_welcome_18 : decode cX1_welcome 18 = .ok (.aload_n 0, 1) := of_decide_eq_true (List.all_eq_true.mp dA_X1_welcome_0 (18, .aload_n 0, 1) (List.mem_of_getElem? (i := 10) rfl))
theorem dX1_welcome_19 : decode cX1_welcome 19 = .ok (.getfield 20, 3) := of_decide_eq_true (List.all_eq_true.mp dA_X1_welcome_0 (19, .getfield 20, 3) (List.mem_of_getElem? (i := 11) rfl))
theorem dX1_welcome_22 : decode cX1_welcome 22 = .ok (.iload_n 3, 1) := of_decide_eq_true (List.all_eq_true.mp dA_X1_welcome_0 (22, .iload_n 3, 1) (List.mem_of_getElem? (i := 12) rfl))
theorem dX1_welcome_23 : decode cX1_welcome 23 = .ok (.iconst 1, 1) := of_decide_eq_true (List.all_eq_true.mp dA_X1_welcome_0 (23, .iconst 1, 1) (List.mem_of_getElem? (i := 13) rfl))
theorem dX1_welcome_24 : decode cX1_welcome 24 = .ok (.iload_n 2, 1) := of_decide_eq_true (List.all_eq_true.mp dA_X1_welcome_0 (24, .iload_n 2, 1) (List.mem_of_getElem? (i := 14) rfl))
theorem dX1_welcome_25 : decode cX1_welcome 25 = .ok (.invokevirtual 70, 3) := of_decide_eq_true (List.all_eq_true.mp dA_X1_welcome_0 (25, .invokevirtual 70, 3) (List.mem_of_getElem? (i := 15) rfl))
theorem dX1_welcome_28 : decode cX1_welcome 28 = .ok (.iload_n 3, 1) := of_decide_eq_true (List.all_eq_true.mp dA_X1_welcome_0 (28, .iload_n 3, 1) (List.mem_of_getElem? (i := 16) rfl))
theorem dX1_welcome_29 : decode cX1_welcome 29 = .ok (.ireturn, 1) := of_decide_eq_true (List.all_eq_true.mp dA_X1_welcome_0 (29, .ireturn, 1) (List.mem_of_getElem? (i := 17) rfl))
set_option maxRecDepth 20000 in
theorem ggX1_isThere_X8_within : GoodIn wsX1_isThere wsX8_within := goodIn_r _ [4] (by decide +kernel) (by decide +kernel)
set_option maxRecDepth 20000 in
theorem gX1_isThere_X8_within_n77 : GoodIn wsX1_isThere (wsX8_within) := ggX1_isThere_X8_within
set_option maxRecDepth 20000 in
theorem dA_X1_isThere_0 : (([(0, .iload_n 1, 1), (1, .iconst 0, 1), (2, .aload_n 0, 1), (3, .getfield 20, 3), (6, .getfield 74, 3), (9, .iconst 1, 1), (10, .isub, 1), (11, .invokestatic 77, 3), (14, .ireturn, 1)] : List (Nat × Instr × Nat)).all fun q => decide (decode cX1_isThere q.1 = .ok (q.2.1, q.2.2))) = true := by decide +kernel
theorem dX1_isThere_0 : decode cX1_isThere 0 = .ok (.iload_n 1, 1) := of_decide_eq_true (List.all_eq_true.mp dA_X1_isThere_0 (0, .iload_n 1, 1) (List.mem_of_getElem? (i := 0) rfl))
theorem dX1_isThere_1 : decode cX1_isThere 1 = .ok (.iconst 0, 1) := of_decide_eq_true (List.all_eq_true.mp dA_X1_isThere_0 (1, .iconst 0, 1) (List.mem_of_getElem? (i := 1) rfl))
theorem dX1_isThere_2 : decode cX1_isThere 2 = .ok (.aload_n 0, 1) := of_decide_eq_true (List.all_eq_true.mp dA_X1_isThere_0 (2, .aload_n 0, 1) (List.mem_of_getElem? (i := 2) rfl))
theorem dX1_isThere_3 : decode cX1_isThere 3 = .ok (.getfield 20, 3) := of_decide_eq_true (List.all_eq_true.mp dA_X1_isThere_0 (3, .getfield 20, 3) (List.mem_of_getElem? (i := 3) rfl))
theorem dX1_isThere_6 : decode cX1_isThere 6 = .ok (.getfield 74, 3) := of_decide_eq_true (List.all_eq_true.mp dA_X1_isThere_0 (6, .getfield 74, 3) (List.mem_of_getElem? (i := 4) rfl))
theorem dX1_isThere_9 : decode cX1_isThere 9 = .ok (.iconst 1, 1) := of_decide_eq_true (List.all_eq_true.mp dA_X1_isThere_0 (9, .iconst 1, 1) (List.mem_of_getElem? (i := 5) rfl))
theorem dX1_isThere_10 : decode cX1_isThere 10 = .ok (.isub, 1) := of_decide_eq_true (List.all_eq_true.mp dA_X1_isThere_0 (10, .isub, 1) (List.mem_of_getElem? (i := 6) rfl))
theorem dX1_isThere_11 : decode cX1_isThere 11 = .ok (.invokestatic 77, 3) := of_decide_eq_true (List.all_eq_true.mp dA_X1_isThere_0 (11, .invokestatic 77, 3) (List.mem_of_getElem? (i := 7) rfl))
theorem dX1_isThere_14 : decode cX1_isThere 14 = .ok (.ireturn, 1) := of_decide_eq_true (List.all_eq_true.mp dA_X1_isThere_0 (14, .ireturn, 1) (List.mem_of_getElem? (i := 8) rfl))
set_option maxRecDepth 20000 in
theorem ggX1_isIn_X5_cell : GoodIn wsX1_isIn wsX5_cell := goodIn_r _ [6, 7, 8, 9, 21, 22, 23, 24] (by decide +kernel) (by decide +kernel)
set_option maxRecDepth 20000 in
theorem gX1_isIn_X5_cell : GoodIn wsX1_isIn (wsV RX1 81 RX5 yX5_cell wsX5_cell) := goodIn_app (goodIn_of _ (by decide +kernel)) ggX1_isIn_X5_cell
set_option maxRecDepth 20000 in
theorem dA_X1_isIn_0 : (([(0, .aload_n 0, 1), (1, .getfield 20, 3), (4, .iload_n 1, 1), (5, .iconst 3, 1), (6, .invokevirtual 81, 3), (9, .iconst 1, 1), (10, .if_icmp .ne 7, 3), (13, .iconst 1, 1), (14, .goto 4, 3), (17, .iconst 0, 1), (18, .ireturn, 1)] : List (Nat × Instr × Nat)).all fun q => decide (decode cX1_isIn q.1 = .ok (q.2.1, q.2.2))) = true := by decide +kernel
theorem dX1_isIn_0 : decode cX1_isIn 0 = .ok (.aload_n 0, 1) := of_decide_eq_true (List.all_eq_true.mp dA_X1_isIn_0 (0, .aload_n 0, 1) (List.mem_of_getElem? (i := 0) rfl))
theorem dX1_isIn_1 : decode cX1_isIn 1 = .ok (.getfield 20, 3) := of_decide_eq_true (List.all_eq_true.mp dA_X1_isIn_0 (1, .getfield 20, 3) (List.mem_of_getElem? (i := 1) rfl))
theorem dX1_isIn_4 : decode cX1_isIn 4 = .ok (.iload_n 1, 1) := of_decide_eq_true (List.all_eq_true.mp dA_X1_isIn_0 (4, .iload_n 1, 1) (List.mem_of_getElem? (i := 2) rfl))
theorem dX1_isIn_5 : decode cX1_isIn 5 = .ok (.iconst 3, 1) := of_decide_eq_true (List.all_eq_true.mp dA_X1_isIn_0 (5, .iconst 3, 1) (List.mem_of_getElem? (i := 3) rfl))
theorem dX1_isIn_6 : decode cX1_isIn 6 = .ok (.invokevirtual 81, 3) := of_decide_eq_true (List.all_eq_true.mp dA_X1_isIn_0 (6, .invokevirtual 81, 3) (List.mem_of_getElem? (i := 4) rfl))
theorem dX1_isIn_9 : decode cX1_isIn 9 = .ok (.iconst 1, 1) := of_decide_eq_true (List.all_eq_true.mp dA_X1_isIn_0 (9, .iconst 1, 1) (List.mem_of_getElem? (i := 5) rfl))
theorem dX1_isIn_10 : decode cX1_isIn 10 = .ok (.if_icmp .ne 7, 3) := of_decide_eq_true (List.all_eq_true.mp dA_X1_isIn_0 (10, .if_icmp .ne 7, 3) (List.mem_of_getElem? (i := 6) rfl))
theorem dX1_isIn_13 : decode cX1_isIn 13 = .ok (.iconst 1, 1) := of_decide_eq_true (List.all_eq_true.mp dA_X1_isIn_0 (13, .iconst 1, 1) (List.mem_of_getElem? (i := 7) rfl))
theorem dX1_isIn_14 : decode cX1_isIn 14 = .ok (.goto 4, 3) := of_decide_eq_true (List.all_eq_true.mp dA_X1_isIn_0 (14, .goto 4, 3) (List.mem_of_getElem? (i := 8) rfl))
theorem dX1_isIn_17 : decode cX1_isIn 17 = .ok (.iconst 0, 1) := of_decide_eq_true (List.all_eq_true.mp dA_X1_isIn_0 (17, .iconst 0, 1) (List.mem_of_getElem? (i := 9) rfl))
theorem dX1_isIn_18 : decode cX1_isIn 18 = .ok (.ireturn, 1) := of_decide_eq_true (List.all_eq_true.mp dA_X1_isIn_0 (18, .ireturn, 1) (List.mem_of_getElem? (i := 10) rfl))
set_option maxRecDepth 20000 in
theorem ggX1_howManyIn_X5_sum : GoodIn wsX1_howManyIn wsX5_sum := goodIn_r _ [6, 7, 8, 9, 10, 5, 11, 12, 13, 25, 26, 27, 28] (by decide +kernel) (by decide +kernel)
set_option maxRecDepth 20000 in
theorem gX1_howManyIn_X5_sum : GoodIn wsX1_howManyIn (wsV RX1 85 RX5 yX5_sum wsX5_sum) := goodIn_app (goodIn_of _ (by decide +kernel)) ggX1_howManyIn_X5_sum
set_option maxRecDepth 20000 in
theorem dA_X1_howManyIn_0 : (([(0, .aload_n 0, 1), (1, .getfield 20, 3), (4, .iconst 3, 1), (5, .invokevirtual 85, 3), (8, .ireturn, 1)] : List (Nat × Instr × Nat)).all fun q => decide (decode cX1_howManyIn q.1 = .ok (q.2.1, q.2.2))) = true := by decide +kernel
theorem dX1_howManyIn_0 : decode cX1_howManyIn 0 = .ok (.aload_n 0, 1) := of_decide_eq_true (List.all_eq_true.mp dA_X1_howManyIn_0 (0, .aload_n 0, 1) (List.mem_of_getElem? (i := 0) rfl))
theorem dX1_howManyIn_1 : decode cX1_howManyIn 1 = .ok (.getfield 20, 3) := of_decide_eq_true (List.all_eq_true.mp dA_X1_howManyIn_0 (1, .getfield 20, 3) (List.mem_of_getElem? (i := 1) rfl))
theorem dX1_howManyIn_4 : decode cX1_howManyIn 4 = .ok (.iconst 3, 1) := of_decide_eq_true (List.all_eq_true.mp dA_X1_howManyIn_0 (4, .iconst 3, 1) (List.mem_of_getElem? (i := 2) rfl))
theorem dX1_howManyIn_5 : decode cX1_howManyIn 5 = .ok (.invokevirtual 85, 3) := of_decide_eq_true (List.all_eq_true.mp dA_X1_howManyIn_0 (5, .invokevirtual 85, 3) (List.mem_of_getElem? (i := 3) rfl))
theorem dX1_howManyIn_8 : decode cX1_howManyIn 8 = .ok (.ireturn, 1) := of_decide_eq_true (List.all_eq_true.mp dA_X1_howManyIn_0 (8, .ireturn, 1) (List.mem_of_getElem? (i := 4) rfl))
set_option maxRecDepth 20000 in
theorem ggX1_hasRoom_X5_sum : GoodIn wsX1_hasRoom wsX5_sum := goodIn_r _ [7, 8, 9, 10, 11, 6, 12, 13, 14, 26, 27, 28, 29] (by decide +kernel) (by decide +kernel)
set_option maxRecDepth 20000 in
theorem gX1_hasRoom_X5_sum : GoodIn wsX1_hasRoom (wsV RX1 85 RX5 yX5_sum wsX5_sum) := goodIn_app (goodIn_of _ (by decide +kernel)) ggX1_hasRoom_X5_sum
set_option maxRecDepth 20000 in
theorem dA_X1_hasRoom_0 : (([(0, .aload_n 0, 1), (1, .getfield 20, 3), (4, .iconst 3, 1), (5, .invokevirtual 85, 3), (8, .aload_n 0, 1), (9, .getfield 36, 3), (12, .if_icmp .ge 7, 3), (15, .iconst 1, 1), (16, .goto 4, 3), (19, .iconst 0, 1), (20, .ireturn, 1)] : List (Nat × Instr × Nat)).all fun q => decide (decode cX1_hasRoom q.1 = .ok (q.2.1, q.2.2))) = true := by decide +kernel
theorem dX1_hasRoom_0 : decode cX1_hasRoom 0 = .ok (.aload_n 0, 1) := of_decide_eq_true (List.all_eq_true.mp dA_X1_hasRoom_0 (0, .aload_n 0, 1) (List.mem_of_getElem? (i := 0) rfl))
theorem dX1_hasRoom_1 : decode cX1_hasRoom 1 = .ok (.getfield 20, 3) := of_decide_eq_true (List.all_eq_true.mp dA_X1_hasRoom_0 (1, .getfield 20, 3) (List.mem_of_getElem? (i := 1) rfl))
theorem dX1_hasRoom_4 : decode cX1_hasRoom 4 = .ok (.iconst 3, 1) := of_decide_eq_true (List.all_eq_true.mp dA_X1_hasRoom_0 (4, .iconst 3, 1) (List.mem_of_getElem? (i := 2) rfl))
theorem dX1_hasRoom_5 : decode cX1_hasRoom 5 = .ok (.invokevirtual 85, 3) := of_decide_eq_true (List.all_eq_true.mp dA_X1_hasRoom_0 (5, .invokevirtual 85, 3) (List.mem_of_getElem? (i := 3) rfl))
theorem dX1_hasRoom_8 : decode cX1_hasRoom 8 = .ok (.aload_n 0, 1) := of_decide_eq_true (List.all_eq_true.mp dA_X1_hasRoom_0 (8, .aload_n 0, 1) (List.mem_of_getElem? (i := 4) rfl))
theorem dX1_hasRoom_9 : decode cX1_hasRoom 9 = .ok (.getfield 36, 3) := of_decide_eq_true (List.all_eq_true.mp dA_X1_hasRoom_0 (9, .getfield 36, 3) (List.mem_of_getElem? (i := 5) rfl))
theorem dX1_hasRoom_12 : decode cX1_hasRoom 12 = .ok (.if_icmp .ge 7, 3) := of_decide_eq_true (List.all_eq_true.mp dA_X1_hasRoom_0 (12, .if_icmp .ge 7, 3) (List.mem_of_getElem? (i := 6) rfl))
theorem dX1_hasRoom_15 : decode cX1_hasRoom 15 = .ok (.iconst 1, 1) := of_decide_eq_true (List.all_eq_true.mp dA_X1_hasRoom_0 (15, .iconst 1, 1) (List.mem_of_getElem? (i := 7) rfl))
theorem dX1_hasRoom_16 : decode cX1_hasRoom 16 = .ok (.goto 4, 3) := of_decide_eq_true (List.all_eq_true.mp dA_X1_hasRoom_0 (16, .goto 4, 3) (List.mem_of_getElem? (i := 8) rfl))
theorem dX1_hasRoom_19 : decode cX1_hasRoom 19 = .ok (.iconst 0, 1) := of_decide_eq_true (List.all_eq_true.mp dA_X1_hasRoom_0 (19, .iconst 0, 1) (List.mem_of_getElem? (i := 9) rfl))
theorem dX1_hasRoom_20 : decode cX1_hasRoom 20 = .ok (.ireturn, 1) := of_decide_eq_true (List.all_eq_true.mp dA_X1_hasRoom_0 (20, .ireturn, 1) (List.mem_of_getElem? (i := 10) rfl))
set_option maxRecDepth 20000 in
theorem ggX1_likely_X5_cell : GoodIn wsX1_likely wsX5_cell := goodIn_r _ [6, 7, 8, 9, 25, 26, 27, 28] (by decide +kernel) (by decide +kernel)
set_option maxRecDepth 20000 in
theorem gX1_likely_X5_cell : GoodIn wsX1_likely (wsV RX1 81 RX5 yX5_cell wsX5_cell) := goodIn_app (goodIn_of _ (by decide +kernel)) ggX1_likely_X5_cell
set_option maxRecDepth 20000 in
theorem ggX1_likely_X2_likely : GoodIn wsX1_likely wsX2_likely := goodIn_r _ [13] (by decide +kernel) (by decide +kernel)
set_option maxRecDepth 20000 in
theorem gX1_likely_X2_likely : GoodIn wsX1_likely (va_wsS RX1 88 yX2_likely wsX2_likely) := goodIn_app (goodIn_of _ (by decide +kernel)) ggX1_likely_X2_likely
set_option maxRecDepth 20000 in
theorem dA_X1_likely_0 : (([(0, .aload_n 0, 1), (1, .getfield 20, 3), (4, .iload_n 1, 1), (5, .iconst 0, 1), (6, .invokevirtual 81, 3), (9, .iload_n 2, 1), (10, .iload_n 3, 1), (11, .iload 4, 2), (13, .invokestatic 88, 3), (16, .ireturn, 1)] : List (Nat × Instr × Nat)).all fun q => decide (decode cX1_likely q.1 = .ok (q.2.1, q.2.2))) = true := by decide +kernel
theorem dX1_likely_0 : decode cX1_likely 0 = .ok (.aload_n 0, 1) := of_decide_eq_true (List.all_eq_true.mp dA_X1_likely_0 (0, .aload_n 0, 1) (List.mem_of_getElem? (i := 0) rfl))
theorem dX1_likely_1 : decode cX1_likely 1 = .ok (.getfield 20, 3) := of_decide_eq_true (List.all_eq_true.mp dA_X1_likely_0 (1, .getfield 20, 3) (List.mem_of_getElem? (i := 1) rfl))
theorem dX1_likely_4 : decode cX1_likely 4 = .ok (.iload_n 1, 1) := of_decide_eq_true (List.all_eq_true.mp dA_X1_likely_0 (4, .iload_n 1, 1) (List.mem_of_getElem? (i := 2) rfl))
theorem dX1_likely_5 : decode cX1_likely 5 = .ok (.iconst 0, 1) := of_decide_eq_true (List.all_eq_true.mp dA_X1_likely_0 (5, .iconst 0, 1) (List.mem_of_getElem? (i := 3) rfl))
theorem dX1_likely_6 : decode cX1_likely 6 = .ok (.invokevirtual 81, 3) := of_decide_eq_true (List.all_eq_true.mp dA_X1_likely_0 (6, .invokevirtual 81, 3) (List.mem_of_getElem? (i := 4) rfl))
theorem dX1_likely_9 : decode cX1_likely 9 = .ok (.iload_n 2, 1) := of_decide_eq_true (List.all_eq_true.mp dA_X1_likely_0 (9, .iload_n 2, 1) (List.mem_of_getElem? (i := 5) rfl))
theorem dX1_likely_10 : decode cX1_likely 10 = .ok (.iload_n 3, 1) := of_decide_eq_true (List.all_eq_true.mp dA_X1_likely_0 (10, .iload_n 3, 1) (List.mem_of_getElem? (i := 6) rfl))
theorem dX1_likely_11 : decode cX1_likely 11 = .ok (.iload 4, 2) := of_decide_eq_true (List.all_eq_true.mp dA_X1_likely_0 (11, .iload 4, 2) (List.mem_of_getElem? (i := 7) rfl))
theorem dX1_likely_13 : decode cX1_likely 13 = .ok (.invokestatic 88, 3) := of_decide_eq_true (List.all_eq_true.mp dA_X1_likely_0 (13, .invokestatic 88, 3) (List.mem_of_getElem? (i := 8) rfl))
theorem dX1_likely_16 : decode cX1_likely 16 = .ok (.ireturn, 1) := of_decide_eq_true (List.all_eq_true.mp dA_X1_likely_0 (16, .ireturn, 1) (List.mem_of_getElem? (i := 9) rfl))
set_option maxRecDepth 20000 in
theorem ggX1_likelyNow_X5_cell : GoodIn wsX1_likelyNow wsX5_cell := goodIn_r _ [7, 8, 9, 10, 26, 27, 28, 29] (by decide +kernel) (by decide +kernel)
set_option maxRecDepth 20000 in
theorem gX1_likelyNow_X5_cell : GoodIn wsX1_likelyNow (wsV RX1 81 RX5 yX5_cell wsX5_cell) := goodIn_app (goodIn_of _ (by decide +kernel)) ggX1_likelyNow_X5_cell
set_option maxRecDepth 20000 in
theorem ggX1_likelyNow_X2_likely : GoodIn wsX1_likelyNow wsX2_likely := goodIn_r _ [14] (by decide +kernel) (by decide +kernel)
set_option maxRecDepth 20000 in
theorem gX1_likelyNow_X2_likely : GoodIn wsX1_likelyNow (va_wsS RX1 88 yX2_likely wsX2_likely) := goodIn_app (goodIn_of _ (by decide +kernel)) ggX1_likelyNow_X2_likely
set_option maxRecDepth 20000 in
theorem dA_X1_likelyNow_0 : (([(0, .aload_n 0, 1), (1, .getfield 20, 3), (4, .iload_n 1, 1), (5, .iconst 0, 1), (6, .invokevirtual 81, 3), (9, .aload_n 0, 1), (10, .getfield 20, 3), (13, .iload_n 1, 1), (14, .iconst 1, 1), (15, .invokevirtual 81, 3), (18, .aload_n 0, 1), (19, .getfield 20, 3), (22, .iload_n 1, 1), (23, .iconst 2, 1), (24, .invokevirtual 81, 3), (27, .aload_n 0, 1), (28, .getfield 43, 3), (31, .invokestatic 88, 3), (34, .ireturn, 1)] : List (Nat × Instr × Nat)).all fun q => decide (decode cX1_likelyNow q.1 = .ok (q.2.1, q.2.2))) = true := by decide +kernel
theorem dX1_likelyNow_0 : decode cX1_likelyNow 0 = .ok (.aload_n 0, 1) := of_decide_eq_true (List.all_eq_true.mp dA_X1_likelyNow_0 (0, .aload_n 0, 1) (List.mem_of_getElem? (i := 0) rfl))
theorem dX1_likelyNow_1 : decode cX1_likelyNow 1 = .ok (.getfield 20, 3) := of_decide_eq_true (List.all_eq_true.mp dA_X1_likelyNow_0 (1, .getfield 20, 3) (List.mem_of_getElem? (i := 1) rfl))
theorem dX1_likelyNow_4 : decode cX1_likelyNow 4 = .ok (.iload_n 1, 1) := of_decide_eq_true (List.all_eq_true.mp dA_X1_likelyNow_0 (4, .iload_n 1, 1) (List.mem_of_getElem? (i := 2) rfl))
theorem dX1_likelyNow_5 : decode cX1_likelyNow 5 = .ok (.iconst 0, 1) := of_decide_eq_true (List.all_eq_true.mp dA_X1_likelyNow_0 (5, .iconst 0, 1) (List.mem_of_getElem? (i := 3) rfl))
theorem dX1_likelyNow_6 : decode cX1_likelyNow 6 = .ok (.invokevirtual 81, 3) := of_decide_eq_true (List.all_eq_true.mp dA_X1_likelyNow_0 (6, .invokevirtual 81, 3) (List.mem_of_getElem? (i := 4) rfl))
theorem dX1_likelyNow_9 : decode cX1_likelyNow 9 = .ok (.aload_n 0, 1) := of_decide_eq_true (List.all_eq_true.mp dA_X1_likelyNow_0 (9, .aload_n 0, 1) (List.mem_of_getElem? (i := 5) rfl))
theorem dX1_likelyNow_10 : decode cX1_likelyNow 10 = .ok (.getfield 20, 3) := of_decide_eq_true (List.all_eq_true.mp dA_X1_likelyNow_0 (10, .getfield 20, 3) (List.mem_of_getElem? (i := 6) rfl))
theorem dX1_likelyNow_13 : decode cX1_likelyNow 13 = .ok (.iload_n 1, 1) := of_decide_eq_true (List.all_eq_true.mp dA_X1_likelyNow_0 (13, .iload_n 1, 1) (List.mem_of_getElem? (i := 7) rfl))
theorem dX1_likelyNow_14 : decode cX1_likelyNow 14 = .ok (.iconst 1, 1) := of_decide_eq_true (List.all_eq_true.mp dA_X1_likelyNow_0 (14, .iconst 1, 1) (List.mem_of_getElem? (i := 8) rfl))
theorem dX1_likelyNow_15 : decode cX1_likelyNow 15 = .ok (.invokevirtual 81, 3) := of_decide_eq_true (List.all_eq_true.mp dA_X1_likelyNow_0 (15, .invokevirtual 81, 3) (List.mem_of_getElem? (i := 9) rfl))
theorem dX1_likelyNow_18 : decode cX1_likelyNow 18 = .ok (.aload_n 0, 1) := of_decide_eq_true (List.all_eq_true.mp dA_X1_likelyNow_0 (18, .aload_n 0, 1) (List.mem_of_getElem? (i := 10) rfl))
theorem dX1_likelyNow_19 : decode cX1_likelyNow 19 = .ok (.getfield 20, 3) := of_decide_eq_true (List.all_eq_true.mp dA_X1_likelyNow_0 (19, .getfield 20, 3) (List.mem_of_getElem? (i := 11) rfl))
theorem dX1_likelyNow_22 : decode cX1_likelyNow 22 = .ok (.iload_n 1, 1) := of_decide_eq_true (List.all_eq_true.mp dA_X1_likelyNow_0 (22, .iload_n 1, 1) (List.mem_of_getElem? (i := 12) rfl))
theorem dX1_likelyNow_23 : decode cX1_likelyNow 23 = .ok (.iconst 2, 1) := of_decide_eq_true (List.all_eq_true.mp dA_X1_likelyNow_0 (23, .iconst 2, 1) (List.mem_of_getElem? (i := 13) rfl))
theorem dX1_likelyNow_24 : decode cX1_likelyNow 24 = .ok (.invokevirtual 81, 3) := of_decide_eq_true (List.all_eq_true.mp dA_X1_likelyNow_0 (24, .invokevirtual 81, 3) (List.mem_of_getElem? (i := 14) rfl))
theorem dX1_likelyNow_27 : decode cX1_likelyNow 27 = .ok (.aload_n 0, 1) := of_decide_eq_true (List.all_eq_true.mp dA_X1_likelyNow_0 (27, .aload_n 0, 1) (List.mem_of_getElem? (i := 15) rfl))
theorem dX1_likelyNow_28 : decode cX1_likelyNow 28 = .ok (.getfield 43, 3) := of_decide_eq_true (List.all_eq_true.mp dA_X1_likelyNow_0 (28, .getfield 43, 3) (List.mem_of_getElem? (i := 16) rfl))
theorem dX1_likelyNow_31 : decode cX1_likelyNow 31 = .ok (.invokestatic 88, 3) := of_decide_eq_true (List.all_eq_true.mp dA_X1_likelyNow_0 (31, .invokestatic 88, 3) (List.mem_of_getElem? (i := 17) rfl))
theorem dX1_likelyNow_34 : decode cX1_likelyNow 34 = .ok (.ireturn, 1) := of_decide_eq_true (List.all_eq_true.mp dA_X1_likelyNow_0 (34, .ireturn, 1) (List.mem_of_getElem? (i := 18) rfl))
set_option maxRecDepth 20000 in
theorem ggX1_letsPass_X2_letsPass : GoodIn wsX1_letsPass wsX2_letsPass := goodIn_r _ [5] (by decide +kernel) (by decide +kernel)
set_option maxRecDepth 20000 in
theorem gX1_letsPass_X2_letsPass : GoodIn wsX1_letsPass (va_wsS RX1 94 yX2_letsPass wsX2_letsPass) := goodIn_app (goodIn_of _ (by decide +kernel)) ggX1_letsPass_X2_letsPass
set_option maxRecDepth 20000 in
theorem dA_X1_letsPass_0 : (([(0, .aload_n 0, 1), (1, .getfield 40, 3), (4, .iload_n 1, 1), (5, .iload_n 2, 1), (6, .invokestatic 94, 3), (9, .ireturn, 1)] : List (Nat × Instr × Nat)).all fun q => decide (decode cX1_letsPass q.1 = .ok (q.2.1, q.2.2))) = true := by decide +kernel
theorem dX1_letsPass_0 : decode cX1_letsPass 0 = .ok (.aload_n 0, 1) := of_decide_eq_true (List.all_eq_true.mp dA_X1_letsPass_0 (0, .aload_n 0, 1) (List.mem_of_getElem? (i := 0) rfl))
theorem dX1_letsPass_1 : decode cX1_letsPass 1 = .ok (.getfield 40, 3) := of_decide_eq_true (List.all_eq_true.mp dA_X1_letsPass_0 (1, .getfield 40, 3) (List.mem_of_getElem? (i := 1) rfl))
theorem dX1_letsPass_4 : decode cX1_letsPass 4 = .ok (.iload_n 1, 1) := of_decide_eq_true (List.all_eq_true.mp dA_X1_letsPass_0 (4, .iload_n 1, 1) (List.mem_of_getElem? (i := 2) rfl))
theorem dX1_letsPass_5 : decode cX1_letsPass 5 = .ok (.iload_n 2, 1) := of_decide_eq_true (List.all_eq_true.mp dA_X1_letsPass_0 (5, .iload_n 2, 1) (List.mem_of_getElem? (i := 3) rfl))
theorem dX1_letsPass_6 : decode cX1_letsPass 6 = .ok (.invokestatic 94, 3) := of_decide_eq_true (List.all_eq_true.mp dA_X1_letsPass_0 (6, .invokestatic 94, 3) (List.mem_of_getElem? (i := 4) rfl))
theorem dX1_letsPass_9 : decode cX1_letsPass 9 = .ok (.ireturn, 1) := of_decide_eq_true (List.all_eq_true.mp dA_X1_letsPass_0 (9, .ireturn, 1) (List.mem_of_getElem? (i := 5) rfl))
set_option maxRecDepth 20000 in
theorem ggX1_letsNow_X1_wetOf : GoodIn wsX1_letsNow wsX1_wetOf := goodIn_r _ [8, 9, 14, 15, 16, 17, 18, 19, 20, 21, 22, 23, 24] (by decide +kernel) (by decide +kernel)
set_option maxRecDepth 20000 in
theorem gX1_letsNow_X1_wetOf : GoodIn wsX1_letsNow (wsV RX1 58 RX1 yX1_wetOf wsX1_wetOf) := goodIn_app (goodIn_of _ (by decide +kernel)) ggX1_letsNow_X1_wetOf
set_option maxRecDepth 20000 in
theorem ggX1_letsNow_X2_letsPass : GoodIn wsX1_letsNow wsX2_letsPass := goodIn_r _ [13] (by decide +kernel) (by decide +kernel)
set_option maxRecDepth 20000 in
theorem gX1_letsNow_X2_letsPass : GoodIn wsX1_letsNow (va_wsS RX1 94 yX2_letsPass wsX2_letsPass) := goodIn_app (goodIn_of _ (by decide +kernel)) ggX1_letsNow_X2_letsPass
set_option maxRecDepth 20000 in
theorem dA_X1_letsNow_0 : (([(0, .aload_n 0, 1), (1, .getfield 40, 3), (4, .aload_n 0, 1), (5, .aload_n 0, 1), (6, .getfield 43, 3), (9, .invokevirtual 58, 3), (12, .aload_n 0, 1), (13, .getfield 46, 3), (16, .invokestatic 94, 3), (19, .ireturn, 1)] : List (Nat × Instr × Nat)).all fun q => decide (decode cX1_letsNow q.1 = .ok (q.2.1, q.2.2))) = true := by decide +kernel
theorem dX1_letsNow_0 : decode cX1_letsNow 0 = .ok (.aload_n 0, 1) := of_decide_eq_true (List.all_eq_true.mp dA_X1_letsNow_0 (0, .aload_n 0, 1) (List.mem_of_getElem? (i := 0) rfl))
theorem dX1_letsNow_1 : decode cX1_letsNow 1 = .ok (.getfield 40, 3) := of_decide_eq_true (List.all_eq_true.mp dA_X1_letsNow_0 (1, .getfield 40, 3) (List.mem_of_getElem? (i := 1) rfl))
theorem dX1_letsNow_4 : decode cX1_letsNow 4 = .ok (.aload_n 0, 1) := of_decide_eq_true (List.all_eq_true.mp dA_X1_letsNow_0 (4, .aload_n 0, 1) (List.mem_of_getElem? (i := 2) rfl))
theorem dX1_letsNow_5 : decode cX1_letsNow 5 = .ok (.aload_n 0, 1) := of_decide_eq_true (List.all_eq_true.mp dA_X1_letsNow_0 (5, .aload_n 0, 1) (List.mem_of_getElem? (i := 3) rfl))
theorem dX1_letsNow_6 : decode cX1_letsNow 6 = .ok (.getfield 43, 3) := of_decide_eq_true (List.all_eq_true.mp dA_X1_letsNow_0 (6, .getfield 43, 3) (List.mem_of_getElem? (i := 4) rfl))
theorem dX1_letsNow_9 : decode cX1_letsNow 9 = .ok (.invokevirtual 58, 3) := of_decide_eq_true (List.all_eq_true.mp dA_X1_letsNow_0 (9, .invokevirtual 58, 3) (List.mem_of_getElem? (i := 5) rfl))
theorem dX1_letsNow_12 : decode cX1_letsNow 12 = .ok (.aload_n 0, 1) := of_decide_eq_true (List.all_eq_true.mp dA_X1_letsNow_0 (12, .aload_n 0, 1) (List.mem_of_getElem? (i := 6) rfl))
theorem dX1_letsNow_13 : decode cX1_letsNow 13 = .ok (.getfield 46, 3) := of_decide_eq_true (List.all_eq_true.mp dA_X1_letsNow_0 (13, .getfield 46, 3) (List.mem_of_getElem? (i := 7) rfl))
theorem dX1_letsNow_16 : decode cX1_letsNow 16 = .ok (.invokestatic 94, 3) := of_decide_eq_true (List.all_eq_true.mp dA_X1_letsNow_0 (16, .invokestatic 94, 3) (List.mem_of_getElem? (i := 8) rfl))
theorem dX1_letsNow_19 : decode cX1_letsNow 19 = .ok (.ireturn, 1) := of_decide_eq_true (List.all_eq_true.mp dA_X1_letsNow_0 (19, .ireturn, 1) (List.mem_of_getElem? (i := 9) rfl))
set_option maxRecDepth 20000 in
theorem ggX1_opensTo_X1_hasRoom : GoodIn wsX1_opensTo wsX1_hasRoom := goodIn_r _ [7, 8, 9, 10, 11, 12, 13, 14, 15, 16, 17, 18, 19, 20, 21, 35, 36, 37, 38, 39, 40, 41, 42, 43, 44, 45, 46, 47, 48, 49] (by decide +kernel) (by decide +kernel)
set_option maxRecDepth 20000 in
theorem gX1_opensTo_X1_hasRoom : GoodIn wsX1_opensTo (wsV RX1 98 RX1 yX1_hasRoom wsX1_hasRoom) := goodIn_app (goodIn_of _ (by decide +kernel)) ggX1_opensTo_X1_hasRoom
set_option maxRecDepth 20000 in
theorem ggX1_opensTo_X1_likelyNow : GoodIn wsX1_opensTo wsX1_likelyNow := goodIn_r _ [25, 8, 26, 27, 17, 18, 13, 19, 15, 20, 21, 28, 29, 30, 31, 35, 36, 37, 38, 39, 40, 41, 42, 43, 44, 45, 46, 47, 48, 49] (by decide +kernel) (by decide +kernel)
set_option maxRecDepth 20000 in
theorem gX1_opensTo_X1_likelyNow : GoodIn wsX1_opensTo (wsV RX1 102 RX1 yX1_likelyNow wsX1_likelyNow) := goodIn_app (goodIn_of _ (by decide +kernel)) ggX1_opensTo_X1_likelyNow
set_option maxRecDepth 20000 in
theorem ggX1_opensTo_X2_letsPass : GoodIn wsX1_opensTo wsX2_letsPass := goodIn_r _ [34] (by decide +kernel) (by decide +kernel)
set_option maxRecDepth 20000 in
theorem gX1_opensTo_X2_letsPass : GoodIn wsX1_opensTo (va_wsS RX1 94 yX2_letsPass wsX2_letsPass) := goodIn_app (goodIn_of _ (by decide +kernel)) ggX1_opensTo_X2_letsPass
set_option maxRecDepth 20000 in
theorem dA_X1_opensTo_0 : (([(0, .aload_n 0, 1), (1, .invokevirtual 98, 3), (4, .ifCond .eq 27, 3), (7, .aload_n 0, 1), (8, .iload_n 1, 1), (9, .invokevirtual 102, 3), (12, .aload_n 0, 1), (13, .getfield 40, 3), (16, .iload_n 2, 1), (17, .aload_n 0, 1), (18, .getfield 46, 3), (21, .invokestatic 94, 3), (24, .if_icmp .gt 7, 3), (27, .iconst 1, 1), (28, .goto 4, 3), (31, .iconst 0, 1), (32, .ireturn, 1)] : List (Nat × Instr × Nat)).all fun q => decide (decode cX1_opensTo q.1 = .ok (q.2.1, q.2.2))) = true := by decide +kernel
theorem dX1_opensTo_0 : decode cX1_opensTo 0 = .ok (.aload_n 0, 1) := of_decide_eq_true (List.all_eq_true.mp dA_X1_opensTo_0 (0, .aload_n 0, 1) (List.mem_of_getElem? (i := 0) rfl))
theorem dX1_opensTo_1 : decode cX1_opensTo 1 = .ok (.invokevirtual 98, 3) := of_decide_eq_true (List.all_eq_true.mp dA_X1_opensTo_0 (1, .invokevirtual 98, 3) (List.mem_of_getElem? (i := 1) rfl))
theorem dX1_opensTo_4 : decode cX1_opensTo 4 = .ok (.ifCond .eq 27, 3) := of_decide_eq_true (List.all_eq_true.mp dA_X1_opensTo_0 (4, .ifCond .eq 27, 3) (List.mem_of_getElem? (i := 2) rfl))
theorem dX1_opensTo_7 : decode cX1_opensTo 7 = .ok (.aload_n 0, 1) := of_decide_eq_true (List.all_eq_true.mp dA_X1_opensTo_0 (7, .aload_n 0, 1) (List.mem_of_getElem? (i := 3) rfl))
theorem dX1_opensTo_8 : decode cX1_opensTo 8 = .ok (.iload_n 1, 1) := of_decide_eq_true (List.all_eq_true.mp dA_X1_opensTo_0 (8, .iload_n 1, 1) (List.mem_of_getElem? (i := 4) rfl))
theorem dX1_opensTo_9 : decode cX1_opensTo 9 = .ok (.invokevirtual 102, 3) := of_decide_eq_true (List.all_eq_true.mp dA_X1_opensTo_0 (9, .invokevirtual 102, 3) (List.mem_of_getElem? (i := 5) rfl))
theorem dX1_opensTo_12 : decode cX1_opensTo 12 = .ok (.aload_n 0, 1) := of_decide_eq_true (List.all_eq_true.mp dA_X1_opensTo_0 (12, .aload_n 0, 1) (List.mem_of_getElem? (i := 6) rfl))
theorem dX1_opensTo_13 : decode cX1_opensTo 13 = .ok (.getfield 40, 3) := of_decide_eq_true (List.all_eq_true.mp dA_X1_opensTo_0 (13, .getfield 40, 3) (List.mem_of_getElem? (i := 7) rfl))
theorem dX1_opensTo_16 : decode cX1_opensTo 16 = .ok (.iload_n 2, 1) := of_decide_eq_true (List.all_eq_true.mp dA_X1_opensTo_0 (16, .iload_n 2, 1) (List.mem_of_getElem? (i := 8) rfl))
theorem dX1_opensTo_17 : decode cX1_opensTo 17 = .ok (.aload_n 0, 1) := of_decide_eq_true (List.all_eq_true.mp dA_X1_opensTo_0 (17, .aload_n 0, 1) (List.mem_of_getElem? (i := 9) rfl))
theorem dX1_opensTo_18 : decode cX1_opensTo 18 = .ok (.getfield 46, 3) := of_decide_eq_true (List.all_eq_true.mp dA_X1_opensTo_0 (18, .getfield 46, 3) (List.mem_of_getElem? (i := 10) rfl))
theorem dX1_opensTo_21 : decode cX1_opensTo 21 = .ok (.invokestatic 94, 3) := of_decide_eq_true (List.all_eq_true.mp dA_X1_opensTo_0 (21, .invokestatic 94, 3) (List.mem_of_getElem? (i := 11) rfl))
theorem dX1_opensTo_24 : decode cX1_opensTo 24 = .ok (.if_icmp .gt 7, 3) := of_decide_eq_true (List.all_eq_true.mp dA_X1_opensTo_0 (24, .if_icmp .gt 7, 3) (List.mem_of_getElem? (i := 12) rfl))
theorem dX1_opensTo_27 : decode cX1_opensTo 27 = .ok (.iconst 1, 1) := of_decide_eq_true (List.all_eq_true.mp dA_X1_opensTo_0 (27, .iconst 1, 1) (List.mem_of_getElem? (i := 13) rfl))
theorem dX1_opensTo_28 : decode cX1_opensTo 28 = .ok (.goto 4, 3) := of_decide_eq_true (List.all_eq_true.mp dA_X1_opensTo_0 (28, .goto 4, 3) (List.mem_of_getElem? (i := 14) rfl))
theorem dX1_opensTo_31 : decode cX1_opensTo 31 = .ok (.iconst 0, 1) := of_decide_eq_true (List.all_eq_true.mp dA_X1_opensTo_0 (31, .iconst 0, 1) (List.mem_of_getElem? (i := 15) rfl))
theorem dX1_opensTo_32 : decode cX1_opensTo 32 = .ok (.ireturn, 1) := of_decide_eq_true (List.all_eq_true.mp dA_X1_opensTo_0 (32, .ireturn, 1) (List.mem_of_getElem? (i := 16) rfl))
set_option maxRecDepth 20000 in
theorem ggX1_arrive_X1_wetNow : GoodIn wsX1_arrive wsX1_wetNow := goodIn_r _ [12, 13, 14, 15, 16, 11, 17, 18, 57, 58, 59, 60, 61, 62, 63, 64, 65, 66, 67] (by decide +kernel) (by decide +kernel)
set_option maxRecDepth 20000 in
theorem gX1_arrive_X1_wetNow : GoodIn wsX1_arrive (wsV RX1 105 RX1 yX1_wetNow wsX1_wetNow) := goodIn_app (goodIn_of _ (by decide +kernel)) ggX1_arrive_X1_wetNow
set_option maxRecDepth 20000 in
theorem ggX1_arrive_X1_opensTo : GoodIn wsX1_arrive wsX1_opensTo := goodIn_r _ [22, 23, 7, 24, 25, 26, 11, 27, 1, 28, 29, 30, 31, 32, 33, 34, 35, 36, 37, 38, 39, 40, 41, 42, 43, 44, 13, 45, 46, 47, 48, 49, 50, 51, 52, 57, 58, 59, 60, 61, 62, 63, 64, 65, 66, 67, 68, 69, 70, 71] (by decide +kernel) (by decide +kernel)
set_option maxRecDepth 20000 in
theorem gX1_arrive_X1_opensTo : GoodIn wsX1_arrive (wsV RX1 108 RX1 yX1_opensTo wsX1_opensTo) := goodIn_app (goodIn_of _ (by decide +kernel)) ggX1_arrive_X1_opensTo
set_option maxRecDepth 20000 in
theorem ggX1_arrive_X5_put : GoodIn wsX1_arrive wsX5_put := goodIn_r _ [56, 34, 39, 40, 68, 69, 70, 71] (by decide +kernel) (by decide +kernel)
set_option maxRecDepth 20000 in
theorem gX1_arrive_X5_put : GoodIn wsX1_arrive (wsV RX1 70 RX5 yX5_put wsX5_put) := goodIn_app (goodIn_of _ (by decide +kernel)) ggX1_arrive_X5_put
set_option maxRecDepth 20000 in
theorem ggX1_arrive_X5_cell : GoodIn wsX1_arrive wsX5_cell := goodIn_r _ [38, 34, 39, 40, 68, 69, 70, 71] (by decide +kernel) (by decide +kernel)
set_option maxRecDepth 20000 in
theorem gX1_arrive_X5_cell : GoodIn wsX1_arrive (wsV RX1 81 RX5 yX5_cell wsX5_cell) := goodIn_app (goodIn_of _ (by decide +kernel)) ggX1_arrive_X5_cell
set_option maxRecDepth 20000 in
theorem dA_X1_arrive_0 : (([(0, .aload_n 0, 1), (1, .iload_n 1, 1), (2, .aload_n 0, 1), (3, .invokevirtual 105, 3), (6, .invokevirtual 108, 3), (9, .istore_n 2, 1), (10, .iload_n 2, 1), (11, .ifCond .eq 41, 3), (14, .aload_n 0, 1), (15, .getfield 20, 3), (18, .iload_n 1, 1), (19, .iconst 3, 1), (20, .iconst 1, 1), (21, .invokevirtual 70, 3), (24, .aload_n 0, 1), (25, .getfield 20, 3), (28, .iload_n 1, 1), (29, .iconst 2, 1), (30, .bipush 99, 2), (32, .aload_n 0, 1), (33, .getfield 20, 3), (36, .iload_n 1, 1), (37, .iconst 2, 1), (38, .invokevirtual 81, 3), (41, .iconst 1, 1), (42, .iadd, 1), (43, .invokestatic 112, 3), (46, .invokevirtual 70, 3), (49, .goto 19, 3), (52, .aload_n 0, 1), (53, .sipush 9999, 3), (56, .aload_n 0, 1), (57, .getfield 49, 3), (60, .iconst 1, 1), (61, .iadd, 1), (62, .invokestatic 112, 3), (65, .putfield 49, 3), (68, .aload_n 0, 1), (69, .bipush 99, 2), (71, .aload_n 0, 1)] : List (Nat × Instr × Nat)).all fun q => decide (decode cX1_arrive q.1 = .ok (q.2.1, q.2.2))) = true := by decide +kernel
theorem dX1_arrive_0 : decode cX1_arrive 0 = .ok (.aload_n 0, 1) := of_decide_eq_true (List.all_eq_true.mp dA_X1_arrive_0 (0, .aload_n 0, 1) (List.mem_of_getElem? (i := 0) rfl))
theorem dX1_arrive_1 : decode cX1_arrive 1 = .ok (.iload_n 1, 1) := of_decide_eq_true (List.all_eq_true.mp dA_X1_arrive_0 (1, .iload_n 1, 1) (List.mem_of_getElem? (i := 1) rfl))
theorem dX1_arrive_2 : decode cX1_arrive 2 = .ok (.aload_n 0, 1) := of_decide_eq_true (List.all_eq_true.mp dA_X1_arrive_0 (2, .aload_n 0, 1) (List.mem_of_getElem? (i := 2) rfl))
theorem dX1_arrive_3 : decode cX1_arrive 3 = .ok (.invokevirtual 105, 3) := of_decide_eq_true (List.all_eq_true.mp dA_X1_arrive_0 (3, .invokevirtual 105, 3) (List.mem_of_getElem? (i := 3) rfl))
theorem dX1_arrive_6 : decode cX1_arrive 6 = .ok (.invokevirtual 108, 3) := of_decide_eq_true (List.all_eq_true.mp dA_X1_arrive_0 (6, .invokevirtual 108, 3) (List.mem_of_getElem? (i := 4) rfl))
theorem dX1_arrive_9 : decode cX1_arrive 9 = .ok (.istore_n 2, 1) := of_decide_eq_true (List.all_eq_true.mp dA_X1_arrive_0 (9, .istore_n 2, 1) (List.mem_of_getElem? (i := 5) rfl))
theorem dX1_arrive_10 : decode cX1_arrive 10 = .ok (.iload_n 2, 1) := of_decide_eq_true (List.all_eq_true.mp dA_X1_arrive_0 (10, .iload_n 2, 1) (List.mem_of_getElem? (i := 6) rfl))
theorem dX1_arrive_11 : decode cX1_arrive 11 = .ok (.ifCond .eq 41, 3) := of_decide_eq_true (List.all_eq_true.mp dA_X1_arrive_0 (11, .ifCond .eq 41, 3) (List.mem_of_getElem? (i := 7) rfl))
theorem dX1_arrive_14 : decode cX1_arrive 14 = .ok (.aload_n 0, 1) := of_decide_eq_true (List.all_eq_true.mp dA_X1_arrive_0 (14, .aload_n 0, 1) (List.mem_of_getElem? (i := 8) rfl))
theorem dX1_arrive_15 : decode cX1_arrive 15 = .ok (.getfield 20, 3) := of_decide_eq_true (List.all_eq_true.mp dA_X1_arrive_0 (15, .getfield 20, 3) (List.mem_of_getElem? (i := 9) rfl))
theorem dX1_arrive_18 : decode cX1_arrive 18 = .ok (.iload_n 1, 1) := of_decide_eq_true (List.all_eq_true.mp dA_X1_arrive_0 (18, .iload_n 1, 1) (List.mem_of_getElem? (i := 10) rfl))
theorem dX1_arrive_19 : decode cX1_arrive 19 = .ok (.iconst 3, 1) := of_decide_eq_true (List.all_eq_true.mp dA_X1_arrive_0 (19, .iconst 3, 1) (List.mem_of_getElem? (i := 11) rfl))
theorem dX1_arrive_20 : decode cX1_arrive 20 = .ok (.iconst 1, 1) := of_decide_eq_true (List.all_eq_true.mp dA_X1_arrive_0 (20, .iconst 1, 1) (List.mem_of_getElem? (i := 12) rfl))
theorem dX1_arrive_21 : decode cX1_arrive 21 = .ok (.invokevirtual 70, 3) := of_decide_eq_true (List.all_eq_true.mp dA_X1_arrive_0 (21, .invokevirtual 70, 3) (List.mem_of_getElem? (i := 13) rfl))
theorem dX1_arrive_24 : decode cX1_arrive 24 = .ok (.aload_n 0, 1) := of_decide_eq_true (List.all_eq_true.mp dA_X1_arrive_0 (24, .aload_n 0, 1) (List.mem_of_getElem? (i := 14) rfl))
theorem dX1_arrive_25 : decode cX1_arrive 25 = .ok (.getfield 20, 3) := of_decide_eq_true (List.all_eq_true.mp dA_X1_arrive_0 (25, .getfield 20, 3) (List.mem_of_getElem? (i := 15) rfl))
theorem dX1_arrive_28 : decode cX1_arrive 28 = .ok (.iload_n 1, 1) := of_decide_eq_true (List.all_eq_true.mp dA_X1_arrive_0 (28, .iload_n 1, 1) (List.mem_of_getElem? (i := 16) rfl))
theorem dX1_arrive_29 : decode cX1_arrive 29 = .ok (.iconst 2, 1) := of_decide_eq_true (List.all_eq_true.mp dA_X1_arrive_0 (29, .iconst 2, 1) (List.mem_of_getElem? (i := 17) rfl))
theorem dX1_arrive_30 : decode cX1_arrive 30 = .ok (.bipush 99, 2) := of_decide_eq_true (List.all_eq_true.mp dA_X1_arrive_0 (30, .bipush 99, 2) (List.mem_of_getElem? (i := 18) rfl))
theorem dX1_arrive_32 : decode cX1_arrive 32 = .ok (.aload_n 0, 1) := of_decide_eq_true (List.all_eq_true.mp dA_X1_arrive_0 (32, .aload_n 0, 1) (List.mem_of_getElem? (i := 19) rfl))
theorem dX1_arrive_33 : decode cX1_arrive 33 = .ok (.getfield 20, 3) := of_decide_eq_true (List.all_eq_true.mp dA_X1_arrive_0 (33, .getfield 20, 3) (List.mem_of_getElem? (i := 20) rfl))
theorem dX1_arrive_36 : decode cX1_arrive 36 = .ok (.iload_n 1, 1) := of_decide_eq_true (List.all_eq_true.mp dA_X1_arrive_0 (36, .iload_n 1, 1) (List.mem_of_getElem? (i := 21) rfl))
theorem dX1_arrive_37 : decode cX1_arrive 37 = .ok (.iconst 2, 1) := of_decide_eq_true (List.all_eq_true.mp dA_X1_arrive_0 (37, .iconst 2, 1) (List.mem_of_getElem? (i := 22) rfl))
theorem dX1_arrive_38 : decode cX1_arrive 38 = .ok (.invokevirtual 81, 3) := of_decide_eq_true (List.all_eq_true.mp dA_X1_arrive_0 (38, .invokevirtual 81, 3) (List.mem_of_getElem? (i := 23) rfl))
theorem dX1_arrive_41 : decode cX1_arrive 41 = .ok (.iconst 1, 1) := of_decide_eq_true (List.all_eq_true.mp dA_X1_arrive_0 (41, .iconst 1, 1) (List.mem_of_getElem? (i := 24) rfl))
theorem dX1_arrive_42 : decode cX1_arrive 42 = .ok (.iadd, 1) := of_decide_eq_true (List.all_eq_true.mp dA_X1_arrive_0 (42, .iadd, 1) (List.mem_of_getElem? (i := 25) rfl))
theorem dX1_arrive_43 : decode cX1_arrive 43 = .ok (.invokestatic 112, 3) := of_decide_eq_true (List.all_eq_true.mp dA_X1_arrive_0 (43, .invokestatic 112, 3) (List.mem_of_getElem? (i := 26) rfl))
theorem dX1_arrive_46 : decode cX1_arrive 46 = .ok (.invokevirtual 70, 3) := of_decide_eq_true (List.all_eq_true.mp dA_X1_arrive_0 (46, .invokevirtual 70, 3) (List.mem_of_getElem? (i := 27) rfl))
theorem dX1_arrive_49 : decode cX1_arrive 49 = .ok (.goto 19, 3) := of_decide_eq_true (List.all_eq_true.mp dA_X1_arrive_0 (49, .goto 19, 3) (List.mem_of_getElem? (i := 28) rfl))
theorem dX1_arrive_52 : decode cX1_arrive 52 = .ok (.aload_n 0, 1) := of_decide_eq_true (List.all_eq_true.mp dA_X1_arrive_0 (52, .aload_n 0, 1) (List.mem_of_getElem? (i := 29) rfl))
theorem dX1_arrive_53 : decode cX1_arrive 53 = .ok (.sipush 9999, 3) := of_decide_eq_true (List.all_eq_true.mp dA_X1_arrive_0 (53, .sipush 9999, 3) (List.mem_of_getElem? (i := 30) rfl))
theorem dX1_arrive_56 : decode cX1_arrive 56 = .ok (.aload_n 0, 1) := of_decide_eq_true (List.all_eq_true.mp dA_X1_arrive_0 (56, .aload_n 0, 1) (List.mem_of_getElem? (i := 31) rfl))
theorem dX1_arrive_57 : decode cX1_arrive 57 = .ok (.getfield 49, 3) := of_decide_eq_true (List.all_eq_true.mp dA_X1_arrive_0 (57, .getfield 49, 3) (List.mem_of_getElem? (i := 32) rfl))
theorem dX1_arrive_60 : decode cX1_arrive 60 = .ok (.iconst 1, 1) := of_decide_eq_true (List.all_eq_true.mp dA_X1_arrive_0 (60, .iconst 1, 1) (List.mem_of_getElem? (i := 33) rfl))
theorem dX1_arrive_61 : decode cX1_arrive 61 = .ok (.iadd, 1) := of_decide_eq_true (List.all_eq_true.mp dA_X1_arrive_0 (61, .iadd, 1) (List.mem_of_getElem? (i := 34) rfl))
theorem dX1_arrive_62 : decode cX1_arrive 62 = .ok (.invokestatic 112, 3) := of_decide_eq_true (List.all_eq_true.mp dA_X1_arrive_0 (62, .invokestatic 112, 3) (List.mem_of_getElem? (i := 35) rfl))
theorem dX1_arrive_65 : decode cX1_arrive 65 = .ok (.putfield 49, 3) := of_decide_eq_true (List.all_eq_true.mp dA_X1_arrive_0 (65, .putfield 49, 3) (List.mem_of_getElem? (i := 36) rfl))
theorem dX1_arrive_68 : decode cX1_arrive 68 = .ok (.aload_n 0, 1) := of_decide_eq_true (List.all_eq_true.mp dA_X1_arrive_0 (68, .aload_n 0, 1) (List.mem_of_getElem? (i := 37) rfl))
theorem dX1_arrive_69 : decode cX1_arrive 69 = .ok (.bipush 99, 2) := of_decide_eq_true (List.all_eq_true.mp dA_X1_arrive_0 (69, .bipush 99, 2) (List.mem_of_getElem? (i := 38) rfl))
theorem dX1_arrive_71 : decode cX1_arrive 71 = .ok (.aload_n 0, 1) := of_decide_eq_true (List.all_eq_true.mp dA_X1_arrive_0 (71, .aload_n 0, 1) (List.mem_of_getElem? (i := 39) rfl))
set_option maxRecDepth 20000 in
theorem dA_X1_arrive_72 : (([(72, .getfield 46, 3), (75, .iconst 1, 1), (76, .iadd, 1), (77, .invokestatic 112, 3), (80, .putfield 46, 3), (83, .iload_n 2, 1), (84, .ireturn, 1)] : List (Nat × Instr × Nat)).all fun q => decide (decode cX1_arrive q.1 = .ok (q.2.1, q.2.2))) = true := by decide +kernel
theorem dX1_arrive_72 : decode cX1_arrive 72 = .ok (.getfield 46, 3) := of_decide_eq_true (List.all_eq_true.mp dA_X1_arrive_72 (72, .getfield 46, 3) (List.mem_of_getElem? (i := 0) rfl))
theorem dX1_arrive_75 : decode cX1_arrive 75 = .ok (.iconst 1, 1) := of_decide_eq_true (List.all_eq_true.mp dA_X1_arrive_72 (75, .iconst 1, 1) (List.mem_of_getElem? (i := 1) rfl))
theorem dX1_arrive_76 : decode cX1_arrive 76 = .ok (.iadd, 1) := of_decide_eq_true (List.all_eq_true.mp dA_X1_arrive_72 (76, .iadd, 1) (List.mem_of_getElem? (i := 2) rfl))
theorem dX1_arrive_77 : decode cX1_arrive 77 = .ok (.invokestatic 112, 3) := of_decide_eq_true (List.all_eq_true.mp dA_X1_arrive_72 (77, .invokestatic 112, 3) (List.mem_of_getElem? (i := 3) rfl))
theorem dX1_arrive_80 : decode cX1_arrive 80 = .ok (.putfield 46, 3) := of_decide_eq_true (List.all_eq_true.mp dA_X1_arrive_72 (80, .putfield 46, 3) (List.mem_of_getElem? (i := 4) rfl))
theorem dX1_arrive_83 : decode cX1_arrive 83 = .ok (.iload_n 2, 1) := of_decide_eq_true (List.all_eq_true.mp dA_X1_arrive_72 (83, .iload_n 2, 1) (List.mem_of_getElem? (i := 5) rfl))
theorem dX1_arrive_84 : decode cX1_arrive 84 = .ok (.ireturn, 1) := of_decide_eq_true (List.all_eq_true.mp dA_X1_arrive_72 (84, .ireturn, 1) (List.mem_of_getElem? (i := 6) rfl))
set_option maxRecDepth 20000 in
theorem ggX1_leave_X5_put : GoodIn wsX1_leave wsX5_put := goodIn_r _ [6, 7, 8, 9, 21, 22, 23, 24] (by decide +kernel) (by decide +kernel)
set_option maxRecDepth 20000 in
theorem gX1_leave_X5_put : GoodIn wsX1_leave (wsV RX1 70 RX5 yX5_put wsX5_put) := goodIn_app (goodIn_of _ (by decide +kernel)) ggX1_leave_X5_put
set_option maxRecDepth 20000 in
theorem dA_X1_leave_0 : (([(0, .aload_n 0, 1), (1, .getfield 20, 3), (4, .iload_n 1, 1), (5, .iconst 3, 1), (6, .iconst 0, 1), (7, .invokevirtual 70, 3), (10, .return_, 1)] : List (Nat × Instr × Nat)).all fun q => decide (decode cX1_leave q.1 = .ok (q.2.1, q.2.2))) = true := by decide +kernel
theorem dX1_leave_0 : decode cX1_leave 0 = .ok (.aload_n 0, 1) := of_decide_eq_true (List.all_eq_true.mp dA_X1_leave_0 (0, .aload_n 0, 1) (List.mem_of_getElem? (i := 0) rfl))
theorem dX1_leave_1 : decode cX1_leave 1 = .ok (.getfield 20, 3) := of_decide_eq_true (List.all_eq_true.mp dA_X1_leave_0 (1, .getfield 20, 3) (List.mem_of_getElem? (i := 1) rfl))
theorem dX1_leave_4 : decode cX1_leave 4 = .ok (.iload_n 1, 1) := of_decide_eq_true (List.all_eq_true.mp dA_X1_leave_0 (4, .iload_n 1, 1) (List.mem_of_getElem? (i := 2) rfl))
theorem dX1_leave_5 : decode cX1_leave 5 = .ok (.iconst 3, 1) := of_decide_eq_true (List.all_eq_true.mp dA_X1_leave_0 (5, .iconst 3, 1) (List.mem_of_getElem? (i := 3) rfl))
theorem dX1_leave_6 : decode cX1_leave 6 = .ok (.iconst 0, 1) := of_decide_eq_true (List.all_eq_true.mp dA_X1_leave_0 (6, .iconst 0, 1) (List.mem_of_getElem? (i := 4) rfl))
theorem dX1_leave_7 : decode cX1_leave 7 = .ok (.invokevirtual 70, 3) := of_decide_eq_true (List.all_eq_true.mp dA_X1_leave_0 (7, .invokevirtual 70, 3) (List.mem_of_getElem? (i := 5) rfl))
theorem dX1_leave_10 : decode cX1_leave 10 = .ok (.return_, 1) := of_decide_eq_true (List.all_eq_true.mp dA_X1_leave_0 (10, .return_, 1) (List.mem_of_getElem? (i := 6) rfl))
set_option maxRecDepth 20000 in
theorem dA_X1_sleep_0 : (([(0, .aload_n 0, 1), (1, .sipush 9999, 3), (4, .aload_n 0, 1), (5, .getfield 43, 3), (8, .iload_n 1, 1), (9, .iadd, 1), (10, .invokestatic 112, 3), (13, .putfield 43, 3), (16, .aload_n 0, 1), (17, .iconst 0, 1), (18, .putfield 46, 3), (21, .return_, 1)] : List (Nat × Instr × Nat)).all fun q => decide (decode cX1_sleep q.1 = .ok (q.2.1, q.2.2))) = true := by decide +kernel
theorem dX1_sleep_0 : decode cX1_sleep 0 = .ok (.aload_n 0, 1) := of_decide_eq_true (List.all_eq_true.mp dA_X1_sleep_0 (0, .aload_n 0, 1) (List.mem_of_getElem? (i := 0) rfl))
theorem dX1_sleep_1 : decode cX1_sleep 1 = .ok (.sipush 9999, 3) := of_decide_eq_true (List.all_eq_true.mp dA_X1_sleep_0 (1, .sipush 9999, 3) (List.mem_of_getElem? (i := 1) rfl))
theorem dX1_sleep_4 : decode cX1_sleep 4 = .ok (.aload_n 0, 1) := of_decide_eq_true (List.all_eq_true.mp dA_X1_sleep_0 (4, .aload_n 0, 1) (List.mem_of_getElem? (i := 2) rfl))
theorem dX1_sleep_5 : decode cX1_sleep 5 = .ok (.getfield 43, 3) := of_decide_eq_true (List.all_eq_true.mp dA_X1_sleep_0 (5, .getfield 43, 3) (List.mem_of_getElem? (i := 3) rfl))
theorem dX1_sleep_8 : decode cX1_sleep 8 = .ok (.iload_n 1, 1) := of_decide_eq_true (List.all_eq_true.mp dA_X1_sleep_0 (8, .iload_n 1, 1) (List.mem_of_getElem? (i := 4) rfl))
theorem dX1_sleep_9 : decode cX1_sleep 9 = .ok (.iadd, 1) := of_decide_eq_true (List.all_eq_true.mp dA_X1_sleep_0 (9, .iadd, 1) (List.mem_of_getElem? (i := 5) rfl))
theorem dX1_sleep_10 : decode cX1_sleep 10 = .ok (.invokestatic 112, 3) := of_decide_eq_true (List.all_eq_true.mp dA_X1_sleep_0 (10, .invokestatic 112, 3) (List.mem_of_getElem? (i := 6) rfl))
theorem dX1_sleep_13 : decode cX1_sleep 13 = .ok (.putfield 43, 3) := of_decide_eq_true (List.all_eq_true.mp dA_X1_sleep_0 (13, .putfield 43, 3) (List.mem_of_getElem? (i := 7) rfl))
theorem dX1_sleep_16 : decode cX1_sleep 16 = .ok (.aload_n 0, 1) := of_decide_eq_true (List.all_eq_true.mp dA_X1_sleep_0 (16, .aload_n 0, 1) (List.mem_of_getElem? (i := 8) rfl))
theorem dX1_sleep_17 : decode cX1_sleep 17 = .ok (.iconst 0, 1) := of_decide_eq_true (List.all_eq_true.mp dA_X1_sleep_0 (17, .iconst 0, 1) (List.mem_of_getElem? (i := 9) rfl))
theorem dX1_sleep_18 : decode cX1_sleep 18 = .ok (.putfield 46, 3) := of_decide_eq_true (List.all_eq_true.mp dA_X1_sleep_0 (18, .putfield 46, 3) (List.mem_of_getElem? (i := 10) rfl))
theorem dX1_sleep_21 : decode cX1_sleep 21 = .ok (.return_, 1) := of_decide_eq_true (List.all_eq_true.mp dA_X1_sleep_0 (21, .return_, 1) (List.mem_of_getElem? (i := 11) rfl))
set_option maxRecDepth 20000 in
theorem ggX1_happen_X1_isThere : GoodIn wsX1_happen wsX1_isThere := goodIn_r _ [7, 8, 9, 10, 11, 76, 77, 78, 79, 80, 81, 82, 83, 84, 85, 86, 87, 88, 89, 90] (by decide +kernel) (by decide +kernel)
set_option maxRecDepth 20000 in
theorem gX1_happen_X1_isThere : GoodIn wsX1_happen (wsV RX1 117 RX1 yX1_isThere wsX1_isThere) := goodIn_app (goodIn_of _ (by decide +kernel)) ggX1_happen_X1_isThere
set_option maxRecDepth 20000 in
theorem ggX1_happen_X1_isIn : GoodIn wsX1_happen wsX1_isIn := goodIn_r _ [15, 8, 16, 17, 18, 19, 20, 21, 22, 23, 76, 77, 78, 79, 80, 81, 82, 83, 84, 85, 86, 87, 88, 89, 90] (by decide +kernel) (by decide +kernel)
set_option maxRecDepth 20000 in
theorem gX1_happen_X1_isIn : GoodIn wsX1_happen (wsV RX1 121 RX1 yX1_isIn wsX1_isIn) := goodIn_app (goodIn_of _ (by decide +kernel)) ggX1_happen_X1_isIn
set_option maxRecDepth 20000 in
theorem ggX1_happen_X1_leave : GoodIn wsX1_happen wsX1_leave := goodIn_r _ [27, 8, 28, 29, 30, 19, 31, 21, 22, 23, 76, 77, 78, 79, 80, 81, 82, 83, 84, 85, 86, 87, 88, 89, 90] (by decide +kernel) (by decide +kernel)
set_option maxRecDepth 20000 in
theorem gX1_happen_X1_leave : GoodIn wsX1_happen (wsV RX1 124 RX1 yX1_leave wsX1_leave) := goodIn_app (goodIn_of _ (by decide +kernel)) ggX1_happen_X1_leave
set_option maxRecDepth 20000 in
theorem ggX1_happen_X1_arrive : GoodIn wsX1_happen wsX1_arrive := goodIn_r _ [35, 8, 36, 37, 38, 39, 40, 2, 41, 42, 43, 6, 44, 1, 45, 46, 47, 48, 49, 50, 51, 52, 53, 54, 55, 56, 57, 58, 59, 60, 61, 62, 19, 63, 21, 64, 17, 18, 20, 22, 23, 65, 66, 67, 68, 16, 69, 70, 71, 72, 73, 74, 75, 28, 29, 30, 31, 76, 77, 78, 79, 80, 81, 82, 83, 84, 85, 86, 87, 88, 89, 90] (by decide +kernel) (by decide +kernel)
set_option maxRecDepth 20000 in
theorem gX1_happen_X1_arrive : GoodIn wsX1_happen (wsV RX1 128 RX1 yX1_arrive wsX1_arrive) := goodIn_app (goodIn_of _ (by decide +kernel)) ggX1_happen_X1_arrive
set_option maxRecDepth 20000 in
theorem dA_X1_happen_0 : (([(0, .aload_n 0, 1), (1, .iload_n 1, 1), (2, .invokevirtual 117, 3), (5, .ifCond .ne 21, 3), (8, .aload_n 0, 1), (9, .dup, 1), (10, .getfield 43, 3), (13, .iconst 1, 1), (14, .iadd, 1), (15, .putfield 43, 3), (18, .aload_n 0, 1), (19, .iconst 0, 1), (20, .putfield 46, 3), (23, .goto 25, 3), (26, .aload_n 0, 1), (27, .iload_n 1, 1), (28, .invokevirtual 121, 3), (31, .ifCond .eq 11, 3), (34, .aload_n 0, 1), (35, .iload_n 1, 1), (36, .invokevirtual 124, 3), (39, .goto 9, 3), (42, .aload_n 0, 1), (43, .iload_n 1, 1), (44, .invokevirtual 128, 3), (47, .pop, 1), (48, .return_, 1)] : List (Nat × Instr × Nat)).all fun q => decide (decode cX1_happen q.1 = .ok (q.2.1, q.2.2))) = true := by decide +kernel
theorem dX1_happen_0 : decode cX1_happen 0 = .ok (.aload_n 0, 1) := of_decide_eq_true (List.all_eq_true.mp dA_X1_happen_0 (0, .aload_n 0, 1) (List.mem_of_getElem? (i := 0) rfl))
theorem dX1_happen_1 : decode cX1_happen 1 = .ok (.iload_n 1, 1) := of_decide_eq_true (List.all_eq_true.mp dA_X1_happen_0 (1, .iload_n 1, 1) (List.mem_of_getElem? (i := 1) rfl))
theorem dX1_happen_2 : decode cX1_happen 2 = .ok (.invokevirtual 117, 3) := of_decide_eq_true (List.all_eq_true.mp dA_X1_happen_0 (2, .invokevirtual 117, 3) (List.mem_of_getElem? (i := 2) rfl))
theorem dX1_happen_5 : decode cX1_happen 5 = .ok (.ifCond .ne 21, 3) := of_decide_eq_true (List.all_eq_true.mp dA_X1_happen_0 (5, .ifCond .ne 21, 3) (List.mem_of_getElem? (i := 3) rfl))
theorem dX1_happen_8 : decode cX1_happen 8 = .ok (.aload_n 0, 1) := of_decide_eq_true (List.all_eq_true.mp dA_X1_happen_0 (8, .aload_n 0, 1) (List.mem_of_getElem? (i := 4) rfl))
theorem dX1_happen_9 : decode cX1_happen 9 = .ok (.dup, 1) := of_decide_eq_true (List.all_eq_true.mp dA_X1_happen_0 (9, .dup, 1) (List.mem_of_getElem? (i := 5) rfl))
theorem dX1_happen_10 : decode cX1_happen 10 = .ok (.getfield 43, 3) := of_decide_eq_true (List.all_eq_true.mp dA_X1_happen_0 (10, .getfield 43, 3) (List.mem_of_getElem? (i := 6) rfl))
theorem dX1_happen_13 : decode cX1_happen 13 = .ok (.iconst 1, 1) := of_decide_eq_true (List.all_eq_true.mp dA_X1_happen_0 (13, .iconst 1, 1) (List.mem_of_getElem? (i := 7) rfl))
theorem dX1_happen_14 : decode cX1_happen 14 = .ok (.iadd, 1) := of_decide_eq_true (List.all_eq_true.mp dA_X1_happen_0 (14, .iadd, 1) (List.mem_of_getElem? (i := 8) rfl))
theorem dX1_happen_15 : decode cX1_happen 15 = .ok (.putfield 43, 3) := of_decide_eq_true (List.all_eq_true.mp dA_X1_happen_0 (15, .putfield 43, 3) (List.mem_of_getElem? (i := 9) rfl))
theorem dX1_happen_18 : decode cX1_happen 18 = .ok (.aload_n 0, 1) := of_decide_eq_true (List.all_eq_true.mp dA_X1_happen_0 (18, .aload_n 0, 1) (List.mem_of_getElem? (i := 10) rfl))
theorem dX1_happen_19 : decode cX1_happen 19 = .ok (.iconst 0, 1) := of_decide_eq_true (List.all_eq_true.mp dA_X1_happen_0 (19, .iconst 0, 1) (List.mem_of_getElem? (i := 11) rfl))
theorem dX1_happen_20 : decode cX1_happen 20 = .ok (.putfield 46, 3) := of_decide_eq_true (List.all_eq_true.mp dA_X1_happen_0 (20, .putfield 46, 3) (List.mem_of_getElem? (i := 12) rfl))
theorem dX1_happen_23 : decode cX1_happen 23 = .ok (.goto 25, 3) := of_decide_eq_true (List.all_eq_true.mp dA_X1_happen_0 (23, .goto 25, 3) (List.mem_of_getElem? (i := 13) rfl))
theorem dX1_happen_26 : decode cX1_happen 26 = .ok (.aload_n 0, 1) := of_decide_eq_true (List.all_eq_true.mp dA_X1_happen_0 (26, .aload_n 0, 1) (List.mem_of_getElem? (i := 14) rfl))
theorem dX1_happen_27 : decode cX1_happen 27 = .ok (.iload_n 1, 1) := of_decide_eq_true (List.all_eq_true.mp dA_X1_happen_0 (27, .iload_n 1, 1) (List.mem_of_getElem? (i := 15) rfl))
theorem dX1_happen_28 : decode cX1_happen 28 = .ok (.invokevirtual 121, 3) := of_decide_eq_true (List.all_eq_true.mp dA_X1_happen_0 (28, .invokevirtual 121, 3) (List.mem_of_getElem? (i := 16) rfl))
theorem dX1_happen_31 : decode cX1_happen 31 = .ok (.ifCond .eq 11, 3) := of_decide_eq_true (List.all_eq_true.mp dA_X1_happen_0 (31, .ifCond .eq 11, 3) (List.mem_of_getElem? (i := 17) rfl))
theorem dX1_happen_34 : decode cX1_happen 34 = .ok (.aload_n 0, 1) := of_decide_eq_true (List.all_eq_true.mp dA_X1_happen_0 (34, .aload_n 0, 1) (List.mem_of_getElem? (i := 18) rfl))
theorem dX1_happen_35 : decode cX1_happen 35 = .ok (.iload_n 1, 1) := of_decide_eq_true (List.all_eq_true.mp dA_X1_happen_0 (35, .iload_n 1, 1) (List.mem_of_getElem? (i := 19) rfl))
theorem dX1_happen_36 : decode cX1_happen 36 = .ok (.invokevirtual 124, 3) := of_decide_eq_true (List.all_eq_true.mp dA_X1_happen_0 (36, .invokevirtual 124, 3) (List.mem_of_getElem? (i := 20) rfl))
theorem dX1_happen_39 : decode cX1_happen 39 = .ok (.goto 9, 3) := of_decide_eq_true (List.all_eq_true.mp dA_X1_happen_0 (39, .goto 9, 3) (List.mem_of_getElem? (i := 21) rfl))
theorem dX1_happen_42 : decode cX1_happen 42 = .ok (.aload_n 0, 1) := of_decide_eq_true (List.all_eq_true.mp dA_X1_happen_0 (42, .aload_n 0, 1) (List.mem_of_getElem? (i := 22) rfl))
theorem dX1_happen_43 : decode cX1_happen 43 = .ok (.iload_n 1, 1) := of_decide_eq_true (List.all_eq_true.mp dA_X1_happen_0 (43, .iload_n 1, 1) (List.mem_of_getElem? (i := 23) rfl))
theorem dX1_happen_44 : decode cX1_happen 44 = .ok (.invokevirtual 128, 3) := of_decide_eq_true (List.all_eq_true.mp dA_X1_happen_0 (44, .invokevirtual 128, 3) (List.mem_of_getElem? (i := 24) rfl))
theorem dX1_happen_47 : decode cX1_happen 47 = .ok (.pop, 1) := of_decide_eq_true (List.all_eq_true.mp dA_X1_happen_0 (47, .pop, 1) (List.mem_of_getElem? (i := 25) rfl))
theorem dX1_happen_48 : decode cX1_happen 48 = .ok (.return_, 1) := of_decide_eq_true (List.all_eq_true.mp dA_X1_happen_0 (48, .return_, 1) (List.mem_of_getElem? (i := 26) rfl))
set_option maxRecDepth 20000 in
theorem ggX1_keep_X5_isFull : GoodIn wsX1_keep wsX5_isFull := goodIn_r _ [10, 11, 12, 52, 53, 54, 55] (by decide +kernel) (by decide +kernel)
set_option maxRecDepth 20000 in
theorem gX1_keep_X5_isFull : GoodIn wsX1_keep (wsV RX1 131 RX5 yX5_isFull wsX5_isFull) := goodIn_app (goodIn_of _ (by decide +kernel)) ggX1_keep_X5_isFull
set_option maxRecDepth 20000 in
theorem ggX1_keep_X5_dropFirst : GoodIn wsX1_keep wsX5_dropFirst := goodIn_r _ [16, 11, 17, 18, 19, 20, 21, 22, 52, 53, 54, 55] (by decide +kernel) (by decide +kernel)
set_option maxRecDepth 20000 in
theorem gX1_keep_X5_dropFirst : GoodIn wsX1_keep (wsV RX1 134 RX5 yX5_dropFirst wsX5_dropFirst) := goodIn_app (goodIn_of _ (by decide +kernel)) ggX1_keep_X5_dropFirst
set_option maxRecDepth 20000 in
theorem ggX1_keep_X5_append : GoodIn wsX1_keep wsX5_append := goodIn_r _ [26, 11, 18, 27, 7, 8, 9, 10, 12, 28, 29, 30, 31, 17, 52, 53, 54, 55] (by decide +kernel) (by decide +kernel)
set_option maxRecDepth 20000 in
theorem gX1_keep_X5_append : GoodIn wsX1_keep (wsV RX1 66 RX5 yX5_append wsX5_append) := goodIn_app (goodIn_of _ (by decide +kernel)) ggX1_keep_X5_append
set_option maxRecDepth 20000 in
theorem ggX1_keep_X5_put : GoodIn wsX1_keep wsX5_put := goodIn_r _ [31, 11, 18, 17, 52, 53, 54, 55] (by decide +kernel) (by decide +kernel)
set_option maxRecDepth 20000 in
theorem gX1_keep_X5_put : GoodIn wsX1_keep (wsV RX1 70 RX5 yX5_put wsX5_put) := goodIn_app (goodIn_of _ (by decide +kernel)) ggX1_keep_X5_put
set_option maxRecDepth 20000 in
theorem ggX1_keep_X1_pastColumn : GoodIn wsX1_keep wsX1_pastColumn := goodIn_r _ [36] (by decide +kernel) (by decide +kernel)
set_option maxRecDepth 20000 in
theorem gX1_keep_X1_pastColumn : GoodIn wsX1_keep (va_wsS RX1 137 yX1_pastColumn wsX1_pastColumn) := goodIn_app (goodIn_of _ (by decide +kernel)) ggX1_keep_X1_pastColumn
set_option maxRecDepth 20000 in
theorem ggX1_keep_X5_cell : GoodIn wsX1_keep wsX5_cell := goodIn_r _ [40, 11, 18, 17, 52, 53, 54, 55] (by decide +kernel) (by decide +kernel)
set_option maxRecDepth 20000 in
theorem gX1_keep_X5_cell : GoodIn wsX1_keep (wsV RX1 81 RX5 yX5_cell wsX5_cell) := goodIn_app (goodIn_of _ (by decide +kernel)) ggX1_keep_X5_cell
set_option maxRecDepth 20000 in
theorem dA_X1_keep_0 : (([(0, .aload_n 0, 1), (1, .getfield 33, 3), (4, .invokevirtual 131, 3), (7, .ifCond .eq 10, 3), (10, .aload_n 0, 1), (11, .getfield 33, 3), (14, .invokevirtual 134, 3), (17, .aload_n 0, 1), (18, .getfield 33, 3), (21, .invokevirtual 66, 3), (24, .istore_n 1, 1), (25, .aload_n 0, 1), (26, .getfield 33, 3), (29, .iload_n 1, 1), (30, .iconst 0, 1), (31, .aload_n 0, 1), (32, .getfield 43, 3), (35, .invokevirtual 70, 3), (38, .aload_n 0, 1), (39, .getfield 33, 3), (42, .iload_n 1, 1), (43, .iconst 1, 1), (44, .aload_n 0, 1), (45, .getfield 46, 3), (48, .invokevirtual 70, 3), (51, .aload_n 0, 1), (52, .getfield 33, 3), (55, .iload_n 1, 1), (56, .iconst 2, 1), (57, .aload_n 0, 1), (58, .getfield 49, 3), (61, .invokevirtual 70, 3), (64, .iconst 0, 1), (65, .istore_n 2, 1), (66, .iload_n 2, 1), (67, .aload_n 0, 1), (68, .getfield 20, 3), (71, .getfield 74, 3), (74, .if_icmp .ge 44, 3), (77, .iconst 1, 1)] : List (Nat × Instr × Nat)).all fun q => decide (decode cX1_keep q.1 = .ok (q.2.1, q.2.2))) = true := by decide +kernel
theorem dX1_keep_0 : decode cX1_keep 0 = .ok (.aload_n 0, 1) := of_decide_eq_true (List.all_eq_true.mp dA_X1_keep_0 (0, .aload_n 0, 1) (List.mem_of_getElem? (i := 0) rfl))
theorem dX1_keep_1 : decode cX1_keep 1 = .ok (.getfield 33, 3) := of_decide_eq_true (List.all_eq_true.mp dA_X1_keep_0 (1, .getfield 33, 3) (List.mem_of_getElem? (i := 1) rfl))
theorem dX1_keep_4 : decode cX1_keep 4 = .ok (.invokevirtual 131, 3) := of_decide_eq_true (List.all_eq_true.mp dA_X1_keep_0 (4, .invokevirtual 131, 3) (List.mem_of_getElem? (i := 2) rfl))
theorem dX1_keep_7 : decode cX1_keep 7 = .ok (.ifCond .eq 10, 3) := of_decide_eq_true (List.all_eq_true.mp dA_X1_keep_0 (7, .ifCond .eq 10, 3) (List.mem_of_getElem? (i := 3) rfl))
theorem dX1_keep_10 : decode cX1_keep 10 = .ok (.aload_n 0, 1) := of_decide_eq_true (List.all_eq_true.mp dA_X1_keep_0 (10, .aload_n 0, 1) (List.mem_of_getElem? (i := 4) rfl))
theorem dX1_keep_11 : decode cX1_keep 11 = .ok (.getfield 33, 3) := of_decide_eq_true (List.all_eq_true.mp dA_X1_keep_0 (11, .getfield 33, 3) (List.mem_of_getElem? (i := 5) rfl))
theorem dX1_keep_14 : decode cX1_keep 14 = .ok (.invokevirtual 134, 3) := of_decide_eq_true (List.all_eq_true.mp dA_X1_keep_0 (14, .invokevirtual 134, 3) (List.mem_of_getElem? (i := 6) rfl))
theorem dX1_keep_17 : decode cX1_keep 17 = .ok (.aload_n 0, 1) := of_decide_eq_true (List.all_eq_true.mp dA_X1_keep_0 (17, .aload_n 0, 1) (List.mem_of_getElem? (i := 7) rfl))
theorem dX1_keep_18 : decode cX1_keep 18 = .ok (.getfield 33, 3) := of_decide_eq_true (List.all_eq_true.mp dA_X1_keep_0 (18, .getfield 33, 3) (List.mem_of_getElem? (i := 8) rfl))
theorem dX1_keep_21 : decode cX1_keep 21 = .ok (.invokevirtual 66, 3) := of_decide_eq_true (List.all_eq_true.mp dA_X1_keep_0 (21, .invokevirtual 66, 3) (List.mem_of_getElem? (i := 9) rfl))
theorem dX1_keep_24 : decode cX1_keep 24 = .ok (.istore_n 1, 1) := of_decide_eq_true (List.all_eq_true.mp dA_X1_keep_0 (24, .istore_n 1, 1) (List.mem_of_getElem? (i := 10) rfl))
theorem dX1_keep_25 : decode cX1_keep 25 = .ok (.aload_n 0, 1) := of_decide_eq_true (List.all_eq_true.mp dA_X1_keep_0 (25, .aload_n 0, 1) (List.mem_of_getElem? (i := 11) rfl))
theorem dX1_keep_26 : decode cX1_keep 26 = .ok (.getfield 33, 3) := of_decide_eq_true (List.all_eq_true.mp dA_X1_keep_0 (26, .getfield 33, 3) (List.mem_of_getElem? (i := 12) rfl))
theorem dX1_keep_29 : decode cX1_keep 29 = .ok (.iload_n 1, 1) := of_decide_eq_true (List.all_eq_true.mp dA_X1_keep_0 (29, .iload_n 1, 1) (List.mem_of_getElem? (i := 13) rfl))
theorem dX1_keep_30 : decode cX1_keep 30 = .ok (.iconst 0, 1) := of_decide_eq_true (List.all_eq_true.mp dA_X1_keep_0 (30, .iconst 0, 1) (List.mem_of_getElem? (i := 14) rfl))
theorem dX1_keep_31 : decode cX1_keep 31 = .ok (.aload_n 0, 1) := of_decide_eq_true (List.all_eq_true.mp dA_X1_keep_0 (31, .aload_n 0, 1) (List.mem_of_getElem? (i := 15) rfl))
theorem dX1_keep_32 : decode cX1_keep 32 = .ok (.getfield 43, 3) := of_decide_eq_true (List.all_eq_true.mp dA_X1_keep_0 (32, .getfield 43, 3) (List.mem_of_getElem? (i := 16) rfl))
theorem dX1_keep_35 : decode cX1_keep 35 = .ok (.invokevirtual 70, 3) := of_decide_eq_true (List.all_eq_true.mp dA_X1_keep_0 (35, .invokevirtual 70, 3) (List.mem_of_getElem? (i := 17) rfl))
theorem dX1_keep_38 : decode cX1_keep 38 = .ok (.aload_n 0, 1) := of_decide_eq_true (List.all_eq_true.mp dA_X1_keep_0 (38, .aload_n 0, 1) (List.mem_of_getElem? (i := 18) rfl))
theorem dX1_keep_39 : decode cX1_keep 39 = .ok (.getfield 33, 3) := of_decide_eq_true (List.all_eq_true.mp dA_X1_keep_0 (39, .getfield 33, 3) (List.mem_of_getElem? (i := 19) rfl))
theorem dX1_keep_42 : decode cX1_keep 42 = .ok (.iload_n 1, 1) := of_decide_eq_true (List.all_eq_true.mp dA_X1_keep_0 (42, .iload_n 1, 1) (List.mem_of_getElem? (i := 20) rfl))
theorem dX1_keep_43 : decode cX1_keep 43 = .ok (.iconst 1, 1) := of_decide_eq_true (List.all_eq_true.mp dA_X1_keep_0 (43, .iconst 1, 1) (List.mem_of_getElem? (i := 21) rfl))
theorem dX1_keep_44 : decode cX1_keep 44 = .ok (.aload_n 0, 1) := of_decide_eq_true (List.all_eq_true.mp dA_X1_keep_0 (44, .aload_n 0, 1) (List.mem_of_getElem? (i := 22) rfl))
theorem dX1_keep_45 : decode cX1_keep 45 = .ok (.getfield 46, 3) := of_decide_eq_true (List.all_eq_true.mp dA_X1_keep_0 (45, .getfield 46, 3) (List.mem_of_getElem? (i := 23) rfl))
theorem dX1_keep_48 : decode cX1_keep 48 = .ok (.invokevirtual 70, 3) := of_decide_eq_true (List.all_eq_true.mp dA_X1_keep_0 (48, .invokevirtual 70, 3) (List.mem_of_getElem? (i := 24) rfl))
theorem dX1_keep_51 : decode cX1_keep 51 = .ok (.aload_n 0, 1) := of_decide_eq_true (List.all_eq_true.mp dA_X1_keep_0 (51, .aload_n 0, 1) (List.mem_of_getElem? (i := 25) rfl))
theorem dX1_keep_52 : decode cX1_keep 52 = .ok (.getfield 33, 3) := of_decide_eq_true (List.all_eq_true.mp dA_X1_keep_0 (52, .getfield 33, 3) (List.mem_of_getElem? (i := 26) rfl))
theorem dX1_keep_55 : decode cX1_keep 55 = .ok (.iload_n 1, 1) := of_decide_eq_true (List.all_eq_true.mp dA_X1_keep_0 (55, .iload_n 1, 1) (List.mem_of_getElem? (i := 27) rfl))
theorem dX1_keep_56 : decode cX1_keep 56 = .ok (.iconst 2, 1) := of_decide_eq_true (List.all_eq_true.mp dA_X1_keep_0 (56, .iconst 2, 1) (List.mem_of_getElem? (i := 28) rfl))
theorem dX1_keep_57 : decode cX1_keep 57 = .ok (.aload_n 0, 1) := of_decide_eq_true (List.all_eq_true.mp dA_X1_keep_0 (57, .aload_n 0, 1) (List.mem_of_getElem? (i := 29) rfl))
theorem dX1_keep_58 : decode cX1_keep 58 = .ok (.getfield 49, 3) := of_decide_eq_true (List.all_eq_true.mp dA_X1_keep_0 (58, .getfield 49, 3) (List.mem_of_getElem? (i := 30) rfl))
theorem dX1_keep_61 : decode cX1_keep 61 = .ok (.invokevirtual 70, 3) := of_decide_eq_true (List.all_eq_true.mp dA_X1_keep_0 (61, .invokevirtual 70, 3) (List.mem_of_getElem? (i := 31) rfl))
theorem dX1_keep_64 : decode cX1_keep 64 = .ok (.iconst 0, 1) := of_decide_eq_true (List.all_eq_true.mp dA_X1_keep_0 (64, .iconst 0, 1) (List.mem_of_getElem? (i := 32) rfl))
theorem dX1_keep_65 : decode cX1_keep 65 = .ok (.istore_n 2, 1) := of_decide_eq_true (List.all_eq_true.mp dA_X1_keep_0 (65, .istore_n 2, 1) (List.mem_of_getElem? (i := 33) rfl))
theorem dX1_keep_66 : decode cX1_keep 66 = .ok (.iload_n 2, 1) := of_decide_eq_true (List.all_eq_true.mp dA_X1_keep_0 (66, .iload_n 2, 1) (List.mem_of_getElem? (i := 34) rfl))
theorem dX1_keep_67 : decode cX1_keep 67 = .ok (.aload_n 0, 1) := of_decide_eq_true (List.all_eq_true.mp dA_X1_keep_0 (67, .aload_n 0, 1) (List.mem_of_getElem? (i := 35) rfl))
theorem dX1_keep_68 : decode cX1_keep 68 = .ok (.getfield 20, 3) := of_decide_eq_true (List.all_eq_true.mp dA_X1_keep_0 (68, .getfield 20, 3) (List.mem_of_getElem? (i := 36) rfl))
theorem dX1_keep_71 : decode cX1_keep 71 = .ok (.getfield 74, 3) := of_decide_eq_true (List.all_eq_true.mp dA_X1_keep_0 (71, .getfield 74, 3) (List.mem_of_getElem? (i := 37) rfl))
theorem dX1_keep_74 : decode cX1_keep 74 = .ok (.if_icmp .ge 44, 3) := of_decide_eq_true (List.all_eq_true.mp dA_X1_keep_0 (74, .if_icmp .ge 44, 3) (List.mem_of_getElem? (i := 38) rfl))
theorem dX1_keep_77 : decode cX1_keep 77 = .ok (.iconst 1, 1) := of_decide_eq_true (List.all_eq_true.mp dA_X1_keep_0 (77, .iconst 1, 1) (List.mem_of_getElem? (i := 39) rfl))
set_option maxRecDepth 20000 in
theorem dA_X1_keep_78 : (([(78, .istore_n 3, 1), (79, .iload_n 3, 1), (80, .iconst 3, 1), (81, .if_icmp .gt 31, 3), (84, .aload_n 0, 1), (85, .getfield 33, 3), (88, .iload_n 1, 1), (89, .iload_n 2, 1), (90, .iload_n 3, 1), (91, .invokestatic 137, 3), (94, .aload_n 0, 1), (95, .getfield 20, 3), (98, .iload_n 2, 1), (99, .iload_n 3, 1), (100, .invokevirtual 81, 3), (103, .invokevirtual 70, 3), (106, .iinc 3 1, 3), (109, .goto (-30), 3), (112, .iinc 2 1, 3), (115, .goto (-49), 3), (118, .return_, 1)] : List (Nat × Instr × Nat)).all fun q => decide (decode cX1_keep q.1 = .ok (q.2.1, q.2.2))) = true := by decide +kernel
theorem dX1_keep_78 : decode cX1_keep 78 = .ok (.istore_n 3, 1) := of_decide_eq_true (List.all_eq_true.mp dA_X1_keep_78 (78, .istore_n 3, 1) (List.mem_of_getElem? (i := 0) rfl))
theorem dX1_keep_79 : decode cX1_keep 79 = .ok (.iload_n 3, 1) := of_decide_eq_true (List.all_eq_true.mp dA_X1_keep_78 (79, .iload_n 3, 1) (List.mem_of_getElem? (i := 1) rfl))
theorem dX1_keep_80 : decode cX1_keep 80 = .ok (.iconst 3, 1) := of_decide_eq_true (List.all_eq_true.mp dA_X1_keep_78 (80, .iconst 3, 1) (List.mem_of_getElem? (i := 2) rfl))
theorem dX1_keep_81 : decode cX1_keep 81 = .ok (.if_icmp .gt 31, 3) := of_decide_eq_true (List.all_eq_true.mp dA_X1_keep_78 (81, .if_icmp .gt 31, 3) (List.mem_of_getElem? (i := 3) rfl))
theorem dX1_keep_84 : decode cX1_keep 84 = .ok (.aload_n 0, 1) := of_decide_eq_true (List.all_eq_true.mp dA_X1_keep_78 (84, .aload_n 0, 1) (List.mem_of_getElem? (i := 4) rfl))
theorem dX1_keep_85 : decode cX1_keep 85 = .ok (.getfield 33, 3) := of_decide_eq_true (List.all_eq_true.mp dA_X1_keep_78 (85, .getfield 33, 3) (List.mem_of_getElem? (i := 5) rfl))
theorem dX1_keep_88 : decode cX1_keep 88 = .ok (.iload_n 1, 1) := of_decide_eq_true (List.all_eq_true.mp dA_X1_keep_78 (88, .iload_n 1, 1) (List.mem_of_getElem? (i := 6) rfl))
theorem dX1_keep_89 : decode cX1_keep 89 = .ok (.iload_n 2, 1) := of_decide_eq_true (List.all_eq_true.mp dA_X1_keep_78 (89, .iload_n 2, 1) (List.mem_of_getElem? (i := 7) rfl))
theorem dX1_keep_90 : decode cX1_keep 90 = .ok (.iload_n 3, 1) := of_decide_eq_true (List.all_eq_true.mp dA_X1_keep_78 (90, .iload_n 3, 1) (List.mem_of_getElem? (i := 8) rfl))
theorem dX1_keep_91 : decode cX1_keep 91 = .ok (.invokestatic 137, 3) := of_decide_eq_true (List.all_eq_true.mp dA_X1_keep_78 (91, .invokestatic 137, 3) (List.mem_of_getElem? (i := 9) rfl))
theorem dX1_keep_94 : decode cX1_keep 94 = .ok (.aload_n 0, 1) := of_decide_eq_true (List.all_eq_true.mp dA_X1_keep_78 (94, .aload_n 0, 1) (List.mem_of_getElem? (i := 10) rfl))
theorem dX1_keep_95 : decode cX1_keep 95 = .ok (.getfield 20, 3) := of_decide_eq_true (List.all_eq_true.mp dA_X1_keep_78 (95, .getfield 20, 3) (List.mem_of_getElem? (i := 11) rfl))
theorem dX1_keep_98 : decode cX1_keep 98 = .ok (.iload_n 2, 1) := of_decide_eq_true (List.all_eq_true.mp dA_X1_keep_78 (98, .iload_n 2, 1) (List.mem_of_getElem? (i := 12) rfl))
theorem dX1_keep_99 : decode cX1_keep 99 = .ok (.iload_n 3, 1) := of_decide_eq_true (List.all_eq_true.mp dA_X1_keep_78 (99, .iload_n 3, 1) (List.mem_of_getElem? (i := 13) rfl))
theorem dX1_keep_100 : decode cX1_keep 100 = .ok (.invokevirtual 81, 3) := of_decide_eq_true (List.all_eq_true.mp dA_X1_keep_78 (100, .invokevirtual 81, 3) (List.mem_of_getElem? (i := 14) rfl))
theorem dX1_keep_103 : decode cX1_keep 103 = .ok (.invokevirtual 70, 3) := of_decide_eq_true (List.all_eq_true.mp dA_X1_keep_78 (103, .invokevirtual 70, 3) (List.mem_of_getElem? (i := 15) rfl))
theorem dX1_keep_106 : decode cX1_keep 106 = .ok (.iinc 3 1, 3) := of_decide_eq_true (List.all_eq_true.mp dA_X1_keep_78 (106, .iinc 3 1, 3) (List.mem_of_getElem? (i := 16) rfl))
theorem dX1_keep_109 : decode cX1_keep 109 = .ok (.goto (-30), 3) := of_decide_eq_true (List.all_eq_true.mp dA_X1_keep_78 (109, .goto (-30), 3) (List.mem_of_getElem? (i := 17) rfl))
theorem dX1_keep_112 : decode cX1_keep 112 = .ok (.iinc 2 1, 3) := of_decide_eq_true (List.all_eq_true.mp dA_X1_keep_78 (112, .iinc 2 1, 3) (List.mem_of_getElem? (i := 18) rfl))
theorem dX1_keep_115 : decode cX1_keep 115 = .ok (.goto (-49), 3) := of_decide_eq_true (List.all_eq_true.mp dA_X1_keep_78 (115, .goto (-49), 3) (List.mem_of_getElem? (i := 19) rfl))
theorem dX1_keep_118 : decode cX1_keep 118 = .ok (.return_, 1) := of_decide_eq_true (List.all_eq_true.mp dA_X1_keep_78 (118, .return_, 1) (List.mem_of_getElem? (i := 20) rfl))
set_option maxRecDepth 20000 in
theorem ggX1_goBack_X5_cell : GoodIn wsX1_goBack wsX5_cell := goodIn_r _ [10, 11, 12, 13, 37, 38, 39, 40] (by decide +kernel) (by decide +kernel)
set_option maxRecDepth 20000 in
theorem gX1_goBack_X5_cell : GoodIn wsX1_goBack (wsV RX1 81 RX5 yX5_cell wsX5_cell) := goodIn_app (goodIn_of _ (by decide +kernel)) ggX1_goBack_X5_cell
set_option maxRecDepth 20000 in
theorem ggX1_goBack_X1_pastColumn : GoodIn wsX1_goBack wsX1_pastColumn := goodIn_r _ [17] (by decide +kernel) (by decide +kernel)
set_option maxRecDepth 20000 in
theorem gX1_goBack_X1_pastColumn : GoodIn wsX1_goBack (va_wsS RX1 137 yX1_pastColumn wsX1_pastColumn) := goodIn_app (goodIn_of _ (by decide +kernel)) ggX1_goBack_X1_pastColumn
set_option maxRecDepth 20000 in
theorem ggX1_goBack_X5_put : GoodIn wsX1_goBack wsX5_put := goodIn_r _ [21, 11, 12, 13, 37, 38, 39, 40] (by decide +kernel) (by decide +kernel)
set_option maxRecDepth 20000 in
theorem gX1_goBack_X5_put : GoodIn wsX1_goBack (wsV RX1 70 RX5 yX5_put wsX5_put) := goodIn_app (goodIn_of _ (by decide +kernel)) ggX1_goBack_X5_put
set_option maxRecDepth 20000 in
theorem ggX1_goBack_X5_dropLast : GoodIn wsX1_goBack wsX5_dropLast := goodIn_r _ [25, 11, 37, 38, 39, 40] (by decide +kernel) (by decide +kernel)
set_option maxRecDepth 20000 in
theorem gX1_goBack_X5_dropLast : GoodIn wsX1_goBack (wsV RX1 140 RX5 yX5_dropLast wsX5_dropLast) := goodIn_app (goodIn_of _ (by decide +kernel)) ggX1_goBack_X5_dropLast
set_option maxRecDepth 20000 in
theorem dA_X1_goBack_0 : (([(0, .aload_n 0, 1), (1, .getfield 33, 3), (4, .getfield 74, 3), (7, .iconst 1, 1), (8, .isub, 1), (9, .istore_n 1, 1), (10, .iload_n 1, 1), (11, .ifCond .ge 4, 3), (14, .return_, 1), (15, .aload_n 0, 1), (16, .aload_n 0, 1), (17, .getfield 33, 3), (20, .iload_n 1, 1), (21, .iconst 0, 1), (22, .invokevirtual 81, 3), (25, .putfield 43, 3), (28, .aload_n 0, 1), (29, .aload_n 0, 1), (30, .getfield 33, 3), (33, .iload_n 1, 1), (34, .iconst 1, 1), (35, .invokevirtual 81, 3), (38, .putfield 46, 3), (41, .aload_n 0, 1), (42, .aload_n 0, 1), (43, .getfield 33, 3), (46, .iload_n 1, 1), (47, .iconst 2, 1), (48, .invokevirtual 81, 3), (51, .putfield 49, 3), (54, .iconst 0, 1), (55, .istore_n 2, 1), (56, .iload_n 2, 1), (57, .aload_n 0, 1), (58, .getfield 20, 3), (61, .getfield 74, 3), (64, .if_icmp .ge 44, 3), (67, .iconst 1, 1), (68, .istore_n 3, 1), (69, .iload_n 3, 1)] : List (Nat × Instr × Nat)).all fun q => decide (decode cX1_goBack q.1 = .ok (q.2.1, q.2.2))) = true := by decide +kernel
theorem dX1_goBack_0 : decode cX1_goBack 0 = .ok (.aload_n 0, 1) := of_decide_eq_true (List.all_eq_true.mp dA_X1_goBack_0 (0, .aload_n 0, 1) (List.mem_of_getElem? (i := 0) rfl))
theorem dX1_goBack_1 : decode cX1_goBack 1 = .ok (.getfield 33, 3) := of_decide_eq_true (List.all_eq_true.mp dA_X1_goBack_0 (1, .getfield 33, 3) (List.mem_of_getElem? (i := 1) rfl))
theorem dX1_goBack_4 : decode cX1_goBack 4 = .ok (.getfield 74, 3) := of_decide_eq_true (List.all_eq_true.mp dA_X1_goBack_0 (4, .getfield 74, 3) (List.mem_of_getElem? (i := 2) rfl))
theorem dX1_goBack_7 : decode cX1_goBack 7 = .ok (.iconst 1, 1) := of_decide_eq_true (List.all_eq_true.mp dA_X1_goBack_0 (7, .iconst 1, 1) (List.mem_of_getElem? (i := 3) rfl))
theorem dX1_goBack_8 : decode cX1_goBack 8 = .ok (.isub, 1) := of_decide_eq_true (List.all_eq_true.mp dA_X1_goBack_0 (8, .isub, 1) (List.mem_of_getElem? (i := 4) rfl))
theorem dX1_goBack_9 : decode cX1_goBack 9 = .ok (.istore_n 1, 1) := of_decide_eq_true (List.all_eq_true.mp dA_X1_goBack_0 (9, .istore_n 1, 1) (List.mem_of_getElem? (i := 5) rfl))
theorem dX1_goBack_10 : decode cX1_goBack 10 = .ok (.iload_n 1, 1) := of_decide_eq_true (List.all_eq_true.mp dA_X1_goBack_0 (10, .iload_n 1, 1) (List.mem_of_getElem? (i := 6) rfl))
theorem dX1_goBack_11 : decode cX1_goBack 11 = .ok (.ifCond .ge 4, 3) := of_decide_eq_true (List.all_eq_true.mp dA_X1_goBack_0 (11, .ifCond .ge 4, 3) (List.mem_of_getElem? (i := 7) rfl))
theorem dX1_goBack_14 : decode cX1_goBack 14 = .ok (.return_, 1) := of_decide_eq_true (List.all_eq_true.mp dA_X1_goBack_0 (14, .return_, 1) (List.mem_of_getElem? (i := 8) rfl))
theorem dX1_goBack_15 : decode cX1_goBack 15 = .ok (.aload_n 0, 1) := of_decide_eq_true (List.all_eq_true.mp dA_X1_goBack_0 (15, .aload_n 0, 1) (List.mem_of_getElem? (i := 9) rfl))
theorem dX1_goBack_16 : decode cX1_goBack 16 = .ok (.aload_n 0, 1) := of_decide_eq_true (List.all_eq_true.mp dA_X1_goBack_0 (16, .aload_n 0, 1) (List.mem_of_getElem? (i := 10) rfl))
theorem dX1_goBack_17 : decode cX1_goBack 17 = .ok (.getfield 33, 3) := of_decide_eq_true (List.all_eq_true.mp dA_X1_goBack_0 (17, .getfield 33, 3) (List.mem_of_getElem? (i := 11) rfl))
theorem dX1_goBack_20 : decode cX1_goBack 20 = .ok (.iload_n 1, 1) := of_decide_eq_true (List.all_eq_true.mp dA_X1_goBack_0 (20, .iload_n 1, 1) (List.mem_of_getElem? (i := 12) rfl))
theorem dX1_goBack_21 : decode cX1_goBack 21 = .ok (.iconst 0, 1) := of_decide_eq_true (List.all_eq_true.mp dA_X1_goBack_0 (21, .iconst 0, 1) (List.mem_of_getElem? (i := 13) rfl))
theorem dX1_goBack_22 : decode cX1_goBack 22 = .ok (.invokevirtual 81, 3) := of_decide_eq_true (List.all_eq_true.mp dA_X1_goBack_0 (22, .invokevirtual 81, 3) (List.mem_of_getElem? (i := 14) rfl))
theorem dX1_goBack_25 : decode cX1_goBack 25 = .ok (.putfield 43, 3) := of_decide_eq_true (List.all_eq_true.mp dA_X1_goBack_0 (25, .putfield 43, 3) (List.mem_of_getElem? (i := 15) rfl))
theorem dX1_goBack_28 : decode cX1_goBack 28 = .ok (.aload_n 0, 1) := of_decide_eq_true (List.all_eq_true.mp dA_X1_goBack_0 (28, .aload_n 0, 1) (List.mem_of_getElem? (i := 16) rfl))
theorem dX1_goBack_29 : decode cX1_goBack 29 = .ok (.aload_n 0, 1) := of_decide_eq_true (List.all_eq_true.mp dA_X1_goBack_0 (29, .aload_n 0, 1) (List.mem_of_getElem? (i := 17) rfl))
theorem dX1_goBack_30 : decode cX1_goBack 30 = .ok (.getfield 33, 3) := of_decide_eq_true (List.all_eq_true.mp dA_X1_goBack_0 (30, .getfield 33, 3) (List.mem_of_getElem? (i := 18) rfl))
theorem dX1_goBack_33 : decode cX1_goBack 33 = .ok (.iload_n 1, 1) := of_decide_eq_true (List.all_eq_true.mp dA_X1_goBack_0 (33, .iload_n 1, 1) (List.mem_of_getElem? (i := 19) rfl))
theorem dX1_goBack_34 : decode cX1_goBack 34 = .ok (.iconst 1, 1) := of_decide_eq_true (List.all_eq_true.mp dA_X1_goBack_0 (34, .iconst 1, 1) (List.mem_of_getElem? (i := 20) rfl))
theorem dX1_goBack_35 : decode cX1_goBack 35 = .ok (.invokevirtual 81, 3) := of_decide_eq_true (List.all_eq_true.mp dA_X1_goBack_0 (35, .invokevirtual 81, 3) (List.mem_of_getElem? (i := 21) rfl))
theorem dX1_goBack_38 : decode cX1_goBack 38 = .ok (.putfield 46, 3) := of_decide_eq_true (List.all_eq_true.mp dA_X1_goBack_0 (38, .putfield 46, 3) (List.mem_of_getElem? (i := 22) rfl))
theorem dX1_goBack_41 : decode cX1_goBack 41 = .ok (.aload_n 0, 1) := of_decide_eq_true (List.all_eq_true.mp dA_X1_goBack_0 (41, .aload_n 0, 1) (List.mem_of_getElem? (i := 23) rfl))
theorem dX1_goBack_42 : decode cX1_goBack 42 = .ok (.aload_n 0, 1) := of_decide_eq_true (List.all_eq_true.mp dA_X1_goBack_0 (42, .aload_n 0, 1) (List.mem_of_getElem? (i := 24) rfl))
theorem dX1_goBack_43 : decode cX1_goBack 43 = .ok (.getfield 33, 3) := of_decide_eq_true (List.all_eq_true.mp dA_X1_goBack_0 (43, .getfield 33, 3) (List.mem_of_getElem? (i := 25) rfl))
theorem dX1_goBack_46 : decode cX1_goBack 46 = .ok (.iload_n 1, 1) := of_decide_eq_true (List.all_eq_true.mp dA_X1_goBack_0 (46, .iload_n 1, 1) (List.mem_of_getElem? (i := 26) rfl))
theorem dX1_goBack_47 : decode cX1_goBack 47 = .ok (.iconst 2, 1) := of_decide_eq_true (List.all_eq_true.mp dA_X1_goBack_0 (47, .iconst 2, 1) (List.mem_of_getElem? (i := 27) rfl))
theorem dX1_goBack_48 : decode cX1_goBack 48 = .ok (.invokevirtual 81, 3) := of_decide_eq_true (List.all_eq_true.mp dA_X1_goBack_0 (48, .invokevirtual 81, 3) (List.mem_of_getElem? (i := 28) rfl))
theorem dX1_goBack_51 : decode cX1_goBack 51 = .ok (.putfield 49, 3) := of_decide_eq_true (List.all_eq_true.mp dA_X1_goBack_0 (51, .putfield 49, 3) (List.mem_of_getElem? (i := 29) rfl))
theorem dX1_goBack_54 : decode cX1_goBack 54 = .ok (.iconst 0, 1) := of_decide_eq_true (List.all_eq_true.mp dA_X1_goBack_0 (54, .iconst 0, 1) (List.mem_of_getElem? (i := 30) rfl))
theorem dX1_goBack_55 : decode cX1_goBack 55 = .ok (.istore_n 2, 1) := of_decide_eq_true (List.all_eq_true.mp dA_X1_goBack_0 (55, .istore_n 2, 1) (List.mem_of_getElem? (i := 31) rfl))
theorem dX1_goBack_56 : decode cX1_goBack 56 = .ok (.iload_n 2, 1) := of_decide_eq_true (List.all_eq_true.mp dA_X1_goBack_0 (56, .iload_n 2, 1) (List.mem_of_getElem? (i := 32) rfl))
theorem dX1_goBack_57 : decode cX1_goBack 57 = .ok (.aload_n 0, 1) := of_decide_eq_true (List.all_eq_true.mp dA_X1_goBack_0 (57, .aload_n 0, 1) (List.mem_of_getElem? (i := 33) rfl))
theorem dX1_goBack_58 : decode cX1_goBack 58 = .ok (.getfield 20, 3) := of_decide_eq_true (List.all_eq_true.mp dA_X1_goBack_0 (58, .getfield 20, 3) (List.mem_of_getElem? (i := 34) rfl))
theorem dX1_goBack_61 : decode cX1_goBack 61 = .ok (.getfield 74, 3) := of_decide_eq_true (List.all_eq_true.mp dA_X1_goBack_0 (61, .getfield 74, 3) (List.mem_of_getElem? (i := 35) rfl))
theorem dX1_goBack_64 : decode cX1_goBack 64 = .ok (.if_icmp .ge 44, 3) := of_decide_eq_true (List.all_eq_true.mp dA_X1_goBack_0 (64, .if_icmp .ge 44, 3) (List.mem_of_getElem? (i := 36) rfl))
theorem dX1_goBack_67 : decode cX1_goBack 67 = .ok (.iconst 1, 1) := of_decide_eq_true (List.all_eq_true.mp dA_X1_goBack_0 (67, .iconst 1, 1) (List.mem_of_getElem? (i := 37) rfl))
theorem dX1_goBack_68 : decode cX1_goBack 68 = .ok (.istore_n 3, 1) := of_decide_eq_true (List.all_eq_true.mp dA_X1_goBack_0 (68, .istore_n 3, 1) (List.mem_of_getElem? (i := 38) rfl))
theorem dX1_goBack_69 : decode cX1_goBack 69 = .ok (.iload_n 3, 1) := of_decide_eq_true (List.all_eq_true.mp dA_X1_goBack_0 (69, .iload_n 3, 1) (List.mem_of_getElem? (i := 39) rfl))
set_option maxRecDepth 20000 in
theorem dA_X1_goBack_70 : (([(70, .iconst 3, 1), (71, .if_icmp .gt 31, 3), (74, .aload_n 0, 1), (75, .getfield 20, 3), (78, .iload_n 2, 1), (79, .iload_n 3, 1), (80, .aload_n 0, 1), (81, .getfield 33, 3), (84, .iload_n 1, 1), (85, .iload_n 2, 1), (86, .iload_n 3, 1), (87, .invokestatic 137, 3), (90, .invokevirtual 81, 3), (93, .invokevirtual 70, 3), (96, .iinc 3 1, 3), (99, .goto (-30), 3), (102, .iinc 2 1, 3), (105, .goto (-49), 3), (108, .aload_n 0, 1), (109, .getfield 33, 3), (112, .invokevirtual 140, 3), (115, .return_, 1)] : List (Nat × Instr × Nat)).all fun q => decide (decode cX1_goBack q.1 = .ok (q.2.1, q.2.2))) = true := by decide +kernel
theorem dX1_goBack_70 : decode cX1_goBack 70 = .ok (.iconst 3, 1) := of_decide_eq_true (List.all_eq_true.mp dA_X1_goBack_70 (70, .iconst 3, 1) (List.mem_of_getElem? (i := 0) rfl))
theorem dX1_goBack_71 : decode cX1_goBack 71 = .ok (.if_icmp .gt 31, 3) := of_decide_eq_true (List.all_eq_true.mp dA_X1_goBack_70 (71, .if_icmp .gt 31, 3) (List.mem_of_getElem? (i := 1) rfl))
theorem dX1_goBack_74 : decode cX1_goBack 74 = .ok (.aload_n 0, 1) := of_decide_eq_true (List.all_eq_true.mp dA_X1_goBack_70 (74, .aload_n 0, 1) (List.mem_of_getElem? (i := 2) rfl))
theorem dX1_goBack_75 : decode cX1_goBack 75 = .ok (.getfield 20, 3) := of_decide_eq_true (List.all_eq_true.mp dA_X1_goBack_70 (75, .getfield 20, 3) (List.mem_of_getElem? (i := 3) rfl))
theorem dX1_goBack_78 : decode cX1_goBack 78 = .ok (.iload_n 2, 1) := of_decide_eq_true (List.all_eq_true.mp dA_X1_goBack_70 (78, .iload_n 2, 1) (List.mem_of_getElem? (i := 4) rfl))
theorem dX1_goBack_79 : decode cX1_goBack 79 = .ok (.iload_n 3, 1) := of_decide_eq_true (List.all_eq_true.mp dA_X1_goBack_70 (79, .iload_n 3, 1) (List.mem_of_getElem? (i := 5) rfl))
theorem dX1_goBack_80 : decode cX1_goBack 80 = .ok (.aload_n 0, 1) := of_decide_eq_true (List.all_eq_true.mp dA_X1_goBack_70 (80, .aload_n 0, 1) (List.mem_of_getElem? (i := 6) rfl))
theorem dX1_goBack_81 : decode cX1_goBack 81 = .ok (.getfield 33, 3) := of_decide_eq_true (List.all_eq_true.mp dA_X1_goBack_70 (81, .getfield 33, 3) (List.mem_of_getElem? (i := 7) rfl))
theorem dX1_goBack_84 : decode cX1_goBack 84 = .ok (.iload_n 1, 1) := of_decide_eq_true (List.all_eq_true.mp dA_X1_goBack_70 (84, .iload_n 1, 1) (List.mem_of_getElem? (i := 8) rfl))
theorem dX1_goBack_85 : decode cX1_goBack 85 = .ok (.iload_n 2, 1) := of_decide_eq_true (List.all_eq_true.mp dA_X1_goBack_70 (85, .iload_n 2, 1) (List.mem_of_getElem? (i := 9) rfl))
theorem dX1_goBack_86 : decode cX1_goBack 86 = .ok (.iload_n 3, 1) := of_decide_eq_true (List.all_eq_true.mp dA_X1_goBack_70 (86, .iload_n 3, 1) (List.mem_of_getElem? (i := 10) rfl))
theorem dX1_goBack_87 : decode cX1_goBack 87 = .ok (.invokestatic 137, 3) := of_decide_eq_true (List.all_eq_true.mp dA_X1_goBack_70 (87, .invokestatic 137, 3) (List.mem_of_getElem? (i := 11) rfl))
theorem dX1_goBack_90 : decode cX1_goBack 90 = .ok (.invokevirtual 81, 3) := of_decide_eq_true (List.all_eq_true.mp dA_X1_goBack_70 (90, .invokevirtual 81, 3) (List.mem_of_getElem? (i := 12) rfl))
theorem dX1_goBack_93 : decode cX1_goBack 93 = .ok (.invokevirtual 70, 3) := of_decide_eq_true (List.all_eq_true.mp dA_X1_goBack_70 (93, .invokevirtual 70, 3) (List.mem_of_getElem? (i := 13) rfl))
theorem dX1_goBack_96 : decode cX1_goBack 96 = .ok (.iinc 3 1, 3) := of_decide_eq_true (List.all_eq_true.mp dA_X1_goBack_70 (96, .iinc 3 1, 3) (List.mem_of_getElem? (i := 14) rfl))
theorem dX1_goBack_99 : decode cX1_goBack 99 = .ok (.goto (-30), 3) := of_decide_eq_true (List.all_eq_true.mp dA_X1_goBack_70 (99, .goto (-30), 3) (List.mem_of_getElem? (i := 15) rfl))
theorem dX1_goBack_102 : decode cX1_goBack 102 = .ok (.iinc 2 1, 3) := of_decide_eq_true (List.all_eq_true.mp dA_X1_goBack_70 (102, .iinc 2 1, 3) (List.mem_of_getElem? (i := 16) rfl))
theorem dX1_goBack_105 : decode cX1_goBack 105 = .ok (.goto (-49), 3) := of_decide_eq_true (List.all_eq_true.mp dA_X1_goBack_70 (105, .goto (-49), 3) (List.mem_of_getElem? (i := 17) rfl))
theorem dX1_goBack_108 : decode cX1_goBack 108 = .ok (.aload_n 0, 1) := of_decide_eq_true (List.all_eq_true.mp dA_X1_goBack_70 (108, .aload_n 0, 1) (List.mem_of_getElem? (i := 18) rfl))
theorem dX1_goBack_109 : decode cX1_goBack 109 = .ok (.getfield 33, 3) := of_decide_eq_true (List.all_eq_true.mp dA_X1_goBack_70 (109, .getfield 33, 3) (List.mem_of_getElem? (i := 19) rfl))
theorem dX1_goBack_112 : decode cX1_goBack 112 = .ok (.invokevirtual 140, 3) := of_decide_eq_true (List.all_eq_true.mp dA_X1_goBack_70 (112, .invokevirtual 140, 3) (List.mem_of_getElem? (i := 20) rfl))
theorem dX1_goBack_115 : decode cX1_goBack 115 = .ok (.return_, 1) := of_decide_eq_true (List.all_eq_true.mp dA_X1_goBack_70 (115, .return_, 1) (List.mem_of_getElem? (i := 21) rfl))
set_option maxRecDepth 20000 in
theorem dA_X1_pastColumn_0 : (([(0, .iconst 3, 1), (1, .iconst 3, 1), (2, .iload_n 0, 1), (3, .imul, 1), (4, .iadd, 1), (5, .iload_n 1, 1), (6, .iadd, 1), (7, .iconst 1, 1), (8, .isub, 1), (9, .ireturn, 1)] : List (Nat × Instr × Nat)).all fun q => decide (decode cX1_pastColumn q.1 = .ok (q.2.1, q.2.2))) = true := by decide +kernel
theorem dX1_pastColumn_0 : decode cX1_pastColumn 0 = .ok (.iconst 3, 1) := of_decide_eq_true (List.all_eq_true.mp dA_X1_pastColumn_0 (0, .iconst 3, 1) (List.mem_of_getElem? (i := 0) rfl))
theorem dX1_pastColumn_1 : decode cX1_pastColumn 1 = .ok (.iconst 3, 1) := of_decide_eq_true (List.all_eq_true.mp dA_X1_pastColumn_0 (1, .iconst 3, 1) (List.mem_of_getElem? (i := 1) rfl))
theorem dX1_pastColumn_2 : decode cX1_pastColumn 2 = .ok (.iload_n 0, 1) := of_decide_eq_true (List.all_eq_true.mp dA_X1_pastColumn_0 (2, .iload_n 0, 1) (List.mem_of_getElem? (i := 2) rfl))
theorem dX1_pastColumn_3 : decode cX1_pastColumn 3 = .ok (.imul, 1) := of_decide_eq_true (List.all_eq_true.mp dA_X1_pastColumn_0 (3, .imul, 1) (List.mem_of_getElem? (i := 3) rfl))
theorem dX1_pastColumn_4 : decode cX1_pastColumn 4 = .ok (.iadd, 1) := of_decide_eq_true (List.all_eq_true.mp dA_X1_pastColumn_0 (4, .iadd, 1) (List.mem_of_getElem? (i := 4) rfl))
theorem dX1_pastColumn_5 : decode cX1_pastColumn 5 = .ok (.iload_n 1, 1) := of_decide_eq_true (List.all_eq_true.mp dA_X1_pastColumn_0 (5, .iload_n 1, 1) (List.mem_of_getElem? (i := 5) rfl))
theorem dX1_pastColumn_6 : decode cX1_pastColumn 6 = .ok (.iadd, 1) := of_decide_eq_true (List.all_eq_true.mp dA_X1_pastColumn_0 (6, .iadd, 1) (List.mem_of_getElem? (i := 6) rfl))
theorem dX1_pastColumn_7 : decode cX1_pastColumn 7 = .ok (.iconst 1, 1) := of_decide_eq_true (List.all_eq_true.mp dA_X1_pastColumn_0 (7, .iconst 1, 1) (List.mem_of_getElem? (i := 7) rfl))
theorem dX1_pastColumn_8 : decode cX1_pastColumn 8 = .ok (.isub, 1) := of_decide_eq_true (List.all_eq_true.mp dA_X1_pastColumn_0 (8, .isub, 1) (List.mem_of_getElem? (i := 8) rfl))
theorem dX1_pastColumn_9 : decode cX1_pastColumn 9 = .ok (.ireturn, 1) := of_decide_eq_true (List.all_eq_true.mp dA_X1_pastColumn_0 (9, .ireturn, 1) (List.mem_of_getElem? (i := 9) rfl))
set_option maxRecDepth 20000 in
theorem dA_X2_likely_0 : (([(0, .iconst 2, 1), (1, .iload_n 1, 1), (2, .imul, 1), (3, .iload_n 2, 1), (4, .iadd, 1), (5, .istore 4, 2), (7, .iload 4, 2), (9, .iconst 4, 1), (10, .iadd, 1), (11, .istore 5, 2), (13, .iload 4, 2), (15, .iconst 2, 1), (16, .idiv, 1), (17, .istore 6, 2), (19, .iload_n 0, 1), (20, .tableswitch 94 1 5 #[36, 39, 42, 61, 78], 36), (56, .iload 5, 2), (58, .ireturn, 1), (59, .iload 6, 2), (61, .ireturn, 1), (62, .iload_n 3, 1), (63, .bipush 7, 2), (65, .irem, 1), (66, .iconst 4, 1), (67, .if_icmp .ne 11, 3), (70, .iload 5, 2), (72, .bipush 6, 2), (74, .iadd, 1), (75, .goto 5, 3), (78, .iload 5, 2), (80, .ireturn, 1), (81, .iload_n 1, 1), (82, .ifCond .ne 13, 3), (85, .iload 4, 2), (87, .iconst 3, 1), (88, .if_icmp .le 7, 3), (91, .iconst 3, 1), (92, .goto 5, 3), (95, .iload 4, 2), (97, .ireturn, 1)] : List (Nat × Instr × Nat)).all fun q => decide (decode cX2_likely q.1 = .ok (q.2.1, q.2.2))) = true := by decide +kernel
theorem dX2_likely_0 : decode cX2_likely 0 = .ok (.iconst 2, 1) := of_decide_eq_true (List.all_eq_true.mp dA_X2_likely_0 (0, .iconst 2, 1) (List.mem_of_getElem? (i := 0) rfl))
theorem dX2_likely_1 : decode cX2_likely 1 = .ok (.iload_n 1, 1) := of_decide_eq_true (List.all_eq_true.mp dA_X2_likely_0 (1, .iload_n 1, 1) (List.mem_of_getElem? (i := 1) rfl))
theorem dX2_likely_2 : decode cX2_likely 2 = .ok (.imul, 1) := of_decide_eq_true (List.all_eq_true.mp dA_X2_likely_0 (2, .imul, 1) (List.mem_of_getElem? (i := 2) rfl))
theorem dX2_likely_3 : decode cX2_likely 3 = .ok (.iload_n 2, 1) := of_decide_eq_true (List.all_eq_true.mp dA_X2_likely_0 (3, .iload_n 2, 1) (List.mem_of_getElem? (i := 3) rfl))
theorem dX2_likely_4 : decode cX2_likely 4 = .ok (.iadd, 1) := of_decide_eq_true (List.all_eq_true.mp dA_X2_likely_0 (4, .iadd, 1) (List.mem_of_getElem? (i := 4) rfl))
theorem dX2_likely_5 : decode cX2_likely 5 = .ok (.istore 4, 2) := of_decide_eq_true (List.all_eq_true.mp dA_X2_likely_0 (5, .istore 4, 2) (List.mem_of_getElem? (i := 5) rfl))
theorem dX2_likely_7 : decode cX2_likely 7 = .ok (.iload 4, 2) := of_decide_eq_true (List.all_eq_true.mp dA_X2_likely_0 (7, .iload 4, 2) (List.mem_of_getElem? (i := 6) rfl))
theorem dX2_likely_9 : decode cX2_likely 9 = .ok (.iconst 4, 1) := of_decide_eq_true (List.all_eq_true.mp dA_X2_likely_0 (9, .iconst 4, 1) (List.mem_of_getElem? (i := 7) rfl))
theorem dX2_likely_10 : decode cX2_likely 10 = .ok (.iadd, 1) := of_decide_eq_true (List.all_eq_true.mp dA_X2_likely_0 (10, .iadd, 1) (List.mem_of_getElem? (i := 8) rfl))
theorem dX2_likely_11 : decode cX2_likely 11 = .ok (.istore 5, 2) := of_decide_eq_true (List.all_eq_true.mp dA_X2_likely_0 (11, .istore 5, 2) (List.mem_of_getElem? (i := 9) rfl))
theorem dX2_likely_13 : decode cX2_likely 13 = .ok (.iload 4, 2) := of_decide_eq_true (List.all_eq_true.mp dA_X2_likely_0 (13, .iload 4, 2) (List.mem_of_getElem? (i := 10) rfl))
theorem dX2_likely_15 : decode cX2_likely 15 = .ok (.iconst 2, 1) := of_decide_eq_true (List.all_eq_true.mp dA_X2_likely_0 (15, .iconst 2, 1) (List.mem_of_getElem? (i := 11) rfl))
theorem dX2_likely_16 : decode cX2_likely 16 = .ok (.idiv, 1) := of_decide_eq_true (List.all_eq_true.mp dA_X2_likely_0 (16, .idiv, 1) (List.mem_of_getElem? (i := 12) rfl))
theorem dX2_likely_17 : decode cX2_likely 17 = .ok (.istore 6, 2) := of_decide_eq_true (List.all_eq_true.mp dA_X2_likely_0 (17, .istore 6, 2) (List.mem_of_getElem? (i := 13) rfl))
theorem dX2_likely_19 : decode cX2_likely 19 = .ok (.iload_n 0, 1) := of_decide_eq_true (List.all_eq_true.mp dA_X2_likely_0 (19, .iload_n 0, 1) (List.mem_of_getElem? (i := 14) rfl))
theorem dX2_likely_20 : decode cX2_likely 20 = .ok (.tableswitch 94 1 5 #[36, 39, 42, 61, 78], 36) := of_decide_eq_true (List.all_eq_true.mp dA_X2_likely_0 (20, .tableswitch 94 1 5 #[36, 39, 42, 61, 78], 36) (List.mem_of_getElem? (i := 15) rfl))
theorem dX2_likely_56 : decode cX2_likely 56 = .ok (.iload 5, 2) := of_decide_eq_true (List.all_eq_true.mp dA_X2_likely_0 (56, .iload 5, 2) (List.mem_of_getElem? (i := 16) rfl))
theorem dX2_likely_58 : decode cX2_likely 58 = .ok (.ireturn, 1) := of_decide_eq_true (List.all_eq_true.mp dA_X2_likely_0 (58, .ireturn, 1) (List.mem_of_getElem? (i := 17) rfl))
theorem dX2_likely_59 : decode cX2_likely 59 = .ok (.iload 6, 2) := of_decide_eq_true (List.all_eq_true.mp dA_X2_likely_0 (59, .iload 6, 2) (List.mem_of_getElem? (i := 18) rfl))
theorem dX2_likely_61 : decode cX2_likely 61 = .ok (.ireturn, 1) := of_decide_eq_true (List.all_eq_true.mp dA_X2_likely_0 (61, .ireturn, 1) (List.mem_of_getElem? (i := 19) rfl))
theorem dX2_likely_62 : decode cX2_likely 62 = .ok (.iload_n 3, 1) := of_decide_eq_true (List.all_eq_true.mp dA_X2_likely_0 (62, .iload_n 3, 1) (List.mem_of_getElem? (i := 20) rfl))
theorem dX2_likely_63 : decode cX2_likely 63 = .ok (.bipush 7, 2) := of_decide_eq_true (List.all_eq_true.mp dA_X2_likely_0 (63, .bipush 7, 2) (List.mem_of_getElem? (i := 21) rfl))
theorem dX2_likely_65 : decode cX2_likely 65 = .ok (.irem, 1) := of_decide_eq_true (List.all_eq_true.mp dA_X2_likely_0 (65, .irem, 1) (List.mem_of_getElem? (i := 22) rfl))
theorem dX2_likely_66 : decode cX2_likely 66 = .ok (.iconst 4, 1) := of_decide_eq_true (List.all_eq_true.mp dA_X2_likely_0 (66, .iconst 4, 1) (List.mem_of_getElem? (i := 23) rfl))
theorem dX2_likely_67 : decode cX2_likely 67 = .ok (.if_icmp .ne 11, 3) := of_decide_eq_true (List.all_eq_true.mp dA_X2_likely_0 (67, .if_icmp .ne 11, 3) (List.mem_of_getElem? (i := 24) rfl))
theorem dX2_likely_70 : decode cX2_likely 70 = .ok (.iload 5, 2) := of_decide_eq_true (List.all_eq_true.mp dA_X2_likely_0 (70, .iload 5, 2) (List.mem_of_getElem? (i := 25) rfl))
theorem dX2_likely_72 : decode cX2_likely 72 = .ok (.bipush 6, 2) := of_decide_eq_true (List.all_eq_true.mp dA_X2_likely_0 (72, .bipush 6, 2) (List.mem_of_getElem? (i := 26) rfl))
theorem dX2_likely_74 : decode cX2_likely 74 = .ok (.iadd, 1) := of_decide_eq_true (List.all_eq_true.mp dA_X2_likely_0 (74, .iadd, 1) (List.mem_of_getElem? (i := 27) rfl))
theorem dX2_likely_75 : decode cX2_likely 75 = .ok (.goto 5, 3) := of_decide_eq_true (List.all_eq_true.mp dA_X2_likely_0 (75, .goto 5, 3) (List.mem_of_getElem? (i := 28) rfl))
theorem dX2_likely_78 : decode cX2_likely 78 = .ok (.iload 5, 2) := of_decide_eq_true (List.all_eq_true.mp dA_X2_likely_0 (78, .iload 5, 2) (List.mem_of_getElem? (i := 29) rfl))
theorem dX2_likely_80 : decode cX2_likely 80 = .ok (.ireturn, 1) := of_decide_eq_true (List.all_eq_true.mp dA_X2_likely_0 (80, .ireturn, 1) (List.mem_of_getElem? (i := 30) rfl))
theorem dX2_likely_81 : decode cX2_likely 81 = .ok (.iload_n 1, 1) := of_decide_eq_true (List.all_eq_true.mp dA_X2_likely_0 (81, .iload_n 1, 1) (List.mem_of_getElem? (i := 31) rfl))
theorem dX2_likely_82 : decode cX2_likely 82 = .ok (.ifCond .ne 13, 3) := of_decide_eq_true (List.all_eq_true.mp dA_X2_likely_0 (82, .ifCond .ne 13, 3) (List.mem_of_getElem? (i := 32) rfl))
theorem dX2_likely_85 : decode cX2_likely 85 = .ok (.iload 4, 2) := of_decide_eq_true (List.all_eq_true.mp dA_X2_likely_0 (85, .iload 4, 2) (List.mem_of_getElem? (i := 33) rfl))
theorem dX2_likely_87 : decode cX2_likely 87 = .ok (.iconst 3, 1) := of_decide_eq_true (List.all_eq_true.mp dA_X2_likely_0 (87, .iconst 3, 1) (List.mem_of_getElem? (i := 34) rfl))
theorem dX2_likely_88 : decode cX2_likely 88 = .ok (.if_icmp .le 7, 3) := of_decide_eq_true (List.all_eq_true.mp dA_X2_likely_0 (88, .if_icmp .le 7, 3) (List.mem_of_getElem? (i := 35) rfl))
theorem dX2_likely_91 : decode cX2_likely 91 = .ok (.iconst 3, 1) := of_decide_eq_true (List.all_eq_true.mp dA_X2_likely_0 (91, .iconst 3, 1) (List.mem_of_getElem? (i := 36) rfl))
theorem dX2_likely_92 : decode cX2_likely 92 = .ok (.goto 5, 3) := of_decide_eq_true (List.all_eq_true.mp dA_X2_likely_0 (92, .goto 5, 3) (List.mem_of_getElem? (i := 37) rfl))
theorem dX2_likely_95 : decode cX2_likely 95 = .ok (.iload 4, 2) := of_decide_eq_true (List.all_eq_true.mp dA_X2_likely_0 (95, .iload 4, 2) (List.mem_of_getElem? (i := 38) rfl))
theorem dX2_likely_97 : decode cX2_likely 97 = .ok (.ireturn, 1) := of_decide_eq_true (List.all_eq_true.mp dA_X2_likely_0 (97, .ireturn, 1) (List.mem_of_getElem? (i := 39) rfl))
set_option maxRecDepth 20000 in
theorem dA_X2_likely_98 : (([(98, .iload_n 2, 1), (99, .iconst 2, 1), (100, .if_icmp .lt 11, 3), (103, .iload 6, 2), (105, .bipush 9, 2), (107, .iadd, 1), (108, .goto 5, 3), (111, .iload 6, 2), (113, .ireturn, 1), (114, .iload 4, 2), (116, .ireturn, 1)] : List (Nat × Instr × Nat)).all fun q => decide (decode cX2_likely q.1 = .ok (q.2.1, q.2.2))) = true := by decide +kernel
theorem dX2_likely_98 : decode cX2_likely 98 = .ok (.iload_n 2, 1) := of_decide_eq_true (List.all_eq_true.mp dA_X2_likely_98 (98, .iload_n 2, 1) (List.mem_of_getElem? (i := 0) rfl))
theorem dX2_likely_99 : decode cX2_likely 99 = .ok (.iconst 2, 1) := of_decide_eq_true (List.all_eq_true.mp dA_X2_likely_98 (99, .iconst 2, 1) (List.mem_of_getElem? (i := 1) rfl))
theorem dX2_likely_100 : decode cX2_likely 100 = .ok (.if_icmp .lt 11, 3) := of_decide_eq_true (List.all_eq_true.mp dA_X2_likely_98 (100, .if_icmp .lt 11, 3) (List.mem_of_getElem? (i := 2) rfl))
theorem dX2_likely_103 : decode cX2_likely 103 = .ok (.iload 6, 2) := of_decide_eq_true (List.all_eq_true.mp dA_X2_likely_98 (103, .iload 6, 2) (List.mem_of_getElem? (i := 3) rfl))
theorem dX2_likely_105 : decode cX2_likely 105 = .ok (.bipush 9, 2) := of_decide_eq_true (List.all_eq_true.mp dA_X2_likely_98 (105, .bipush 9, 2) (List.mem_of_getElem? (i := 4) rfl))
theorem dX2_likely_107 : decode cX2_likely 107 = .ok (.iadd, 1) := of_decide_eq_true (List.all_eq_true.mp dA_X2_likely_98 (107, .iadd, 1) (List.mem_of_getElem? (i := 5) rfl))
theorem dX2_likely_108 : decode cX2_likely 108 = .ok (.goto 5, 3) := of_decide_eq_true (List.all_eq_true.mp dA_X2_likely_98 (108, .goto 5, 3) (List.mem_of_getElem? (i := 6) rfl))
theorem dX2_likely_111 : decode cX2_likely 111 = .ok (.iload 6, 2) := of_decide_eq_true (List.all_eq_true.mp dA_X2_likely_98 (111, .iload 6, 2) (List.mem_of_getElem? (i := 7) rfl))
theorem dX2_likely_113 : decode cX2_likely 113 = .ok (.ireturn, 1) := of_decide_eq_true (List.all_eq_true.mp dA_X2_likely_98 (113, .ireturn, 1) (List.mem_of_getElem? (i := 8) rfl))
theorem dX2_likely_114 : decode cX2_likely 114 = .ok (.iload 4, 2) := of_decide_eq_true (List.all_eq_true.mp dA_X2_likely_98 (114, .iload 4, 2) (List.mem_of_getElem? (i := 9) rfl))
theorem dX2_likely_116 : decode cX2_likely 116 = .ok (.ireturn, 1) := of_decide_eq_true (List.all_eq_true.mp dA_X2_likely_98 (116, .ireturn, 1) (List.mem_of_getElem? (i := 10) rfl))
set_option maxRecDepth 20000 in
theorem dA_X2_letsPass_0 : (([(0, .bipush 8, 2), (2, .iload_n 2, 1), (3, .isub, 1), (4, .istore_n 3, 1), (5, .iload_n 3, 1), (6, .iconst 3, 1), (7, .isub, 1), (8, .istore 4, 2), (10, .iload_n 3, 1), (11, .iload_n 1, 1), (12, .iadd, 1), (13, .istore 5, 2), (15, .iload_n 0, 1), (16, .tableswitch 74 1 5 #[36, 39, 42, 47, 60], 36), (52, .iload 4, 2), (54, .ireturn, 1), (55, .iload 5, 2), (57, .ireturn, 1), (58, .iload 4, 2), (60, .iload_n 1, 1), (61, .isub, 1), (62, .ireturn, 1), (63, .iload_n 1, 1), (64, .iconst 4, 1), (65, .if_icmp .ne 8, 3), (68, .bipush 99, 2), (70, .goto 5, 3), (73, .iload 5, 2), (75, .ireturn, 1), (76, .iload_n 2, 1), (77, .ifCond .ne 10, 3), (80, .iconst 2, 1), (81, .iload 4, 2), (83, .imul, 1), (84, .goto 5, 3), (87, .iload 4, 2), (89, .ireturn, 1), (90, .iload_n 3, 1), (91, .ireturn, 1)] : List (Nat × Instr × Nat)).all fun q => decide (decode cX2_letsPass q.1 = .ok (q.2.1, q.2.2))) = true := by decide +kernel
theorem dX2_letsPass_0 : decode cX2_letsPass 0 = .ok (.bipush 8, 2) := of_decide_eq_true (List.all_eq_true.mp dA_X2_letsPass_0 (0, .bipush 8, 2) (List.mem_of_getElem? (i := 0) rfl))
theorem dX2_letsPass_2 : decode cX2_letsPass 2 = .ok (.iload_n 2, 1) := of_decide_eq_true (List.all_eq_true.mp dA_X2_letsPass_0 (2, .iload_n 2, 1) (List.mem_of_getElem? (i := 1) rfl))
theorem dX2_letsPass_3 : decode cX2_letsPass 3 = .ok (.isub, 1) := of_decide_eq_true (List.all_eq_true.mp dA_X2_letsPass_0 (3, .isub, 1) (List.mem_of_getElem? (i := 2) rfl))
theorem dX2_letsPass_4 : decode cX2_letsPass 4 = .ok (.istore_n 3, 1) := of_decide_eq_true (List.all_eq_true.mp dA_X2_letsPass_0 (4, .istore_n 3, 1) (List.mem_of_getElem? (i := 3) rfl))
theorem dX2_letsPass_5 : decode cX2_letsPass 5 = .ok (.iload_n 3, 1) := of_decide_eq_true (List.all_eq_true.mp dA_X2_letsPass_0 (5, .iload_n 3, 1) (List.mem_of_getElem? (i := 4) rfl))
theorem dX2_letsPass_6 : decode cX2_letsPass 6 = .ok (.iconst 3, 1) := of_decide_eq_true (List.all_eq_true.mp dA_X2_letsPass_0 (6, .iconst 3, 1) (List.mem_of_getElem? (i := 5) rfl))
theorem dX2_letsPass_7 : decode cX2_letsPass 7 = .ok (.isub, 1) := of_decide_eq_true (List.all_eq_true.mp dA_X2_letsPass_0 (7, .isub, 1) (List.mem_of_getElem? (i := 6) rfl))
theorem dX2_letsPass_8 : decode cX2_letsPass 8 = .ok (.istore 4, 2) := of_decide_eq_true (List.all_eq_true.mp dA_X2_letsPass_0 (8, .istore 4, 2) (List.mem_of_getElem? (i := 7) rfl))
theorem dX2_letsPass_10 : decode cX2_letsPass 10 = .ok (.iload_n 3, 1) := of_decide_eq_true (List.all_eq_true.mp dA_X2_letsPass_0 (10, .iload_n 3, 1) (List.mem_of_getElem? (i := 8) rfl))
theorem dX2_letsPass_11 : decode cX2_letsPass 11 = .ok (.iload_n 1, 1) := of_decide_eq_true (List.all_eq_true.mp dA_X2_letsPass_0 (11, .iload_n 1, 1) (List.mem_of_getElem? (i := 9) rfl))
theorem dX2_letsPass_12 : decode cX2_letsPass 12 = .ok (.iadd, 1) := of_decide_eq_true (List.all_eq_true.mp dA_X2_letsPass_0 (12, .iadd, 1) (List.mem_of_getElem? (i := 10) rfl))
theorem dX2_letsPass_13 : decode cX2_letsPass 13 = .ok (.istore 5, 2) := of_decide_eq_true (List.all_eq_true.mp dA_X2_letsPass_0 (13, .istore 5, 2) (List.mem_of_getElem? (i := 11) rfl))
theorem dX2_letsPass_15 : decode cX2_letsPass 15 = .ok (.iload_n 0, 1) := of_decide_eq_true (List.all_eq_true.mp dA_X2_letsPass_0 (15, .iload_n 0, 1) (List.mem_of_getElem? (i := 12) rfl))
theorem dX2_letsPass_16 : decode cX2_letsPass 16 = .ok (.tableswitch 74 1 5 #[36, 39, 42, 47, 60], 36) := of_decide_eq_true (List.all_eq_true.mp dA_X2_letsPass_0 (16, .tableswitch 74 1 5 #[36, 39, 42, 47, 60], 36) (List.mem_of_getElem? (i := 13) rfl))
theorem dX2_letsPass_52 : decode cX2_letsPass 52 = .ok (.iload 4, 2) := of_decide_eq_true (List.all_eq_true.mp dA_X2_letsPass_0 (52, .iload 4, 2) (List.mem_of_getElem? (i := 14) rfl))
theorem dX2_letsPass_54 : decode cX2_letsPass 54 = .ok (.ireturn, 1) := of_decide_eq_true (List.all_eq_true.mp dA_X2_letsPass_0 (54, .ireturn, 1) (List.mem_of_getElem? (i := 15) rfl))
theorem dX2_letsPass_55 : decode cX2_letsPass 55 = .ok (.iload 5, 2) := of_decide_eq_true (List.all_eq_true.mp dA_X2_letsPass_0 (55, .iload 5, 2) (List.mem_of_getElem? (i := 16) rfl))
theorem dX2_letsPass_57 : decode cX2_letsPass 57 = .ok (.ireturn, 1) := of_decide_eq_true (List.all_eq_true.mp dA_X2_letsPass_0 (57, .ireturn, 1) (List.mem_of_getElem? (i := 17) rfl))
theorem dX2_letsPass_58 : decode cX2_letsPass 58 = .ok (.iload 4, 2) := of_decide_eq_true (List.all_eq_true.mp dA_X2_letsPass_0 (58, .iload 4, 2) (List.mem_of_getElem? (i := 18) rfl))
theorem dX2_letsPass_60 : decode cX2_letsPass 60 = .ok (.iload_n 1, 1) := of_decide_eq_true (List.all_eq_true.mp dA_X2_letsPass_0 (60, .iload_n 1, 1) (List.mem_of_getElem? (i := 19) rfl))
theorem dX2_letsPass_61 : decode cX2_letsPass 61 = .ok (.isub, 1) := of_decide_eq_true (List.all_eq_true.mp dA_X2_letsPass_0 (61, .isub, 1) (List.mem_of_getElem? (i := 20) rfl))
theorem dX2_letsPass_62 : decode cX2_letsPass 62 = .ok (.ireturn, 1) := of_decide_eq_true (List.all_eq_true.mp dA_X2_letsPass_0 (62, .ireturn, 1) (List.mem_of_getElem? (i := 21) rfl))
theorem dX2_letsPass_63 : decode cX2_letsPass 63 = .ok (.iload_n 1, 1) := of_decide_eq_true (List.all_eq_true.mp dA_X2_letsPass_0 (63, .iload_n 1, 1) (List.mem_of_getElem? (i := 22) rfl))
theorem dX2_letsPass_64 : decode cX2_letsPass 64 = .ok (.iconst 4, 1) := of_decide_eq_true (List.all_eq_true.mp dA_X2_letsPass_0 (64, .iconst 4, 1) (List.mem_of_getElem? (i := 23) rfl))
theorem dX2_letsPass_65 : decode cX2_letsPass 65 = .ok (.if_icmp .ne 8, 3) := of_decide_eq_true (List.all_eq_true.mp dA_X2_letsPass_0 (65, .if_icmp .ne 8, 3) (List.mem_of_getElem? (i := 24) rfl))
theorem dX2_letsPass_68 : decode cX2_letsPass 68 = .ok (.bipush 99, 2) := of_decide_eq_true (List.all_eq_true.mp dA_X2_letsPass_0 (68, .bipush 99, 2) (List.mem_of_getElem? (i := 25) rfl))
theorem dX2_letsPass_70 : decode cX2_letsPass 70 = .ok (.goto 5, 3) := of_decide_eq_true (List.all_eq_true.mp dA_X2_letsPass_0 (70, .goto 5, 3) (List.mem_of_getElem? (i := 26) rfl))
theorem dX2_letsPass_73 : decode cX2_letsPass 73 = .ok (.iload 5, 2) := of_decide_eq_true (List.all_eq_true.mp dA_X2_letsPass_0 (73, .iload 5, 2) (List.mem_of_getElem? (i := 27) rfl))
theorem dX2_letsPass_75 : decode cX2_letsPass 75 = .ok (.ireturn, 1) := of_decide_eq_true (List.all_eq_true.mp dA_X2_letsPass_0 (75, .ireturn, 1) (List.mem_of_getElem? (i := 28) rfl))
theorem dX2_letsPass_76 : decode cX2_letsPass 76 = .ok (.iload_n 2, 1) := of_decide_eq_true (List.all_eq_true.mp dA_X2_letsPass_0 (76, .iload_n 2, 1) (List.mem_of_getElem? (i := 29) rfl))
theorem dX2_letsPass_77 : decode cX2_letsPass 77 = .ok (.ifCond .ne 10, 3) := of_decide_eq_true (List.all_eq_true.mp dA_X2_letsPass_0 (77, .ifCond .ne 10, 3) (List.mem_of_getElem? (i := 30) rfl))
theorem dX2_letsPass_80 : decode cX2_letsPass 80 = .ok (.iconst 2, 1) := of_decide_eq_true (List.all_eq_true.mp dA_X2_letsPass_0 (80, .iconst 2, 1) (List.mem_of_getElem? (i := 31) rfl))
theorem dX2_letsPass_81 : decode cX2_letsPass 81 = .ok (.iload 4, 2) := of_decide_eq_true (List.all_eq_true.mp dA_X2_letsPass_0 (81, .iload 4, 2) (List.mem_of_getElem? (i := 32) rfl))
theorem dX2_letsPass_83 : decode cX2_letsPass 83 = .ok (.imul, 1) := of_decide_eq_true (List.all_eq_true.mp dA_X2_letsPass_0 (83, .imul, 1) (List.mem_of_getElem? (i := 33) rfl))
theorem dX2_letsPass_84 : decode cX2_letsPass 84 = .ok (.goto 5, 3) := of_decide_eq_true (List.all_eq_true.mp dA_X2_letsPass_0 (84, .goto 5, 3) (List.mem_of_getElem? (i := 34) rfl))
theorem dX2_letsPass_87 : decode cX2_letsPass 87 = .ok (.iload 4, 2) := of_decide_eq_true (List.all_eq_true.mp dA_X2_letsPass_0 (87, .iload 4, 2) (List.mem_of_getElem? (i := 35) rfl))
theorem dX2_letsPass_89 : decode cX2_letsPass 89 = .ok (.ireturn, 1) := of_decide_eq_true (List.all_eq_true.mp dA_X2_letsPass_0 (89, .ireturn, 1) (List.mem_of_getElem? (i := 36) rfl))
theorem dX2_letsPass_90 : decode cX2_letsPass 90 = .ok (.iload_n 3, 1) := of_decide_eq_true (List.all_eq_true.mp dA_X2_letsPass_0 (90, .iload_n 3, 1) (List.mem_of_getElem? (i := 37) rfl))
theorem dX2_letsPass_91 : decode cX2_letsPass 91 = .ok (.ireturn, 1) := of_decide_eq_true (List.all_eq_true.mp dA_X2_letsPass_0 (91, .ireturn, 1) (List.mem_of_getElem? (i := 38) rfl))
set_option maxRecDepth 20000 in
theorem dA_X3_init_0 : (([(0, .aload_n 0, 1), (1, .invokespecial 3, 3), (4, .aload_n 0, 1), (5, .sipush 128, 3), (8, .newarray .int, 2), (10, .putfield 11, 3), (13, .aload_n 0, 1), (14, .bipush 7, 2), (16, .newarray .int, 2), (18, .putfield 15, 3), (21, .aload_n 0, 1), (22, .bipush 7, 2), (24, .newarray .int, 2), (26, .putfield 18, 3), (29, .return_, 1)] : List (Nat × Instr × Nat)).all fun q => decide (decode cX3_init q.1 = .ok (q.2.1, q.2.2))) = true := by decide +kernel
theorem dX3_init_0 : decode cX3_init 0 = .ok (.aload_n 0, 1) := of_decide_eq_true (List.all_eq_true.mp dA_X3_init_0 (0, .aload_n 0, 1) (List.mem_of_getElem? (i := 0) rfl))
theorem dX3_init_1 : decode cX3_init 1 = .ok (.invokespecial 3, 3) := of_decide_eq_true (List.all_eq_true.mp dA_X3_init_0 (1, .invokespecial 3, 3) (List.mem_of_getElem? (i := 1) rfl))
theorem dX3_init_4 : decode cX3_init 4 = .ok (.aload_n 0, 1) := of_decide_eq_true (List.all_eq_true.mp dA_X3_init_0 (4, .aload_n 0, 1) (List.mem_of_getElem? (i := 2) rfl))
theorem dX3_init_5 : decode cX3_init 5 = .ok (.sipush 128, 3) := of_decide_eq_true (List.all_eq_true.mp dA_X3_init_0 (5, .sipush 128, 3) (List.mem_of_getElem? (i := 3) rfl))
theorem dX3_init_8 : decode cX3_init 8 = .ok (.newarray .int, 2) := of_decide_eq_true (List.all_eq_true.mp dA_X3_init_0 (8, .newarray .int, 2) (List.mem_of_getElem? (i := 4) rfl))
theorem dX3_init_10 : decode cX3_init 10 = .ok (.putfield 11, 3) := of_decide_eq_true (List.all_eq_true.mp dA_X3_init_0 (10, .putfield 11, 3) (List.mem_of_getElem? (i := 5) rfl))
theorem dX3_init_13 : decode cX3_init 13 = .ok (.aload_n 0, 1) := of_decide_eq_true (List.all_eq_true.mp dA_X3_init_0 (13, .aload_n 0, 1) (List.mem_of_getElem? (i := 6) rfl))
theorem dX3_init_14 : decode cX3_init 14 = .ok (.bipush 7, 2) := of_decide_eq_true (List.all_eq_true.mp dA_X3_init_0 (14, .bipush 7, 2) (List.mem_of_getElem? (i := 7) rfl))
theorem dX3_init_16 : decode cX3_init 16 = .ok (.newarray .int, 2) := of_decide_eq_true (List.all_eq_true.mp dA_X3_init_0 (16, .newarray .int, 2) (List.mem_of_getElem? (i := 8) rfl))
theorem dX3_init_18 : decode cX3_init 18 = .ok (.putfield 15, 3) := of_decide_eq_true (List.all_eq_true.mp dA_X3_init_0 (18, .putfield 15, 3) (List.mem_of_getElem? (i := 9) rfl))
theorem dX3_init_21 : decode cX3_init 21 = .ok (.aload_n 0, 1) := of_decide_eq_true (List.all_eq_true.mp dA_X3_init_0 (21, .aload_n 0, 1) (List.mem_of_getElem? (i := 10) rfl))
theorem dX3_init_22 : decode cX3_init 22 = .ok (.bipush 7, 2) := of_decide_eq_true (List.all_eq_true.mp dA_X3_init_0 (22, .bipush 7, 2) (List.mem_of_getElem? (i := 11) rfl))
theorem dX3_init_24 : decode cX3_init 24 = .ok (.newarray .int, 2) := of_decide_eq_true (List.all_eq_true.mp dA_X3_init_0 (24, .newarray .int, 2) (List.mem_of_getElem? (i := 12) rfl))
theorem dX3_init_26 : decode cX3_init 26 = .ok (.putfield 18, 3) := of_decide_eq_true (List.all_eq_true.mp dA_X3_init_0 (26, .putfield 18, 3) (List.mem_of_getElem? (i := 13) rfl))
theorem dX3_init_29 : decode cX3_init 29 = .ok (.return_, 1) := of_decide_eq_true (List.all_eq_true.mp dA_X3_init_0 (29, .return_, 1) (List.mem_of_getElem? (i := 14) rfl))
set_option maxRecDepth 20000 in
theorem ggX3_arrange_X1_likelyNow : GoodIn wsX3_arrange wsX1_likelyNow := goodIn_r _ [13, 14, 15, 16, 17, 18, 19, 20, 21, 22, 23, 24, 25, 26, 27, 97, 98, 99, 100, 101, 102, 103, 104, 105, 106, 107, 108, 109, 110, 111] (by decide +kernel) (by decide +kernel)
set_option maxRecDepth 20000 in
theorem gX3_arrange_X1_likelyNow : GoodIn wsX3_arrange (wsV RX3 36 RX1 yX1_likelyNow wsX1_likelyNow) := goodIn_app (goodIn_of _ (by decide +kernel)) ggX3_arrange_X1_likelyNow
set_option maxRecDepth 20000 in
theorem ggX3_arrange_X1_isIn : GoodIn wsX3_arrange wsX1_isIn := goodIn_r _ [31, 14, 16, 17, 18, 19, 20, 21, 22, 23, 97, 98, 99, 100, 101, 102, 103, 104, 105, 106, 107, 108, 109, 110, 111] (by decide +kernel) (by decide +kernel)
set_option maxRecDepth 20000 in
theorem gX3_arrange_X1_isIn : GoodIn wsX3_arrange (wsV RX3 40 RX1 yX1_isIn wsX1_isIn) := goodIn_app (goodIn_of _ (by decide +kernel)) ggX3_arrange_X1_isIn
set_option maxRecDepth 20000 in
theorem ggX3_arrange_X3_mostBehind : GoodIn wsX3_arrange wsX3_mostBehind := goodIn_r _ [36, 37, 38, 6, 39, 40, 41, 42, 35, 43, 4, 5, 7, 44, 45, 46, 47, 48, 49, 50, 51, 52, 53, 12, 54, 15, 55, 56, 57, 58, 59, 60, 61, 62, 63, 64, 65, 66, 26, 67, 68, 69, 70, 71, 1, 72, 73, 74, 75, 3, 2, 97, 98, 99, 100, 101, 102, 103, 104, 105, 106, 107, 91, 92, 93, 94, 95, 96] (by decide +kernel) (by decide +kernel)
set_option maxRecDepth 20000 in
theorem gX3_arrange_X3_mostBehind : GoodIn wsX3_arrange (wsV RX3 44 RX3 yX3_mostBehind wsX3_mostBehind) := goodIn_app (goodIn_of _ (by decide +kernel)) ggX3_arrange_X3_mostBehind
set_option maxRecDepth 20000 in
theorem ggX3_arrange_X1_howManyIn : GoodIn wsX3_arrange wsX1_howManyIn := goodIn_r _ [79, 14, 80, 81, 82, 19, 83, 21, 84, 17, 18, 20, 22, 23, 97, 98, 99, 100, 101, 102, 103, 104, 105, 106, 107, 108, 109, 110, 111] (by decide +kernel) (by decide +kernel)
set_option maxRecDepth 20000 in
theorem gX3_arrange_X1_howManyIn : GoodIn wsX3_arrange (wsV RX3 51 RX1 yX1_howManyIn wsX1_howManyIn) := goodIn_app (goodIn_of _ (by decide +kernel)) ggX3_arrange_X1_howManyIn
set_option maxRecDepth 20000 in
theorem ggX3_arrange_X3_choose : GoodIn wsX3_arrange wsX3_choose := goodIn_r _ [88, 89, 8, 2, 90, 40, 41, 42, 35, 43, 4, 5, 6, 7, 44, 45, 46, 47, 48, 49, 50, 51, 52, 53, 12, 54, 15, 55, 56, 57, 58, 59, 60, 61, 62, 63, 64, 65, 66, 26, 67, 68, 69, 70, 71, 1, 72, 73, 74, 75, 3, 91, 92, 93, 94, 95, 96, 97, 98, 99, 100, 101, 102, 103, 104, 105, 106, 107] (by decide +kernel) (by decide +kernel)
set_option maxRecDepth 20000 in
theorem gX3_arrange_X3_choose : GoodIn wsX3_arrange (wsV RX3 64 RX3 yX3_choose wsX3_choose) := goodIn_app (goodIn_of _ (by decide +kernel)) ggX3_arrange_X3_choose
set_option maxRecDepth 20000 in
theorem dA_X3_arrange_0 : (([(0, .aload_n 0, 1), (1, .iconst 0, 1), (2, .putfield 21, 3), (5, .iconst 0, 1), (6, .istore_n 2, 1), (7, .iload_n 2, 1), (8, .aload_n 1, 1), (9, .getfield 25, 3), (12, .getfield 31, 3), (15, .if_icmp .ge 46, 3), (18, .iload_n 2, 1), (19, .bipush 7, 2), (21, .if_icmp .ge 40, 3), (24, .aload_n 0, 1), (25, .getfield 15, 3), (28, .iload_n 2, 1), (29, .aload_n 1, 1), (30, .iload_n 2, 1), (31, .invokevirtual 36, 3), (34, .iastore, 1), (35, .aload_n 1, 1), (36, .iload_n 2, 1), (37, .invokevirtual 40, 3), (40, .ifCond .ne 15, 3), (43, .aload_n 0, 1), (44, .dup, 1), (45, .getfield 21, 3), (48, .iconst 1, 1), (49, .iload_n 2, 1), (50, .ishl, 1), (51, .ior, 1), (52, .putfield 21, 3), (55, .iinc 2 1, 3), (58, .goto (-51), 3), (61, .bipush 127, 2), (63, .istore_n 2, 1), (64, .iload_n 2, 1), (65, .ifCond .lt 32, 3), (68, .iload_n 2, 1), (69, .aload_n 0, 1)] : List (Nat × Instr × Nat)).all fun q => decide (decode cX3_arrange q.1 = .ok (q.2.1, q.2.2))) = true := by decide +kernel
theorem dX3_arrange_0 : decode cX3_arrange 0 = .ok (.aload_n 0, 1) := of_decide_eq_true (List.all_eq_true.mp dA_X3_arrange_0 (0, .aload_n 0, 1) (List.mem_of_getElem? (i := 0) rfl))
theorem dX3_arrange_1 : decode cX3_arrange 1 = .ok (.iconst 0, 1) := of_decide_eq_true (List.all_eq_true.mp dA_X3_arrange_0 (1, .iconst 0, 1) (List.mem_of_getElem? (i := 1) rfl))
theorem dX3_arrange_2 : decode cX3_arrange 2 = .ok (.putfield 21, 3) := of_decide_eq_true (List.all_eq_true.mp dA_X3_arrange_0 (2, .putfield 21, 3) (List.mem_of_getElem? (i := 2) rfl))
theorem dX3_arrange_5 : decode cX3_arrange 5 = .ok (.iconst 0, 1) := of_decide_eq_true (List.all_eq_true.mp dA_X3_arrange_0 (5, .iconst 0, 1) (List.mem_of_getElem? (i := 3) rfl))
theorem dX3_arrange_6 : decode cX3_arrange 6 = .ok (.istore_n 2, 1) := of_decide_eq_true (List.all_eq_true.mp dA_X3_arrange_0 (6, .istore_n 2, 1) (List.mem_of_getElem? (i := 4) rfl))
theorem dX3_arrange_7 : decode cX3_arrange 7 = .ok (.iload_n 2, 1) := of_decide_eq_true (List.all_eq_true.mp dA_X3_arrange_0 (7, .iload_n 2, 1) (List.mem_of_getElem? (i := 5) rfl))
theorem dX3_arrange_8 : decode cX3_arrange 8 = .ok (.aload_n 1, 1) := of_decide_eq_true (List.all_eq_true.mp dA_X3_arrange_0 (8, .aload_n 1, 1) (List.mem_of_getElem? (i := 6) rfl))
theorem dX3_arrange_9 : decode cX3_arrange 9 = .ok (.getfield 25, 3) := of_decide_eq_true (List.all_eq_true.mp dA_X3_arrange_0 (9, .getfield 25, 3) (List.mem_of_getElem? (i := 7) rfl))
theorem dX3_arrange_12 : decode cX3_arrange 12 = .ok (.getfield 31, 3) := of_decide_eq_true (List.all_eq_true.mp dA_X3_arrange_0 (12, .getfield 31, 3) (List.mem_of_getElem? (i := 8) rfl))
theorem dX3_arrange_15 : decode cX3_arrange 15 = .ok (.if_icmp .ge 46, 3) := of_decide_eq_true (List.all_eq_true.mp dA_X3_arrange_0 (15, .if_icmp .ge 46, 3) (List.mem_of_getElem? (i := 9) rfl))
theorem dX3_arrange_18 : decode cX3_arrange 18 = .ok (.iload_n 2, 1) := of_decide_eq_true (List.all_eq_true.mp dA_X3_arrange_0 (18, .iload_n 2, 1) (List.mem_of_getElem? (i := 10) rfl))
theorem dX3_arrange_19 : decode cX3_arrange 19 = .ok (.bipush 7, 2) := of_decide_eq_true (List.all_eq_true.mp dA_X3_arrange_0 (19, .bipush 7, 2) (List.mem_of_getElem? (i := 11) rfl))
theorem dX3_arrange_21 : decode cX3_arrange 21 = .ok (.if_icmp .ge 40, 3) := of_decide_eq_true (List.all_eq_true.mp dA_X3_arrange_0 (21, .if_icmp .ge 40, 3) (List.mem_of_getElem? (i := 12) rfl))
theorem dX3_arrange_24 : decode cX3_arrange 24 = .ok (.aload_n 0, 1) := of_decide_eq_true (List.all_eq_true.mp dA_X3_arrange_0 (24, .aload_n 0, 1) (List.mem_of_getElem? (i := 13) rfl))
theorem dX3_arrange_25 : decode cX3_arrange 25 = .ok (.getfield 15, 3) := of_decide_eq_true (List.all_eq_true.mp dA_X3_arrange_0 (25, .getfield 15, 3) (List.mem_of_getElem? (i := 14) rfl))
theorem dX3_arrange_28 : decode cX3_arrange 28 = .ok (.iload_n 2, 1) := of_decide_eq_true (List.all_eq_true.mp dA_X3_arrange_0 (28, .iload_n 2, 1) (List.mem_of_getElem? (i := 15) rfl))
theorem dX3_arrange_29 : decode cX3_arrange 29 = .ok (.aload_n 1, 1) := of_decide_eq_true (List.all_eq_true.mp dA_X3_arrange_0 (29, .aload_n 1, 1) (List.mem_of_getElem? (i := 16) rfl))
theorem dX3_arrange_30 : decode cX3_arrange 30 = .ok (.iload_n 2, 1) := of_decide_eq_true (List.all_eq_true.mp dA_X3_arrange_0 (30, .iload_n 2, 1) (List.mem_of_getElem? (i := 17) rfl))
theorem dX3_arrange_31 : decode cX3_arrange 31 = .ok (.invokevirtual 36, 3) := of_decide_eq_true (List.all_eq_true.mp dA_X3_arrange_0 (31, .invokevirtual 36, 3) (List.mem_of_getElem? (i := 18) rfl))
theorem dX3_arrange_34 : decode cX3_arrange 34 = .ok (.iastore, 1) := of_decide_eq_true (List.all_eq_true.mp dA_X3_arrange_0 (34, .iastore, 1) (List.mem_of_getElem? (i := 19) rfl))
theorem dX3_arrange_35 : decode cX3_arrange 35 = .ok (.aload_n 1, 1) := of_decide_eq_true (List.all_eq_true.mp dA_X3_arrange_0 (35, .aload_n 1, 1) (List.mem_of_getElem? (i := 20) rfl))
theorem dX3_arrange_36 : decode cX3_arrange 36 = .ok (.iload_n 2, 1) := of_decide_eq_true (List.all_eq_true.mp dA_X3_arrange_0 (36, .iload_n 2, 1) (List.mem_of_getElem? (i := 21) rfl))
theorem dX3_arrange_37 : decode cX3_arrange 37 = .ok (.invokevirtual 40, 3) := of_decide_eq_true (List.all_eq_true.mp dA_X3_arrange_0 (37, .invokevirtual 40, 3) (List.mem_of_getElem? (i := 22) rfl))
theorem dX3_arrange_40 : decode cX3_arrange 40 = .ok (.ifCond .ne 15, 3) := of_decide_eq_true (List.all_eq_true.mp dA_X3_arrange_0 (40, .ifCond .ne 15, 3) (List.mem_of_getElem? (i := 23) rfl))
theorem dX3_arrange_43 : decode cX3_arrange 43 = .ok (.aload_n 0, 1) := of_decide_eq_true (List.all_eq_true.mp dA_X3_arrange_0 (43, .aload_n 0, 1) (List.mem_of_getElem? (i := 24) rfl))
theorem dX3_arrange_44 : decode cX3_arrange 44 = .ok (.dup, 1) := of_decide_eq_true (List.all_eq_true.mp dA_X3_arrange_0 (44, .dup, 1) (List.mem_of_getElem? (i := 25) rfl))
theorem dX3_arrange_45 : decode cX3_arrange 45 = .ok (.getfield 21, 3) := of_decide_eq_true (List.all_eq_true.mp dA_X3_arrange_0 (45, .getfield 21, 3) (List.mem_of_getElem? (i := 26) rfl))
theorem dX3_arrange_48 : decode cX3_arrange 48 = .ok (.iconst 1, 1) := of_decide_eq_true (List.all_eq_true.mp dA_X3_arrange_0 (48, .iconst 1, 1) (List.mem_of_getElem? (i := 27) rfl))
theorem dX3_arrange_49 : decode cX3_arrange 49 = .ok (.iload_n 2, 1) := of_decide_eq_true (List.all_eq_true.mp dA_X3_arrange_0 (49, .iload_n 2, 1) (List.mem_of_getElem? (i := 28) rfl))
theorem dX3_arrange_50 : decode cX3_arrange 50 = .ok (.ishl, 1) := of_decide_eq_true (List.all_eq_true.mp dA_X3_arrange_0 (50, .ishl, 1) (List.mem_of_getElem? (i := 29) rfl))
theorem dX3_arrange_51 : decode cX3_arrange 51 = .ok (.ior, 1) := of_decide_eq_true (List.all_eq_true.mp dA_X3_arrange_0 (51, .ior, 1) (List.mem_of_getElem? (i := 30) rfl))
theorem dX3_arrange_52 : decode cX3_arrange 52 = .ok (.putfield 21, 3) := of_decide_eq_true (List.all_eq_true.mp dA_X3_arrange_0 (52, .putfield 21, 3) (List.mem_of_getElem? (i := 31) rfl))
theorem dX3_arrange_55 : decode cX3_arrange 55 = .ok (.iinc 2 1, 3) := of_decide_eq_true (List.all_eq_true.mp dA_X3_arrange_0 (55, .iinc 2 1, 3) (List.mem_of_getElem? (i := 32) rfl))
theorem dX3_arrange_58 : decode cX3_arrange 58 = .ok (.goto (-51), 3) := of_decide_eq_true (List.all_eq_true.mp dA_X3_arrange_0 (58, .goto (-51), 3) (List.mem_of_getElem? (i := 33) rfl))
theorem dX3_arrange_61 : decode cX3_arrange 61 = .ok (.bipush 127, 2) := of_decide_eq_true (List.all_eq_true.mp dA_X3_arrange_0 (61, .bipush 127, 2) (List.mem_of_getElem? (i := 34) rfl))
theorem dX3_arrange_63 : decode cX3_arrange 63 = .ok (.istore_n 2, 1) := of_decide_eq_true (List.all_eq_true.mp dA_X3_arrange_0 (63, .istore_n 2, 1) (List.mem_of_getElem? (i := 35) rfl))
theorem dX3_arrange_64 : decode cX3_arrange 64 = .ok (.iload_n 2, 1) := of_decide_eq_true (List.all_eq_true.mp dA_X3_arrange_0 (64, .iload_n 2, 1) (List.mem_of_getElem? (i := 36) rfl))
theorem dX3_arrange_65 : decode cX3_arrange 65 = .ok (.ifCond .lt 32, 3) := of_decide_eq_true (List.all_eq_true.mp dA_X3_arrange_0 (65, .ifCond .lt 32, 3) (List.mem_of_getElem? (i := 37) rfl))
theorem dX3_arrange_68 : decode cX3_arrange 68 = .ok (.iload_n 2, 1) := of_decide_eq_true (List.all_eq_true.mp dA_X3_arrange_0 (68, .iload_n 2, 1) (List.mem_of_getElem? (i := 38) rfl))
theorem dX3_arrange_69 : decode cX3_arrange 69 = .ok (.aload_n 0, 1) := of_decide_eq_true (List.all_eq_true.mp dA_X3_arrange_0 (69, .aload_n 0, 1) (List.mem_of_getElem? (i := 39) rfl))
set_option maxRecDepth 20000 in
theorem dA_X3_arrange_70 : (([(70, .getfield 21, 3), (73, .iconst (-1), 1), (74, .ixor, 1), (75, .iand, 1), (76, .ifCond .ne 15, 3), (79, .aload_n 0, 1), (80, .getfield 11, 3), (83, .iload_n 2, 1), (84, .aload_n 0, 1), (85, .aload_n 1, 1), (86, .iload_n 2, 1), (87, .invokevirtual 44, 3), (90, .iastore, 1), (91, .iinc 2 (-1), 3), (94, .goto (-30), 3), (97, .aload_n 0, 1), (98, .aload_n 1, 1), (99, .getfield 48, 3), (102, .aload_n 1, 1), (103, .invokevirtual 51, 3), (106, .isub, 1), (107, .aload_n 0, 1), (108, .getfield 11, 3), (111, .iconst 0, 1), (112, .iaload, 1), (113, .invokestatic 55, 3), (116, .putfield 61, 3), (119, .aload_n 0, 1), (120, .aload_n 1, 1), (121, .invokevirtual 64, 3), (124, .return_, 1)] : List (Nat × Instr × Nat)).all fun q => decide (decode cX3_arrange q.1 = .ok (q.2.1, q.2.2))) = true := by decide +kernel
theorem dX3_arrange_70 : decode cX3_arrange 70 = .ok (.getfield 21, 3) := of_decide_eq_true (List.all_eq_true.mp dA_X3_arrange_70 (70, .getfield 21, 3) (List.mem_of_getElem? (i := 0) rfl))
theorem dX3_arrange_73 : decode cX3_arrange 73 = .ok (.iconst (-1), 1) := of_decide_eq_true (List.all_eq_true.mp dA_X3_arrange_70 (73, .iconst (-1), 1) (List.mem_of_getElem? (i := 1) rfl))
theorem dX3_arrange_74 : decode cX3_arrange 74 = .ok (.ixor, 1) := of_decide_eq_true (List.all_eq_true.mp dA_X3_arrange_70 (74, .ixor, 1) (List.mem_of_getElem? (i := 2) rfl))
theorem dX3_arrange_75 : decode cX3_arrange 75 = .ok (.iand, 1) := of_decide_eq_true (List.all_eq_true.mp dA_X3_arrange_70 (75, .iand, 1) (List.mem_of_getElem? (i := 3) rfl))
theorem dX3_arrange_76 : decode cX3_arrange 76 = .ok (.ifCond .ne 15, 3) := of_decide_eq_true (List.all_eq_true.mp dA_X3_arrange_70 (76, .ifCond .ne 15, 3) (List.mem_of_getElem? (i := 4) rfl))
theorem dX3_arrange_79 : decode cX3_arrange 79 = .ok (.aload_n 0, 1) := of_decide_eq_true (List.all_eq_true.mp dA_X3_arrange_70 (79, .aload_n 0, 1) (List.mem_of_getElem? (i := 5) rfl))
theorem dX3_arrange_80 : decode cX3_arrange 80 = .ok (.getfield 11, 3) := of_decide_eq_true (List.all_eq_true.mp dA_X3_arrange_70 (80, .getfield 11, 3) (List.mem_of_getElem? (i := 6) rfl))
theorem dX3_arrange_83 : decode cX3_arrange 83 = .ok (.iload_n 2, 1) := of_decide_eq_true (List.all_eq_true.mp dA_X3_arrange_70 (83, .iload_n 2, 1) (List.mem_of_getElem? (i := 7) rfl))
theorem dX3_arrange_84 : decode cX3_arrange 84 = .ok (.aload_n 0, 1) := of_decide_eq_true (List.all_eq_true.mp dA_X3_arrange_70 (84, .aload_n 0, 1) (List.mem_of_getElem? (i := 8) rfl))
theorem dX3_arrange_85 : decode cX3_arrange 85 = .ok (.aload_n 1, 1) := of_decide_eq_true (List.all_eq_true.mp dA_X3_arrange_70 (85, .aload_n 1, 1) (List.mem_of_getElem? (i := 9) rfl))
theorem dX3_arrange_86 : decode cX3_arrange 86 = .ok (.iload_n 2, 1) := of_decide_eq_true (List.all_eq_true.mp dA_X3_arrange_70 (86, .iload_n 2, 1) (List.mem_of_getElem? (i := 10) rfl))
theorem dX3_arrange_87 : decode cX3_arrange 87 = .ok (.invokevirtual 44, 3) := of_decide_eq_true (List.all_eq_true.mp dA_X3_arrange_70 (87, .invokevirtual 44, 3) (List.mem_of_getElem? (i := 11) rfl))
theorem dX3_arrange_90 : decode cX3_arrange 90 = .ok (.iastore, 1) := of_decide_eq_true (List.all_eq_true.mp dA_X3_arrange_70 (90, .iastore, 1) (List.mem_of_getElem? (i := 12) rfl))
theorem dX3_arrange_91 : decode cX3_arrange 91 = .ok (.iinc 2 (-1), 3) := of_decide_eq_true (List.all_eq_true.mp dA_X3_arrange_70 (91, .iinc 2 (-1), 3) (List.mem_of_getElem? (i := 13) rfl))
theorem dX3_arrange_94 : decode cX3_arrange 94 = .ok (.goto (-30), 3) := of_decide_eq_true (List.all_eq_true.mp dA_X3_arrange_70 (94, .goto (-30), 3) (List.mem_of_getElem? (i := 14) rfl))
theorem dX3_arrange_97 : decode cX3_arrange 97 = .ok (.aload_n 0, 1) := of_decide_eq_true (List.all_eq_true.mp dA_X3_arrange_70 (97, .aload_n 0, 1) (List.mem_of_getElem? (i := 15) rfl))
theorem dX3_arrange_98 : decode cX3_arrange 98 = .ok (.aload_n 1, 1) := of_decide_eq_true (List.all_eq_true.mp dA_X3_arrange_70 (98, .aload_n 1, 1) (List.mem_of_getElem? (i := 16) rfl))
theorem dX3_arrange_99 : decode cX3_arrange 99 = .ok (.getfield 48, 3) := of_decide_eq_true (List.all_eq_true.mp dA_X3_arrange_70 (99, .getfield 48, 3) (List.mem_of_getElem? (i := 17) rfl))
theorem dX3_arrange_102 : decode cX3_arrange 102 = .ok (.aload_n 1, 1) := of_decide_eq_true (List.all_eq_true.mp dA_X3_arrange_70 (102, .aload_n 1, 1) (List.mem_of_getElem? (i := 18) rfl))
theorem dX3_arrange_103 : decode cX3_arrange 103 = .ok (.invokevirtual 51, 3) := of_decide_eq_true (List.all_eq_true.mp dA_X3_arrange_70 (103, .invokevirtual 51, 3) (List.mem_of_getElem? (i := 19) rfl))
theorem dX3_arrange_106 : decode cX3_arrange 106 = .ok (.isub, 1) := of_decide_eq_true (List.all_eq_true.mp dA_X3_arrange_70 (106, .isub, 1) (List.mem_of_getElem? (i := 20) rfl))
theorem dX3_arrange_107 : decode cX3_arrange 107 = .ok (.aload_n 0, 1) := of_decide_eq_true (List.all_eq_true.mp dA_X3_arrange_70 (107, .aload_n 0, 1) (List.mem_of_getElem? (i := 21) rfl))
theorem dX3_arrange_108 : decode cX3_arrange 108 = .ok (.getfield 11, 3) := of_decide_eq_true (List.all_eq_true.mp dA_X3_arrange_70 (108, .getfield 11, 3) (List.mem_of_getElem? (i := 22) rfl))
theorem dX3_arrange_111 : decode cX3_arrange 111 = .ok (.iconst 0, 1) := of_decide_eq_true (List.all_eq_true.mp dA_X3_arrange_70 (111, .iconst 0, 1) (List.mem_of_getElem? (i := 23) rfl))
theorem dX3_arrange_112 : decode cX3_arrange 112 = .ok (.iaload, 1) := of_decide_eq_true (List.all_eq_true.mp dA_X3_arrange_70 (112, .iaload, 1) (List.mem_of_getElem? (i := 24) rfl))
theorem dX3_arrange_113 : decode cX3_arrange 113 = .ok (.invokestatic 55, 3) := of_decide_eq_true (List.all_eq_true.mp dA_X3_arrange_70 (113, .invokestatic 55, 3) (List.mem_of_getElem? (i := 25) rfl))
theorem dX3_arrange_116 : decode cX3_arrange 116 = .ok (.putfield 61, 3) := of_decide_eq_true (List.all_eq_true.mp dA_X3_arrange_70 (116, .putfield 61, 3) (List.mem_of_getElem? (i := 26) rfl))
theorem dX3_arrange_119 : decode cX3_arrange 119 = .ok (.aload_n 0, 1) := of_decide_eq_true (List.all_eq_true.mp dA_X3_arrange_70 (119, .aload_n 0, 1) (List.mem_of_getElem? (i := 27) rfl))
theorem dX3_arrange_120 : decode cX3_arrange 120 = .ok (.aload_n 1, 1) := of_decide_eq_true (List.all_eq_true.mp dA_X3_arrange_70 (120, .aload_n 1, 1) (List.mem_of_getElem? (i := 28) rfl))
theorem dX3_arrange_121 : decode cX3_arrange 121 = .ok (.invokevirtual 64, 3) := of_decide_eq_true (List.all_eq_true.mp dA_X3_arrange_70 (121, .invokevirtual 64, 3) (List.mem_of_getElem? (i := 29) rfl))
theorem dX3_arrange_124 : decode cX3_arrange 124 = .ok (.return_, 1) := of_decide_eq_true (List.all_eq_true.mp dA_X3_arrange_70 (124, .return_, 1) (List.mem_of_getElem? (i := 30) rfl))
set_option maxRecDepth 20000 in
theorem dA_X3_place_0 : (([(0, .iload_n 1, 1), (1, .ifCond .lt 26, 3), (4, .iload_n 1, 1), (5, .aload_n 0, 1), (6, .getfield 68, 3), (9, .if_icmp .ge 18, 3), (12, .iload_n 1, 1), (13, .bipush 7, 2), (15, .if_icmp .ge 12, 3), (18, .aload_n 0, 1), (19, .getfield 18, 3), (22, .iload_n 1, 1), (23, .iaload, 1), (24, .goto 4, 3), (27, .iconst (-1), 1), (28, .ireturn, 1)] : List (Nat × Instr × Nat)).all fun q => decide (decode cX3_place q.1 = .ok (q.2.1, q.2.2))) = true := by decide +kernel
theorem dX3_place_0 : decode cX3_place 0 = .ok (.iload_n 1, 1) := of_decide_eq_true (List.all_eq_true.mp dA_X3_place_0 (0, .iload_n 1, 1) (List.mem_of_getElem? (i := 0) rfl))
theorem dX3_place_1 : decode cX3_place 1 = .ok (.ifCond .lt 26, 3) := of_decide_eq_true (List.all_eq_true.mp dA_X3_place_0 (1, .ifCond .lt 26, 3) (List.mem_of_getElem? (i := 1) rfl))
theorem dX3_place_4 : decode cX3_place 4 = .ok (.iload_n 1, 1) := of_decide_eq_true (List.all_eq_true.mp dA_X3_place_0 (4, .iload_n 1, 1) (List.mem_of_getElem? (i := 2) rfl))
theorem dX3_place_5 : decode cX3_place 5 = .ok (.aload_n 0, 1) := of_decide_eq_true (List.all_eq_true.mp dA_X3_place_0 (5, .aload_n 0, 1) (List.mem_of_getElem? (i := 3) rfl))
theorem dX3_place_6 : decode cX3_place 6 = .ok (.getfield 68, 3) := of_decide_eq_true (List.all_eq_true.mp dA_X3_place_0 (6, .getfield 68, 3) (List.mem_of_getElem? (i := 4) rfl))
theorem dX3_place_9 : decode cX3_place 9 = .ok (.if_icmp .ge 18, 3) := of_decide_eq_true (List.all_eq_true.mp dA_X3_place_0 (9, .if_icmp .ge 18, 3) (List.mem_of_getElem? (i := 5) rfl))
theorem dX3_place_12 : decode cX3_place 12 = .ok (.iload_n 1, 1) := of_decide_eq_true (List.all_eq_true.mp dA_X3_place_0 (12, .iload_n 1, 1) (List.mem_of_getElem? (i := 6) rfl))
theorem dX3_place_13 : decode cX3_place 13 = .ok (.bipush 7, 2) := of_decide_eq_true (List.all_eq_true.mp dA_X3_place_0 (13, .bipush 7, 2) (List.mem_of_getElem? (i := 7) rfl))
theorem dX3_place_15 : decode cX3_place 15 = .ok (.if_icmp .ge 12, 3) := of_decide_eq_true (List.all_eq_true.mp dA_X3_place_0 (15, .if_icmp .ge 12, 3) (List.mem_of_getElem? (i := 8) rfl))
theorem dX3_place_18 : decode cX3_place 18 = .ok (.aload_n 0, 1) := of_decide_eq_true (List.all_eq_true.mp dA_X3_place_0 (18, .aload_n 0, 1) (List.mem_of_getElem? (i := 9) rfl))
theorem dX3_place_19 : decode cX3_place 19 = .ok (.getfield 18, 3) := of_decide_eq_true (List.all_eq_true.mp dA_X3_place_0 (19, .getfield 18, 3) (List.mem_of_getElem? (i := 10) rfl))
theorem dX3_place_22 : decode cX3_place 22 = .ok (.iload_n 1, 1) := of_decide_eq_true (List.all_eq_true.mp dA_X3_place_0 (22, .iload_n 1, 1) (List.mem_of_getElem? (i := 11) rfl))
theorem dX3_place_23 : decode cX3_place 23 = .ok (.iaload, 1) := of_decide_eq_true (List.all_eq_true.mp dA_X3_place_0 (23, .iaload, 1) (List.mem_of_getElem? (i := 12) rfl))
theorem dX3_place_24 : decode cX3_place 24 = .ok (.goto 4, 3) := of_decide_eq_true (List.all_eq_true.mp dA_X3_place_0 (24, .goto 4, 3) (List.mem_of_getElem? (i := 13) rfl))
theorem dX3_place_27 : decode cX3_place 27 = .ok (.iconst (-1), 1) := of_decide_eq_true (List.all_eq_true.mp dA_X3_place_0 (27, .iconst (-1), 1) (List.mem_of_getElem? (i := 14) rfl))
theorem dX3_place_28 : decode cX3_place 28 = .ok (.ireturn, 1) := of_decide_eq_true (List.all_eq_true.mp dA_X3_place_0 (28, .ireturn, 1) (List.mem_of_getElem? (i := 15) rfl))
set_option maxRecDepth 20000 in
theorem ggX3_mostBehind_X3_letsBehind : GoodIn wsX3_mostBehind wsX3_letsBehind := goodIn_r _ [9, 10, 11, 3, 12, 13, 14, 15, 16, 17, 18, 19, 20, 21, 22, 23, 24, 25, 26, 27, 28, 29, 30, 31, 32, 33, 34, 35, 36, 37, 38, 39, 51, 52, 53, 54, 55, 56, 57, 58, 59, 60, 61] (by decide +kernel) (by decide +kernel)
set_option maxRecDepth 20000 in
theorem gX3_mostBehind_X3_letsBehind : GoodIn wsX3_mostBehind (wsV RX3 71 RX3 yX3_letsBehind wsX3_letsBehind) := goodIn_app (goodIn_of _ (by decide +kernel)) ggX3_mostBehind_X3_letsBehind
set_option maxRecDepth 20000 in
theorem ggX3_mostBehind_X3_waits : GoodIn wsX3_mostBehind wsX3_waits := goodIn_r _ [43, 44, 62, 63, 64, 65, 66, 67] (by decide +kernel) (by decide +kernel)
set_option maxRecDepth 20000 in
theorem gX3_mostBehind_X3_waits : GoodIn wsX3_mostBehind (wsV RX3 74 RX3 yX3_waits wsX3_waits) := goodIn_app (goodIn_of _ (by decide +kernel)) ggX3_mostBehind_X3_waits
set_option maxRecDepth 20000 in
theorem ggX3_mostBehind_X3_gain : GoodIn wsX3_mostBehind wsX3_gain := goodIn_r _ [48, 49, 50, 62, 63, 64, 65, 66, 67] (by decide +kernel) (by decide +kernel)
set_option maxRecDepth 20000 in
theorem gX3_mostBehind_X3_gain : GoodIn wsX3_mostBehind (wsV RX3 78 RX3 yX3_gain wsX3_gain) := goodIn_app (goodIn_of _ (by decide +kernel)) ggX3_mostBehind_X3_gain
set_option maxRecDepth 20000 in
theorem dA_X3_mostBehind_0 : (([(0, .aload_n 0, 1), (1, .aload_n 1, 1), (2, .iload_n 2, 1), (3, .invokevirtual 71, 3), (6, .istore_n 3, 1), (7, .iconst 0, 1), (8, .istore 4, 2), (10, .iconst 0, 1), (11, .istore 5, 2), (13, .iload 5, 2), (15, .bipush 7, 2), (17, .if_icmp .ge 34, 3), (20, .aload_n 0, 1), (21, .iload 5, 2), (23, .iload_n 2, 1), (24, .invokevirtual 74, 3), (27, .ifCond .eq 18, 3), (30, .iload 4, 2), (32, .aload_n 0, 1), (33, .iload 5, 2), (35, .iload_n 2, 1), (36, .iload_n 3, 1), (37, .invokevirtual 78, 3), (40, .invokestatic 82, 3), (43, .istore 4, 2), (45, .iinc 5 1, 3), (48, .goto (-35), 3), (51, .iload 4, 2), (53, .ireturn, 1)] : List (Nat × Instr × Nat)).all fun q => decide (decode cX3_mostBehind q.1 = .ok (q.2.1, q.2.2))) = true := by decide +kernel
theorem dX3_mostBehind_0 : decode cX3_mostBehind 0 = .ok (.aload_n 0, 1) := of_decide_eq_true (List.all_eq_true.mp dA_X3_mostBehind_0 (0, .aload_n 0, 1) (List.mem_of_getElem? (i := 0) rfl))
theorem dX3_mostBehind_1 : decode cX3_mostBehind 1 = .ok (.aload_n 1, 1) := of_decide_eq_true (List.all_eq_true.mp dA_X3_mostBehind_0 (1, .aload_n 1, 1) (List.mem_of_getElem? (i := 1) rfl))
theorem dX3_mostBehind_2 : decode cX3_mostBehind 2 = .ok (.iload_n 2, 1) := of_decide_eq_true (List.all_eq_true.mp dA_X3_mostBehind_0 (2, .iload_n 2, 1) (List.mem_of_getElem? (i := 2) rfl))
theorem dX3_mostBehind_3 : decode cX3_mostBehind 3 = .ok (.invokevirtual 71, 3) := of_decide_eq_true (List.all_eq_true.mp dA_X3_mostBehind_0 (3, .invokevirtual 71, 3) (List.mem_of_getElem? (i := 3) rfl))
theorem dX3_mostBehind_6 : decode cX3_mostBehind 6 = .ok (.istore_n 3, 1) := of_decide_eq_true (List.all_eq_true.mp dA_X3_mostBehind_0 (6, .istore_n 3, 1) (List.mem_of_getElem? (i := 4) rfl))
theorem dX3_mostBehind_7 : decode cX3_mostBehind 7 = .ok (.iconst 0, 1) := of_decide_eq_true (List.all_eq_true.mp dA_X3_mostBehind_0 (7, .iconst 0, 1) (List.mem_of_getElem? (i := 5) rfl))
theorem dX3_mostBehind_8 : decode cX3_mostBehind 8 = .ok (.istore 4, 2) := of_decide_eq_true (List.all_eq_true.mp dA_X3_mostBehind_0 (8, .istore 4, 2) (List.mem_of_getElem? (i := 6) rfl))
theorem dX3_mostBehind_10 : decode cX3_mostBehind 10 = .ok (.iconst 0, 1) := of_decide_eq_true (List.all_eq_true.mp dA_X3_mostBehind_0 (10, .iconst 0, 1) (List.mem_of_getElem? (i := 7) rfl))
theorem dX3_mostBehind_11 : decode cX3_mostBehind 11 = .ok (.istore 5, 2) := of_decide_eq_true (List.all_eq_true.mp dA_X3_mostBehind_0 (11, .istore 5, 2) (List.mem_of_getElem? (i := 8) rfl))
theorem dX3_mostBehind_13 : decode cX3_mostBehind 13 = .ok (.iload 5, 2) := of_decide_eq_true (List.all_eq_true.mp dA_X3_mostBehind_0 (13, .iload 5, 2) (List.mem_of_getElem? (i := 9) rfl))
theorem dX3_mostBehind_15 : decode cX3_mostBehind 15 = .ok (.bipush 7, 2) := of_decide_eq_true (List.all_eq_true.mp dA_X3_mostBehind_0 (15, .bipush 7, 2) (List.mem_of_getElem? (i := 10) rfl))
theorem dX3_mostBehind_17 : decode cX3_mostBehind 17 = .ok (.if_icmp .ge 34, 3) := of_decide_eq_true (List.all_eq_true.mp dA_X3_mostBehind_0 (17, .if_icmp .ge 34, 3) (List.mem_of_getElem? (i := 11) rfl))
theorem dX3_mostBehind_20 : decode cX3_mostBehind 20 = .ok (.aload_n 0, 1) := of_decide_eq_true (List.all_eq_true.mp dA_X3_mostBehind_0 (20, .aload_n 0, 1) (List.mem_of_getElem? (i := 12) rfl))
theorem dX3_mostBehind_21 : decode cX3_mostBehind 21 = .ok (.iload 5, 2) := of_decide_eq_true (List.all_eq_true.mp dA_X3_mostBehind_0 (21, .iload 5, 2) (List.mem_of_getElem? (i := 13) rfl))
theorem dX3_mostBehind_23 : decode cX3_mostBehind 23 = .ok (.iload_n 2, 1) := of_decide_eq_true (List.all_eq_true.mp dA_X3_mostBehind_0 (23, .iload_n 2, 1) (List.mem_of_getElem? (i := 14) rfl))
theorem dX3_mostBehind_24 : decode cX3_mostBehind 24 = .ok (.invokevirtual 74, 3) := of_decide_eq_true (List.all_eq_true.mp dA_X3_mostBehind_0 (24, .invokevirtual 74, 3) (List.mem_of_getElem? (i := 15) rfl))
theorem dX3_mostBehind_27 : decode cX3_mostBehind 27 = .ok (.ifCond .eq 18, 3) := of_decide_eq_true (List.all_eq_true.mp dA_X3_mostBehind_0 (27, .ifCond .eq 18, 3) (List.mem_of_getElem? (i := 16) rfl))
theorem dX3_mostBehind_30 : decode cX3_mostBehind 30 = .ok (.iload 4, 2) := of_decide_eq_true (List.all_eq_true.mp dA_X3_mostBehind_0 (30, .iload 4, 2) (List.mem_of_getElem? (i := 17) rfl))
theorem dX3_mostBehind_32 : decode cX3_mostBehind 32 = .ok (.aload_n 0, 1) := of_decide_eq_true (List.all_eq_true.mp dA_X3_mostBehind_0 (32, .aload_n 0, 1) (List.mem_of_getElem? (i := 18) rfl))
theorem dX3_mostBehind_33 : decode cX3_mostBehind 33 = .ok (.iload 5, 2) := of_decide_eq_true (List.all_eq_true.mp dA_X3_mostBehind_0 (33, .iload 5, 2) (List.mem_of_getElem? (i := 19) rfl))
theorem dX3_mostBehind_35 : decode cX3_mostBehind 35 = .ok (.iload_n 2, 1) := of_decide_eq_true (List.all_eq_true.mp dA_X3_mostBehind_0 (35, .iload_n 2, 1) (List.mem_of_getElem? (i := 20) rfl))
theorem dX3_mostBehind_36 : decode cX3_mostBehind 36 = .ok (.iload_n 3, 1) := of_decide_eq_true (List.all_eq_true.mp dA_X3_mostBehind_0 (36, .iload_n 3, 1) (List.mem_of_getElem? (i := 21) rfl))
theorem dX3_mostBehind_37 : decode cX3_mostBehind 37 = .ok (.invokevirtual 78, 3) := of_decide_eq_true (List.all_eq_true.mp dA_X3_mostBehind_0 (37, .invokevirtual 78, 3) (List.mem_of_getElem? (i := 22) rfl))
theorem dX3_mostBehind_40 : decode cX3_mostBehind 40 = .ok (.invokestatic 82, 3) := of_decide_eq_true (List.all_eq_true.mp dA_X3_mostBehind_0 (40, .invokestatic 82, 3) (List.mem_of_getElem? (i := 23) rfl))
theorem dX3_mostBehind_43 : decode cX3_mostBehind 43 = .ok (.istore 4, 2) := of_decide_eq_true (List.all_eq_true.mp dA_X3_mostBehind_0 (43, .istore 4, 2) (List.mem_of_getElem? (i := 24) rfl))
theorem dX3_mostBehind_45 : decode cX3_mostBehind 45 = .ok (.iinc 5 1, 3) := of_decide_eq_true (List.all_eq_true.mp dA_X3_mostBehind_0 (45, .iinc 5 1, 3) (List.mem_of_getElem? (i := 25) rfl))
theorem dX3_mostBehind_48 : decode cX3_mostBehind 48 = .ok (.goto (-35), 3) := of_decide_eq_true (List.all_eq_true.mp dA_X3_mostBehind_0 (48, .goto (-35), 3) (List.mem_of_getElem? (i := 26) rfl))
theorem dX3_mostBehind_51 : decode cX3_mostBehind 51 = .ok (.iload 4, 2) := of_decide_eq_true (List.all_eq_true.mp dA_X3_mostBehind_0 (51, .iload 4, 2) (List.mem_of_getElem? (i := 27) rfl))
theorem dX3_mostBehind_53 : decode cX3_mostBehind 53 = .ok (.ireturn, 1) := of_decide_eq_true (List.all_eq_true.mp dA_X3_mostBehind_0 (53, .ireturn, 1) (List.mem_of_getElem? (i := 28) rfl))
set_option maxRecDepth 20000 in
theorem ggX3_choose_X3_letsBehind : GoodIn wsX3_choose wsX3_letsBehind := goodIn_r _ [9, 10, 11, 12, 13, 14, 15, 16, 17, 18, 19, 20, 21, 22, 23, 24, 25, 26, 27, 28, 29, 30, 31, 32, 33, 34, 35, 36, 37, 38, 39, 40, 57, 58, 59, 60, 61, 62, 63, 64, 65, 66, 67] (by decide +kernel) (by decide +kernel)
set_option maxRecDepth 20000 in
theorem gX3_choose_X3_letsBehind : GoodIn wsX3_choose (wsV RX3 71 RX3 yX3_letsBehind wsX3_letsBehind) := goodIn_app (goodIn_of _ (by decide +kernel)) ggX3_choose_X3_letsBehind
set_option maxRecDepth 20000 in
theorem ggX3_choose_X3_waits : GoodIn wsX3_choose wsX3_waits := goodIn_r _ [44, 45, 51, 52, 53, 54, 55, 56] (by decide +kernel) (by decide +kernel)
set_option maxRecDepth 20000 in
theorem gX3_choose_X3_waits : GoodIn wsX3_choose (wsV RX3 74 RX3 yX3_waits wsX3_waits) := goodIn_app (goodIn_of _ (by decide +kernel)) ggX3_choose_X3_waits
set_option maxRecDepth 20000 in
theorem ggX3_choose_X3_gain : GoodIn wsX3_choose wsX3_gain := goodIn_r _ [49, 50, 3, 51, 52, 53, 54, 55, 56] (by decide +kernel) (by decide +kernel)
set_option maxRecDepth 20000 in
theorem gX3_choose_X3_gain : GoodIn wsX3_choose (wsV RX3 78 RX3 yX3_gain wsX3_gain) := goodIn_app (goodIn_of _ (by decide +kernel)) ggX3_choose_X3_gain
set_option maxRecDepth 20000 in
theorem dA_X3_choose_0 : (([(0, .iconst 0, 1), (1, .istore_n 2, 1), (2, .iconst 0, 1), (3, .istore_n 3, 1), (4, .aload_n 0, 1), (5, .iconst 0, 1), (6, .putfield 68, 3), (9, .iconst 0, 1), (10, .istore 4, 2), (12, .iload 4, 2), (14, .bipush 7, 2), (16, .if_icmp .ge 103, 3), (19, .aload_n 0, 1), (20, .aload_n 1, 1), (21, .iload_n 2, 1), (22, .invokevirtual 71, 3), (25, .istore 5, 2), (27, .iconst 0, 1), (28, .istore 6, 2), (30, .iload 6, 2), (32, .bipush 7, 2), (34, .if_icmp .ge 79, 3), (37, .aload_n 0, 1), (38, .iload 6, 2), (40, .iload_n 2, 1), (41, .invokevirtual 74, 3), (44, .ifCond .eq 63, 3), (47, .iload_n 3, 1), (48, .aload_n 0, 1), (49, .iload 6, 2), (51, .iload_n 2, 1), (52, .iload 5, 2), (54, .invokevirtual 78, 3), (57, .iadd, 1), (58, .aload_n 0, 1), (59, .getfield 61, 3), (62, .if_icmp .lt 45, 3), (65, .aload_n 0, 1), (66, .getfield 15, 3), (69, .iload 6, 2)] : List (Nat × Instr × Nat)).all fun q => decide (decode cX3_choose q.1 = .ok (q.2.1, q.2.2))) = true := by decide +kernel
theorem dX3_choose_0 : decode cX3_choose 0 = .ok (.iconst 0, 1) := of_decide_eq_true (List.all_eq_true.mp dA_X3_choose_0 (0, .iconst 0, 1) (List.mem_of_getElem? (i := 0) rfl))
theorem dX3_choose_1 : decode cX3_choose 1 = .ok (.istore_n 2, 1) := of_decide_eq_true (List.all_eq_true.mp dA_X3_choose_0 (1, .istore_n 2, 1) (List.mem_of_getElem? (i := 1) rfl))
theorem dX3_choose_2 : decode cX3_choose 2 = .ok (.iconst 0, 1) := of_decide_eq_true (List.all_eq_true.mp dA_X3_choose_0 (2, .iconst 0, 1) (List.mem_of_getElem? (i := 2) rfl))
theorem dX3_choose_3 : decode cX3_choose 3 = .ok (.istore_n 3, 1) := of_decide_eq_true (List.all_eq_true.mp dA_X3_choose_0 (3, .istore_n 3, 1) (List.mem_of_getElem? (i := 3) rfl))
theorem dX3_choose_4 : decode cX3_choose 4 = .ok (.aload_n 0, 1) := of_decide_eq_true (List.all_eq_true.mp dA_X3_choose_0 (4, .aload_n 0, 1) (List.mem_of_getElem? (i := 4) rfl))
theorem dX3_choose_5 : decode cX3_choose 5 = .ok (.iconst 0, 1) := of_decide_eq_true (List.all_eq_true.mp dA_X3_choose_0 (5, .iconst 0, 1) (List.mem_of_getElem? (i := 5) rfl))
theorem dX3_choose_6 : decode cX3_choose 6 = .ok (.putfield 68, 3) := of_decide_eq_true (List.all_eq_true.mp dA_X3_choose_0 (6, .putfield 68, 3) (List.mem_of_getElem? (i := 6) rfl))
theorem dX3_choose_9 : decode cX3_choose 9 = .ok (.iconst 0, 1) := of_decide_eq_true (List.all_eq_true.mp dA_X3_choose_0 (9, .iconst 0, 1) (List.mem_of_getElem? (i := 7) rfl))
theorem dX3_choose_10 : decode cX3_choose 10 = .ok (.istore 4, 2) := of_decide_eq_true (List.all_eq_true.mp dA_X3_choose_0 (10, .istore 4, 2) (List.mem_of_getElem? (i := 8) rfl))
theorem dX3_choose_12 : decode cX3_choose 12 = .ok (.iload 4, 2) := of_decide_eq_true (List.all_eq_true.mp dA_X3_choose_0 (12, .iload 4, 2) (List.mem_of_getElem? (i := 9) rfl))
theorem dX3_choose_14 : decode cX3_choose 14 = .ok (.bipush 7, 2) := of_decide_eq_true (List.all_eq_true.mp dA_X3_choose_0 (14, .bipush 7, 2) (List.mem_of_getElem? (i := 10) rfl))
theorem dX3_choose_16 : decode cX3_choose 16 = .ok (.if_icmp .ge 103, 3) := of_decide_eq_true (List.all_eq_true.mp dA_X3_choose_0 (16, .if_icmp .ge 103, 3) (List.mem_of_getElem? (i := 11) rfl))
theorem dX3_choose_19 : decode cX3_choose 19 = .ok (.aload_n 0, 1) := of_decide_eq_true (List.all_eq_true.mp dA_X3_choose_0 (19, .aload_n 0, 1) (List.mem_of_getElem? (i := 12) rfl))
theorem dX3_choose_20 : decode cX3_choose 20 = .ok (.aload_n 1, 1) := of_decide_eq_true (List.all_eq_true.mp dA_X3_choose_0 (20, .aload_n 1, 1) (List.mem_of_getElem? (i := 13) rfl))
theorem dX3_choose_21 : decode cX3_choose 21 = .ok (.iload_n 2, 1) := of_decide_eq_true (List.all_eq_true.mp dA_X3_choose_0 (21, .iload_n 2, 1) (List.mem_of_getElem? (i := 14) rfl))
theorem dX3_choose_22 : decode cX3_choose 22 = .ok (.invokevirtual 71, 3) := of_decide_eq_true (List.all_eq_true.mp dA_X3_choose_0 (22, .invokevirtual 71, 3) (List.mem_of_getElem? (i := 15) rfl))
theorem dX3_choose_25 : decode cX3_choose 25 = .ok (.istore 5, 2) := of_decide_eq_true (List.all_eq_true.mp dA_X3_choose_0 (25, .istore 5, 2) (List.mem_of_getElem? (i := 16) rfl))
theorem dX3_choose_27 : decode cX3_choose 27 = .ok (.iconst 0, 1) := of_decide_eq_true (List.all_eq_true.mp dA_X3_choose_0 (27, .iconst 0, 1) (List.mem_of_getElem? (i := 17) rfl))
theorem dX3_choose_28 : decode cX3_choose 28 = .ok (.istore 6, 2) := of_decide_eq_true (List.all_eq_true.mp dA_X3_choose_0 (28, .istore 6, 2) (List.mem_of_getElem? (i := 18) rfl))
theorem dX3_choose_30 : decode cX3_choose 30 = .ok (.iload 6, 2) := of_decide_eq_true (List.all_eq_true.mp dA_X3_choose_0 (30, .iload 6, 2) (List.mem_of_getElem? (i := 19) rfl))
theorem dX3_choose_32 : decode cX3_choose 32 = .ok (.bipush 7, 2) := of_decide_eq_true (List.all_eq_true.mp dA_X3_choose_0 (32, .bipush 7, 2) (List.mem_of_getElem? (i := 20) rfl))
theorem dX3_choose_34 : decode cX3_choose 34 = .ok (.if_icmp .ge 79, 3) := of_decide_eq_true (List.all_eq_true.mp dA_X3_choose_0 (34, .if_icmp .ge 79, 3) (List.mem_of_getElem? (i := 21) rfl))
theorem dX3_choose_37 : decode cX3_choose 37 = .ok (.aload_n 0, 1) := of_decide_eq_true (List.all_eq_true.mp dA_X3_choose_0 (37, .aload_n 0, 1) (List.mem_of_getElem? (i := 22) rfl))
theorem dX3_choose_38 : decode cX3_choose 38 = .ok (.iload 6, 2) := of_decide_eq_true (List.all_eq_true.mp dA_X3_choose_0 (38, .iload 6, 2) (List.mem_of_getElem? (i := 23) rfl))
theorem dX3_choose_40 : decode cX3_choose 40 = .ok (.iload_n 2, 1) := of_decide_eq_true (List.all_eq_true.mp dA_X3_choose_0 (40, .iload_n 2, 1) (List.mem_of_getElem? (i := 24) rfl))
theorem dX3_choose_41 : decode cX3_choose 41 = .ok (.invokevirtual 74, 3) := of_decide_eq_true (List.all_eq_true.mp dA_X3_choose_0 (41, .invokevirtual 74, 3) (List.mem_of_getElem? (i := 25) rfl))
theorem dX3_choose_44 : decode cX3_choose 44 = .ok (.ifCond .eq 63, 3) := of_decide_eq_true (List.all_eq_true.mp dA_X3_choose_0 (44, .ifCond .eq 63, 3) (List.mem_of_getElem? (i := 26) rfl))
theorem dX3_choose_47 : decode cX3_choose 47 = .ok (.iload_n 3, 1) := of_decide_eq_true (List.all_eq_true.mp dA_X3_choose_0 (47, .iload_n 3, 1) (List.mem_of_getElem? (i := 27) rfl))
theorem dX3_choose_48 : decode cX3_choose 48 = .ok (.aload_n 0, 1) := of_decide_eq_true (List.all_eq_true.mp dA_X3_choose_0 (48, .aload_n 0, 1) (List.mem_of_getElem? (i := 28) rfl))
theorem dX3_choose_49 : decode cX3_choose 49 = .ok (.iload 6, 2) := of_decide_eq_true (List.all_eq_true.mp dA_X3_choose_0 (49, .iload 6, 2) (List.mem_of_getElem? (i := 29) rfl))
theorem dX3_choose_51 : decode cX3_choose 51 = .ok (.iload_n 2, 1) := of_decide_eq_true (List.all_eq_true.mp dA_X3_choose_0 (51, .iload_n 2, 1) (List.mem_of_getElem? (i := 30) rfl))
theorem dX3_choose_52 : decode cX3_choose 52 = .ok (.iload 5, 2) := of_decide_eq_true (List.all_eq_true.mp dA_X3_choose_0 (52, .iload 5, 2) (List.mem_of_getElem? (i := 31) rfl))
theorem dX3_choose_54 : decode cX3_choose 54 = .ok (.invokevirtual 78, 3) := of_decide_eq_true (List.all_eq_true.mp dA_X3_choose_0 (54, .invokevirtual 78, 3) (List.mem_of_getElem? (i := 32) rfl))
theorem dX3_choose_57 : decode cX3_choose 57 = .ok (.iadd, 1) := of_decide_eq_true (List.all_eq_true.mp dA_X3_choose_0 (57, .iadd, 1) (List.mem_of_getElem? (i := 33) rfl))
theorem dX3_choose_58 : decode cX3_choose 58 = .ok (.aload_n 0, 1) := of_decide_eq_true (List.all_eq_true.mp dA_X3_choose_0 (58, .aload_n 0, 1) (List.mem_of_getElem? (i := 34) rfl))
theorem dX3_choose_59 : decode cX3_choose 59 = .ok (.getfield 61, 3) := of_decide_eq_true (List.all_eq_true.mp dA_X3_choose_0 (59, .getfield 61, 3) (List.mem_of_getElem? (i := 35) rfl))
theorem dX3_choose_62 : decode cX3_choose 62 = .ok (.if_icmp .lt 45, 3) := of_decide_eq_true (List.all_eq_true.mp dA_X3_choose_0 (62, .if_icmp .lt 45, 3) (List.mem_of_getElem? (i := 36) rfl))
theorem dX3_choose_65 : decode cX3_choose 65 = .ok (.aload_n 0, 1) := of_decide_eq_true (List.all_eq_true.mp dA_X3_choose_0 (65, .aload_n 0, 1) (List.mem_of_getElem? (i := 37) rfl))
theorem dX3_choose_66 : decode cX3_choose 66 = .ok (.getfield 15, 3) := of_decide_eq_true (List.all_eq_true.mp dA_X3_choose_0 (66, .getfield 15, 3) (List.mem_of_getElem? (i := 38) rfl))
theorem dX3_choose_69 : decode cX3_choose 69 = .ok (.iload 6, 2) := of_decide_eq_true (List.all_eq_true.mp dA_X3_choose_0 (69, .iload 6, 2) (List.mem_of_getElem? (i := 39) rfl))
set_option maxRecDepth 20000 in
theorem dA_X3_choose_71 : (([(71, .iaload, 1), (72, .iload 5, 2), (74, .if_icmp .gt 6, 3), (77, .iinc 3 1, 3), (80, .iload_n 2, 1), (81, .iconst 1, 1), (82, .iload 6, 2), (84, .ishl, 1), (85, .ior, 1), (86, .istore_n 2, 1), (87, .aload_n 0, 1), (88, .getfield 18, 3), (91, .iload 4, 2), (93, .iload 6, 2), (95, .iastore, 1), (96, .aload_n 0, 1), (97, .iload 4, 2), (99, .iconst 1, 1), (100, .iadd, 1), (101, .putfield 68, 3), (104, .goto 9, 3), (107, .iinc 6 1, 3), (110, .goto (-80), 3), (113, .iinc 4 1, 3), (116, .goto (-104), 3), (119, .return_, 1)] : List (Nat × Instr × Nat)).all fun q => decide (decode cX3_choose q.1 = .ok (q.2.1, q.2.2))) = true := by decide +kernel
theorem dX3_choose_71 : decode cX3_choose 71 = .ok (.iaload, 1) := of_decide_eq_true (List.all_eq_true.mp dA_X3_choose_71 (71, .iaload, 1) (List.mem_of_getElem? (i := 0) rfl))
theorem dX3_choose_72 : decode cX3_choose 72 = .ok (.iload 5, 2) := of_decide_eq_true (List.all_eq_true.mp dA_X3_choose_71 (72, .iload 5, 2) (List.mem_of_getElem? (i := 1) rfl))
theorem dX3_choose_74 : decode cX3_choose 74 = .ok (.if_icmp .gt 6, 3) := of_decide_eq_true (List.all_eq_true.mp dA_X3_choose_71 (74, .if_icmp .gt 6, 3) (List.mem_of_getElem? (i := 2) rfl))
theorem dX3_choose_77 : decode cX3_choose 77 = .ok (.iinc 3 1, 3) := of_decide_eq_true (List.all_eq_true.mp dA_X3_choose_71 (77, .iinc 3 1, 3) (List.mem_of_getElem? (i := 3) rfl))
theorem dX3_choose_80 : decode cX3_choose 80 = .ok (.iload_n 2, 1) := of_decide_eq_true (List.all_eq_true.mp dA_X3_choose_71 (80, .iload_n 2, 1) (List.mem_of_getElem? (i := 4) rfl))
theorem dX3_choose_81 : decode cX3_choose 81 = .ok (.iconst 1, 1) := of_decide_eq_true (List.all_eq_true.mp dA_X3_choose_71 (81, .iconst 1, 1) (List.mem_of_getElem? (i := 5) rfl))
theorem dX3_choose_82 : decode cX3_choose 82 = .ok (.iload 6, 2) := of_decide_eq_true (List.all_eq_true.mp dA_X3_choose_71 (82, .iload 6, 2) (List.mem_of_getElem? (i := 6) rfl))
theorem dX3_choose_84 : decode cX3_choose 84 = .ok (.ishl, 1) := of_decide_eq_true (List.all_eq_true.mp dA_X3_choose_71 (84, .ishl, 1) (List.mem_of_getElem? (i := 7) rfl))
theorem dX3_choose_85 : decode cX3_choose 85 = .ok (.ior, 1) := of_decide_eq_true (List.all_eq_true.mp dA_X3_choose_71 (85, .ior, 1) (List.mem_of_getElem? (i := 8) rfl))
theorem dX3_choose_86 : decode cX3_choose 86 = .ok (.istore_n 2, 1) := of_decide_eq_true (List.all_eq_true.mp dA_X3_choose_71 (86, .istore_n 2, 1) (List.mem_of_getElem? (i := 9) rfl))
theorem dX3_choose_87 : decode cX3_choose 87 = .ok (.aload_n 0, 1) := of_decide_eq_true (List.all_eq_true.mp dA_X3_choose_71 (87, .aload_n 0, 1) (List.mem_of_getElem? (i := 10) rfl))
theorem dX3_choose_88 : decode cX3_choose 88 = .ok (.getfield 18, 3) := of_decide_eq_true (List.all_eq_true.mp dA_X3_choose_71 (88, .getfield 18, 3) (List.mem_of_getElem? (i := 11) rfl))
theorem dX3_choose_91 : decode cX3_choose 91 = .ok (.iload 4, 2) := of_decide_eq_true (List.all_eq_true.mp dA_X3_choose_71 (91, .iload 4, 2) (List.mem_of_getElem? (i := 12) rfl))
theorem dX3_choose_93 : decode cX3_choose 93 = .ok (.iload 6, 2) := of_decide_eq_true (List.all_eq_true.mp dA_X3_choose_71 (93, .iload 6, 2) (List.mem_of_getElem? (i := 13) rfl))
theorem dX3_choose_95 : decode cX3_choose 95 = .ok (.iastore, 1) := of_decide_eq_true (List.all_eq_true.mp dA_X3_choose_71 (95, .iastore, 1) (List.mem_of_getElem? (i := 14) rfl))
theorem dX3_choose_96 : decode cX3_choose 96 = .ok (.aload_n 0, 1) := of_decide_eq_true (List.all_eq_true.mp dA_X3_choose_71 (96, .aload_n 0, 1) (List.mem_of_getElem? (i := 15) rfl))
theorem dX3_choose_97 : decode cX3_choose 97 = .ok (.iload 4, 2) := of_decide_eq_true (List.all_eq_true.mp dA_X3_choose_71 (97, .iload 4, 2) (List.mem_of_getElem? (i := 16) rfl))
theorem dX3_choose_99 : decode cX3_choose 99 = .ok (.iconst 1, 1) := of_decide_eq_true (List.all_eq_true.mp dA_X3_choose_71 (99, .iconst 1, 1) (List.mem_of_getElem? (i := 17) rfl))
theorem dX3_choose_100 : decode cX3_choose 100 = .ok (.iadd, 1) := of_decide_eq_true (List.all_eq_true.mp dA_X3_choose_71 (100, .iadd, 1) (List.mem_of_getElem? (i := 18) rfl))
theorem dX3_choose_101 : decode cX3_choose 101 = .ok (.putfield 68, 3) := of_decide_eq_true (List.all_eq_true.mp dA_X3_choose_71 (101, .putfield 68, 3) (List.mem_of_getElem? (i := 19) rfl))
theorem dX3_choose_104 : decode cX3_choose 104 = .ok (.goto 9, 3) := of_decide_eq_true (List.all_eq_true.mp dA_X3_choose_71 (104, .goto 9, 3) (List.mem_of_getElem? (i := 20) rfl))
theorem dX3_choose_107 : decode cX3_choose 107 = .ok (.iinc 6 1, 3) := of_decide_eq_true (List.all_eq_true.mp dA_X3_choose_71 (107, .iinc 6 1, 3) (List.mem_of_getElem? (i := 21) rfl))
theorem dX3_choose_110 : decode cX3_choose 110 = .ok (.goto (-80), 3) := of_decide_eq_true (List.all_eq_true.mp dA_X3_choose_71 (110, .goto (-80), 3) (List.mem_of_getElem? (i := 22) rfl))
theorem dX3_choose_113 : decode cX3_choose 113 = .ok (.iinc 4 1, 3) := of_decide_eq_true (List.all_eq_true.mp dA_X3_choose_71 (113, .iinc 4 1, 3) (List.mem_of_getElem? (i := 23) rfl))
theorem dX3_choose_116 : decode cX3_choose 116 = .ok (.goto (-104), 3) := of_decide_eq_true (List.all_eq_true.mp dA_X3_choose_71 (116, .goto (-104), 3) (List.mem_of_getElem? (i := 24) rfl))
theorem dX3_choose_119 : decode cX3_choose 119 = .ok (.return_, 1) := of_decide_eq_true (List.all_eq_true.mp dA_X3_choose_71 (119, .return_, 1) (List.mem_of_getElem? (i := 25) rfl))
set_option maxRecDepth 20000 in
theorem dA_X3_waits_0 : (([(0, .aload_n 0, 1), (1, .getfield 21, 3), (4, .iload_n 2, 1), (5, .iconst (-1), 1), (6, .ixor, 1), (7, .iand, 1), (8, .iconst 1, 1), (9, .iload_n 1, 1), (10, .ishl, 1), (11, .iand, 1), (12, .ifCond .eq 7, 3), (15, .iconst 1, 1), (16, .goto 4, 3), (19, .iconst 0, 1), (20, .ireturn, 1)] : List (Nat × Instr × Nat)).all fun q => decide (decode cX3_waits q.1 = .ok (q.2.1, q.2.2))) = true := by decide +kernel
theorem dX3_waits_0 : decode cX3_waits 0 = .ok (.aload_n 0, 1) := of_decide_eq_true (List.all_eq_true.mp dA_X3_waits_0 (0, .aload_n 0, 1) (List.mem_of_getElem? (i := 0) rfl))
theorem dX3_waits_1 : decode cX3_waits 1 = .ok (.getfield 21, 3) := of_decide_eq_true (List.all_eq_true.mp dA_X3_waits_0 (1, .getfield 21, 3) (List.mem_of_getElem? (i := 1) rfl))
theorem dX3_waits_4 : decode cX3_waits 4 = .ok (.iload_n 2, 1) := of_decide_eq_true (List.all_eq_true.mp dA_X3_waits_0 (4, .iload_n 2, 1) (List.mem_of_getElem? (i := 2) rfl))
theorem dX3_waits_5 : decode cX3_waits 5 = .ok (.iconst (-1), 1) := of_decide_eq_true (List.all_eq_true.mp dA_X3_waits_0 (5, .iconst (-1), 1) (List.mem_of_getElem? (i := 3) rfl))
theorem dX3_waits_6 : decode cX3_waits 6 = .ok (.ixor, 1) := of_decide_eq_true (List.all_eq_true.mp dA_X3_waits_0 (6, .ixor, 1) (List.mem_of_getElem? (i := 4) rfl))
theorem dX3_waits_7 : decode cX3_waits 7 = .ok (.iand, 1) := of_decide_eq_true (List.all_eq_true.mp dA_X3_waits_0 (7, .iand, 1) (List.mem_of_getElem? (i := 5) rfl))
theorem dX3_waits_8 : decode cX3_waits 8 = .ok (.iconst 1, 1) := of_decide_eq_true (List.all_eq_true.mp dA_X3_waits_0 (8, .iconst 1, 1) (List.mem_of_getElem? (i := 6) rfl))
theorem dX3_waits_9 : decode cX3_waits 9 = .ok (.iload_n 1, 1) := of_decide_eq_true (List.all_eq_true.mp dA_X3_waits_0 (9, .iload_n 1, 1) (List.mem_of_getElem? (i := 7) rfl))
theorem dX3_waits_10 : decode cX3_waits 10 = .ok (.ishl, 1) := of_decide_eq_true (List.all_eq_true.mp dA_X3_waits_0 (10, .ishl, 1) (List.mem_of_getElem? (i := 8) rfl))
theorem dX3_waits_11 : decode cX3_waits 11 = .ok (.iand, 1) := of_decide_eq_true (List.all_eq_true.mp dA_X3_waits_0 (11, .iand, 1) (List.mem_of_getElem? (i := 9) rfl))
theorem dX3_waits_12 : decode cX3_waits 12 = .ok (.ifCond .eq 7, 3) := of_decide_eq_true (List.all_eq_true.mp dA_X3_waits_0 (12, .ifCond .eq 7, 3) (List.mem_of_getElem? (i := 10) rfl))
theorem dX3_waits_15 : decode cX3_waits 15 = .ok (.iconst 1, 1) := of_decide_eq_true (List.all_eq_true.mp dA_X3_waits_0 (15, .iconst 1, 1) (List.mem_of_getElem? (i := 11) rfl))
theorem dX3_waits_16 : decode cX3_waits 16 = .ok (.goto 4, 3) := of_decide_eq_true (List.all_eq_true.mp dA_X3_waits_0 (16, .goto 4, 3) (List.mem_of_getElem? (i := 12) rfl))
theorem dX3_waits_19 : decode cX3_waits 19 = .ok (.iconst 0, 1) := of_decide_eq_true (List.all_eq_true.mp dA_X3_waits_0 (19, .iconst 0, 1) (List.mem_of_getElem? (i := 13) rfl))
theorem dX3_waits_20 : decode cX3_waits 20 = .ok (.ireturn, 1) := of_decide_eq_true (List.all_eq_true.mp dA_X3_waits_0 (20, .ireturn, 1) (List.mem_of_getElem? (i := 14) rfl))
set_option maxRecDepth 20000 in
theorem ggX3_letsBehind_J6_bitCount_0f7a4 : GoodIn wsX3_letsBehind wsJ6_bitCount_0f7a4 := goodIn_r _ [8, 9, 10, 11] (by decide +kernel) (by decide +kernel)
set_option maxRecDepth 20000 in
theorem gX3_letsBehind_J6_bitCount_0f7a4 : GoodIn wsX3_letsBehind (va_wsS RX3 88 yJ6_bitCount_0f7a4 wsJ6_bitCount_0f7a4) := goodIn_app (goodIn_of _ (by decide +kernel)) ggX3_letsBehind_J6_bitCount_0f7a4
set_option maxRecDepth 20000 in
theorem ggX3_letsBehind_X1_wetNow : GoodIn wsX3_letsBehind wsX1_wetNow := goodIn_r _ [16, 17, 18, 19, 20, 15, 21, 22, 32, 33, 34, 35, 36, 37, 38, 39, 40, 41, 42] (by decide +kernel) (by decide +kernel)
set_option maxRecDepth 20000 in
theorem gX3_letsBehind_X1_wetNow : GoodIn wsX3_letsBehind (wsV RX3 93 RX1 yX1_wetNow wsX1_wetNow) := goodIn_app (goodIn_of _ (by decide +kernel)) ggX3_letsBehind_X1_wetNow
set_option maxRecDepth 20000 in
theorem ggX3_letsBehind_X1_letsPass : GoodIn wsX3_letsBehind wsX1_letsPass := goodIn_r _ [26, 27, 28, 29, 30, 31, 32, 33, 34, 35, 36, 37, 38, 39, 40, 41, 42] (by decide +kernel) (by decide +kernel)
set_option maxRecDepth 20000 in
theorem gX3_letsBehind_X1_letsPass : GoodIn wsX3_letsBehind (wsV RX3 96 RX1 yX1_letsPass wsX1_letsPass) := goodIn_app (goodIn_of _ (by decide +kernel)) ggX3_letsBehind_X1_letsPass
set_option maxRecDepth 20000 in
theorem dA_X3_letsBehind_0 : (([(0, .bipush 99, 2), (2, .aload_n 1, 1), (3, .getfield 85, 3), (6, .iload_n 2, 1), (7, .invokestatic 88, 3), (10, .iadd, 1), (11, .invokestatic 55, 3), (14, .istore_n 3, 1), (15, .aload_n 1, 1), (16, .aload_n 1, 1), (17, .invokevirtual 93, 3), (20, .iload_n 3, 1), (21, .invokevirtual 96, 3), (24, .ireturn, 1)] : List (Nat × Instr × Nat)).all fun q => decide (decode cX3_letsBehind q.1 = .ok (q.2.1, q.2.2))) = true := by decide +kernel
theorem dX3_letsBehind_0 : decode cX3_letsBehind 0 = .ok (.bipush 99, 2) := of_decide_eq_true (List.all_eq_true.mp dA_X3_letsBehind_0 (0, .bipush 99, 2) (List.mem_of_getElem? (i := 0) rfl))
theorem dX3_letsBehind_2 : decode cX3_letsBehind 2 = .ok (.aload_n 1, 1) := of_decide_eq_true (List.all_eq_true.mp dA_X3_letsBehind_0 (2, .aload_n 1, 1) (List.mem_of_getElem? (i := 1) rfl))
theorem dX3_letsBehind_3 : decode cX3_letsBehind 3 = .ok (.getfield 85, 3) := of_decide_eq_true (List.all_eq_true.mp dA_X3_letsBehind_0 (3, .getfield 85, 3) (List.mem_of_getElem? (i := 2) rfl))
theorem dX3_letsBehind_6 : decode cX3_letsBehind 6 = .ok (.iload_n 2, 1) := of_decide_eq_true (List.all_eq_true.mp dA_X3_letsBehind_0 (6, .iload_n 2, 1) (List.mem_of_getElem? (i := 3) rfl))
theorem dX3_letsBehind_7 : decode cX3_letsBehind 7 = .ok (.invokestatic 88, 3) := of_decide_eq_true (List.all_eq_true.mp dA_X3_letsBehind_0 (7, .invokestatic 88, 3) (List.mem_of_getElem? (i := 4) rfl))
theorem dX3_letsBehind_10 : decode cX3_letsBehind 10 = .ok (.iadd, 1) := of_decide_eq_true (List.all_eq_true.mp dA_X3_letsBehind_0 (10, .iadd, 1) (List.mem_of_getElem? (i := 5) rfl))
theorem dX3_letsBehind_11 : decode cX3_letsBehind 11 = .ok (.invokestatic 55, 3) := of_decide_eq_true (List.all_eq_true.mp dA_X3_letsBehind_0 (11, .invokestatic 55, 3) (List.mem_of_getElem? (i := 6) rfl))
theorem dX3_letsBehind_14 : decode cX3_letsBehind 14 = .ok (.istore_n 3, 1) := of_decide_eq_true (List.all_eq_true.mp dA_X3_letsBehind_0 (14, .istore_n 3, 1) (List.mem_of_getElem? (i := 7) rfl))
theorem dX3_letsBehind_15 : decode cX3_letsBehind 15 = .ok (.aload_n 1, 1) := of_decide_eq_true (List.all_eq_true.mp dA_X3_letsBehind_0 (15, .aload_n 1, 1) (List.mem_of_getElem? (i := 8) rfl))
theorem dX3_letsBehind_16 : decode cX3_letsBehind 16 = .ok (.aload_n 1, 1) := of_decide_eq_true (List.all_eq_true.mp dA_X3_letsBehind_0 (16, .aload_n 1, 1) (List.mem_of_getElem? (i := 9) rfl))
theorem dX3_letsBehind_17 : decode cX3_letsBehind 17 = .ok (.invokevirtual 93, 3) := of_decide_eq_true (List.all_eq_true.mp dA_X3_letsBehind_0 (17, .invokevirtual 93, 3) (List.mem_of_getElem? (i := 10) rfl))
theorem dX3_letsBehind_20 : decode cX3_letsBehind 20 = .ok (.iload_n 3, 1) := of_decide_eq_true (List.all_eq_true.mp dA_X3_letsBehind_0 (20, .iload_n 3, 1) (List.mem_of_getElem? (i := 11) rfl))
theorem dX3_letsBehind_21 : decode cX3_letsBehind 21 = .ok (.invokevirtual 96, 3) := of_decide_eq_true (List.all_eq_true.mp dA_X3_letsBehind_0 (21, .invokevirtual 96, 3) (List.mem_of_getElem? (i := 12) rfl))
theorem dX3_letsBehind_24 : decode cX3_letsBehind 24 = .ok (.ireturn, 1) := of_decide_eq_true (List.all_eq_true.mp dA_X3_letsBehind_0 (24, .ireturn, 1) (List.mem_of_getElem? (i := 13) rfl))
set_option maxRecDepth 20000 in
theorem dA_X3_gain_0 : (([(0, .iload_n 2, 1), (1, .iconst 1, 1), (2, .iload_n 1, 1), (3, .ishl, 1), (4, .ior, 1), (5, .istore 4, 2), (7, .iload 4, 2), (9, .ifCond .lt 21, 3), (12, .iload 4, 2), (14, .sipush 128, 3), (17, .if_icmp .ge 13, 3), (20, .aload_n 0, 1), (21, .getfield 11, 3), (24, .iload 4, 2), (26, .iaload, 1), (27, .goto 4, 3), (30, .iconst 0, 1), (31, .istore 5, 2), (33, .iload_n 1, 1), (34, .ifCond .lt 26, 3), (37, .iload_n 1, 1), (38, .bipush 7, 2), (40, .if_icmp .ge 20, 3), (43, .aload_n 0, 1), (44, .getfield 15, 3), (47, .iload_n 1, 1), (48, .iaload, 1), (49, .iload_n 3, 1), (50, .if_icmp .gt 10, 3), (53, .iload 5, 2), (55, .iconst 1, 1), (56, .iadd, 1), (57, .goto 5, 3), (60, .iload 5, 2), (62, .ireturn, 1)] : List (Nat × Instr × Nat)).all fun q => decide (decode cX3_gain q.1 = .ok (q.2.1, q.2.2))) = true := by decide +kernel
theorem dX3_gain_0 : decode cX3_gain 0 = .ok (.iload_n 2, 1) := of_decide_eq_true (List.all_eq_true.mp dA_X3_gain_0 (0, .iload_n 2, 1) (List.mem_of_getElem? (i := 0) rfl))
theorem dX3_gain_1 : decode cX3_gain 1 = .ok (.iconst 1, 1) := of_decide_eq_true (List.all_eq_true.mp dA_X3_gain_0 (1, .iconst 1, 1) (List.mem_of_getElem? (i := 1) rfl))
theorem dX3_gain_2 : decode cX3_gain 2 = .ok (.iload_n 1, 1) := of_decide_eq_true (List.all_eq_true.mp dA_X3_gain_0 (2, .iload_n 1, 1) (List.mem_of_getElem? (i := 2) rfl))
theorem dX3_gain_3 : decode cX3_gain 3 = .ok (.ishl, 1) := of_decide_eq_true (List.all_eq_true.mp dA_X3_gain_0 (3, .ishl, 1) (List.mem_of_getElem? (i := 3) rfl))
theorem dX3_gain_4 : decode cX3_gain 4 = .ok (.ior, 1) := of_decide_eq_true (List.all_eq_true.mp dA_X3_gain_0 (4, .ior, 1) (List.mem_of_getElem? (i := 4) rfl))
theorem dX3_gain_5 : decode cX3_gain 5 = .ok (.istore 4, 2) := of_decide_eq_true (List.all_eq_true.mp dA_X3_gain_0 (5, .istore 4, 2) (List.mem_of_getElem? (i := 5) rfl))
theorem dX3_gain_7 : decode cX3_gain 7 = .ok (.iload 4, 2) := of_decide_eq_true (List.all_eq_true.mp dA_X3_gain_0 (7, .iload 4, 2) (List.mem_of_getElem? (i := 6) rfl))
theorem dX3_gain_9 : decode cX3_gain 9 = .ok (.ifCond .lt 21, 3) := of_decide_eq_true (List.all_eq_true.mp dA_X3_gain_0 (9, .ifCond .lt 21, 3) (List.mem_of_getElem? (i := 7) rfl))
theorem dX3_gain_12 : decode cX3_gain 12 = .ok (.iload 4, 2) := of_decide_eq_true (List.all_eq_true.mp dA_X3_gain_0 (12, .iload 4, 2) (List.mem_of_getElem? (i := 8) rfl))
theorem dX3_gain_14 : decode cX3_gain 14 = .ok (.sipush 128, 3) := of_decide_eq_true (List.all_eq_true.mp dA_X3_gain_0 (14, .sipush 128, 3) (List.mem_of_getElem? (i := 9) rfl))
theorem dX3_gain_17 : decode cX3_gain 17 = .ok (.if_icmp .ge 13, 3) := of_decide_eq_true (List.all_eq_true.mp dA_X3_gain_0 (17, .if_icmp .ge 13, 3) (List.mem_of_getElem? (i := 10) rfl))
theorem dX3_gain_20 : decode cX3_gain 20 = .ok (.aload_n 0, 1) := of_decide_eq_true (List.all_eq_true.mp dA_X3_gain_0 (20, .aload_n 0, 1) (List.mem_of_getElem? (i := 11) rfl))
theorem dX3_gain_21 : decode cX3_gain 21 = .ok (.getfield 11, 3) := of_decide_eq_true (List.all_eq_true.mp dA_X3_gain_0 (21, .getfield 11, 3) (List.mem_of_getElem? (i := 12) rfl))
theorem dX3_gain_24 : decode cX3_gain 24 = .ok (.iload 4, 2) := of_decide_eq_true (List.all_eq_true.mp dA_X3_gain_0 (24, .iload 4, 2) (List.mem_of_getElem? (i := 13) rfl))
theorem dX3_gain_26 : decode cX3_gain 26 = .ok (.iaload, 1) := of_decide_eq_true (List.all_eq_true.mp dA_X3_gain_0 (26, .iaload, 1) (List.mem_of_getElem? (i := 14) rfl))
theorem dX3_gain_27 : decode cX3_gain 27 = .ok (.goto 4, 3) := of_decide_eq_true (List.all_eq_true.mp dA_X3_gain_0 (27, .goto 4, 3) (List.mem_of_getElem? (i := 15) rfl))
theorem dX3_gain_30 : decode cX3_gain 30 = .ok (.iconst 0, 1) := of_decide_eq_true (List.all_eq_true.mp dA_X3_gain_0 (30, .iconst 0, 1) (List.mem_of_getElem? (i := 16) rfl))
theorem dX3_gain_31 : decode cX3_gain 31 = .ok (.istore 5, 2) := of_decide_eq_true (List.all_eq_true.mp dA_X3_gain_0 (31, .istore 5, 2) (List.mem_of_getElem? (i := 17) rfl))
theorem dX3_gain_33 : decode cX3_gain 33 = .ok (.iload_n 1, 1) := of_decide_eq_true (List.all_eq_true.mp dA_X3_gain_0 (33, .iload_n 1, 1) (List.mem_of_getElem? (i := 18) rfl))
theorem dX3_gain_34 : decode cX3_gain 34 = .ok (.ifCond .lt 26, 3) := of_decide_eq_true (List.all_eq_true.mp dA_X3_gain_0 (34, .ifCond .lt 26, 3) (List.mem_of_getElem? (i := 19) rfl))
theorem dX3_gain_37 : decode cX3_gain 37 = .ok (.iload_n 1, 1) := of_decide_eq_true (List.all_eq_true.mp dA_X3_gain_0 (37, .iload_n 1, 1) (List.mem_of_getElem? (i := 20) rfl))
theorem dX3_gain_38 : decode cX3_gain 38 = .ok (.bipush 7, 2) := of_decide_eq_true (List.all_eq_true.mp dA_X3_gain_0 (38, .bipush 7, 2) (List.mem_of_getElem? (i := 21) rfl))
theorem dX3_gain_40 : decode cX3_gain 40 = .ok (.if_icmp .ge 20, 3) := of_decide_eq_true (List.all_eq_true.mp dA_X3_gain_0 (40, .if_icmp .ge 20, 3) (List.mem_of_getElem? (i := 22) rfl))
theorem dX3_gain_43 : decode cX3_gain 43 = .ok (.aload_n 0, 1) := of_decide_eq_true (List.all_eq_true.mp dA_X3_gain_0 (43, .aload_n 0, 1) (List.mem_of_getElem? (i := 23) rfl))
theorem dX3_gain_44 : decode cX3_gain 44 = .ok (.getfield 15, 3) := of_decide_eq_true (List.all_eq_true.mp dA_X3_gain_0 (44, .getfield 15, 3) (List.mem_of_getElem? (i := 24) rfl))
theorem dX3_gain_47 : decode cX3_gain 47 = .ok (.iload_n 1, 1) := of_decide_eq_true (List.all_eq_true.mp dA_X3_gain_0 (47, .iload_n 1, 1) (List.mem_of_getElem? (i := 25) rfl))
theorem dX3_gain_48 : decode cX3_gain 48 = .ok (.iaload, 1) := of_decide_eq_true (List.all_eq_true.mp dA_X3_gain_0 (48, .iaload, 1) (List.mem_of_getElem? (i := 26) rfl))
theorem dX3_gain_49 : decode cX3_gain 49 = .ok (.iload_n 3, 1) := of_decide_eq_true (List.all_eq_true.mp dA_X3_gain_0 (49, .iload_n 3, 1) (List.mem_of_getElem? (i := 27) rfl))
theorem dX3_gain_50 : decode cX3_gain 50 = .ok (.if_icmp .gt 10, 3) := of_decide_eq_true (List.all_eq_true.mp dA_X3_gain_0 (50, .if_icmp .gt 10, 3) (List.mem_of_getElem? (i := 28) rfl))
theorem dX3_gain_53 : decode cX3_gain 53 = .ok (.iload 5, 2) := of_decide_eq_true (List.all_eq_true.mp dA_X3_gain_0 (53, .iload 5, 2) (List.mem_of_getElem? (i := 29) rfl))
theorem dX3_gain_55 : decode cX3_gain 55 = .ok (.iconst 1, 1) := of_decide_eq_true (List.all_eq_true.mp dA_X3_gain_0 (55, .iconst 1, 1) (List.mem_of_getElem? (i := 30) rfl))
theorem dX3_gain_56 : decode cX3_gain 56 = .ok (.iadd, 1) := of_decide_eq_true (List.all_eq_true.mp dA_X3_gain_0 (56, .iadd, 1) (List.mem_of_getElem? (i := 31) rfl))
theorem dX3_gain_57 : decode cX3_gain 57 = .ok (.goto 5, 3) := of_decide_eq_true (List.all_eq_true.mp dA_X3_gain_0 (57, .goto 5, 3) (List.mem_of_getElem? (i := 32) rfl))
theorem dX3_gain_60 : decode cX3_gain 60 = .ok (.iload 5, 2) := of_decide_eq_true (List.all_eq_true.mp dA_X3_gain_0 (60, .iload 5, 2) (List.mem_of_getElem? (i := 33) rfl))
theorem dX3_gain_62 : decode cX3_gain 62 = .ok (.ireturn, 1) := of_decide_eq_true (List.all_eq_true.mp dA_X3_gain_0 (62, .ireturn, 1) (List.mem_of_getElem? (i := 34) rfl))
set_option maxRecDepth 20000 in
theorem dA_X4_init_0 : (([(0, .aload_n 0, 1), (1, .invokespecial 3, 3), (4, .aload_n 0, 1), (5, .sipush 150, 3), (8, .newarray .byte, 2), (10, .putfield 9, 3), (13, .return_, 1)] : List (Nat × Instr × Nat)).all fun q => decide (decode cX4_init q.1 = .ok (q.2.1, q.2.2))) = true := by decide +kernel
theorem dX4_init_0 : decode cX4_init 0 = .ok (.aload_n 0, 1) := of_decide_eq_true (List.all_eq_true.mp dA_X4_init_0 (0, .aload_n 0, 1) (List.mem_of_getElem? (i := 0) rfl))
theorem dX4_init_1 : decode cX4_init 1 = .ok (.invokespecial 3, 3) := of_decide_eq_true (List.all_eq_true.mp dA_X4_init_0 (1, .invokespecial 3, 3) (List.mem_of_getElem? (i := 1) rfl))
theorem dX4_init_4 : decode cX4_init 4 = .ok (.aload_n 0, 1) := of_decide_eq_true (List.all_eq_true.mp dA_X4_init_0 (4, .aload_n 0, 1) (List.mem_of_getElem? (i := 2) rfl))
theorem dX4_init_5 : decode cX4_init 5 = .ok (.sipush 150, 3) := of_decide_eq_true (List.all_eq_true.mp dA_X4_init_0 (5, .sipush 150, 3) (List.mem_of_getElem? (i := 3) rfl))
theorem dX4_init_8 : decode cX4_init 8 = .ok (.newarray .byte, 2) := of_decide_eq_true (List.all_eq_true.mp dA_X4_init_0 (8, .newarray .byte, 2) (List.mem_of_getElem? (i := 4) rfl))
theorem dX4_init_10 : decode cX4_init 10 = .ok (.putfield 9, 3) := of_decide_eq_true (List.all_eq_true.mp dA_X4_init_0 (10, .putfield 9, 3) (List.mem_of_getElem? (i := 5) rfl))
theorem dX4_init_13 : decode cX4_init 13 = .ok (.return_, 1) := of_decide_eq_true (List.all_eq_true.mp dA_X4_init_0 (13, .return_, 1) (List.mem_of_getElem? (i := 6) rfl))
set_option maxRecDepth 20000 in
theorem dA_X4_isFull_0 : (([(0, .aload_n 0, 1), (1, .getfield 15, 3), (4, .sipush 150, 3), (7, .if_icmp .lt 7, 3), (10, .iconst 1, 1), (11, .goto 4, 3), (14, .iconst 0, 1), (15, .ireturn, 1)] : List (Nat × Instr × Nat)).all fun q => decide (decode cX4_isFull q.1 = .ok (q.2.1, q.2.2))) = true := by decide +kernel
theorem dX4_isFull_0 : decode cX4_isFull 0 = .ok (.aload_n 0, 1) := of_decide_eq_true (List.all_eq_true.mp dA_X4_isFull_0 (0, .aload_n 0, 1) (List.mem_of_getElem? (i := 0) rfl))
theorem dX4_isFull_1 : decode cX4_isFull 1 = .ok (.getfield 15, 3) := of_decide_eq_true (List.all_eq_true.mp dA_X4_isFull_0 (1, .getfield 15, 3) (List.mem_of_getElem? (i := 1) rfl))
theorem dX4_isFull_4 : decode cX4_isFull 4 = .ok (.sipush 150, 3) := of_decide_eq_true (List.all_eq_true.mp dA_X4_isFull_0 (4, .sipush 150, 3) (List.mem_of_getElem? (i := 2) rfl))
theorem dX4_isFull_7 : decode cX4_isFull 7 = .ok (.if_icmp .lt 7, 3) := of_decide_eq_true (List.all_eq_true.mp dA_X4_isFull_0 (7, .if_icmp .lt 7, 3) (List.mem_of_getElem? (i := 3) rfl))
theorem dX4_isFull_10 : decode cX4_isFull 10 = .ok (.iconst 1, 1) := of_decide_eq_true (List.all_eq_true.mp dA_X4_isFull_0 (10, .iconst 1, 1) (List.mem_of_getElem? (i := 4) rfl))
theorem dX4_isFull_11 : decode cX4_isFull 11 = .ok (.goto 4, 3) := of_decide_eq_true (List.all_eq_true.mp dA_X4_isFull_0 (11, .goto 4, 3) (List.mem_of_getElem? (i := 5) rfl))
theorem dX4_isFull_14 : decode cX4_isFull 14 = .ok (.iconst 0, 1) := of_decide_eq_true (List.all_eq_true.mp dA_X4_isFull_0 (14, .iconst 0, 1) (List.mem_of_getElem? (i := 6) rfl))
theorem dX4_isFull_15 : decode cX4_isFull 15 = .ok (.ireturn, 1) := of_decide_eq_true (List.all_eq_true.mp dA_X4_isFull_0 (15, .ireturn, 1) (List.mem_of_getElem? (i := 7) rfl))
set_option maxRecDepth 20000 in
theorem dA_X4_append_0 : (([(0, .aload_n 0, 1), (1, .getfield 15, 3), (4, .ifCond .lt 13, 3), (7, .aload_n 0, 1), (8, .getfield 15, 3), (11, .sipush 150, 3), (14, .if_icmp .lt 4, 3), (17, .return_, 1), (18, .aload_n 0, 1), (19, .getfield 9, 3), (22, .aload_n 0, 1), (23, .getfield 15, 3), (26, .iload_n 1, 1), (27, .i2b, 1), (28, .bastore, 1), (29, .aload_n 0, 1), (30, .dup, 1), (31, .getfield 15, 3), (34, .iconst 1, 1), (35, .iadd, 1), (36, .putfield 15, 3), (39, .return_, 1)] : List (Nat × Instr × Nat)).all fun q => decide (decode cX4_append q.1 = .ok (q.2.1, q.2.2))) = true := by decide +kernel
theorem dX4_append_0 : decode cX4_append 0 = .ok (.aload_n 0, 1) := of_decide_eq_true (List.all_eq_true.mp dA_X4_append_0 (0, .aload_n 0, 1) (List.mem_of_getElem? (i := 0) rfl))
theorem dX4_append_1 : decode cX4_append 1 = .ok (.getfield 15, 3) := of_decide_eq_true (List.all_eq_true.mp dA_X4_append_0 (1, .getfield 15, 3) (List.mem_of_getElem? (i := 1) rfl))
theorem dX4_append_4 : decode cX4_append 4 = .ok (.ifCond .lt 13, 3) := of_decide_eq_true (List.all_eq_true.mp dA_X4_append_0 (4, .ifCond .lt 13, 3) (List.mem_of_getElem? (i := 2) rfl))
theorem dX4_append_7 : decode cX4_append 7 = .ok (.aload_n 0, 1) := of_decide_eq_true (List.all_eq_true.mp dA_X4_append_0 (7, .aload_n 0, 1) (List.mem_of_getElem? (i := 3) rfl))
theorem dX4_append_8 : decode cX4_append 8 = .ok (.getfield 15, 3) := of_decide_eq_true (List.all_eq_true.mp dA_X4_append_0 (8, .getfield 15, 3) (List.mem_of_getElem? (i := 4) rfl))
theorem dX4_append_11 : decode cX4_append 11 = .ok (.sipush 150, 3) := of_decide_eq_true (List.all_eq_true.mp dA_X4_append_0 (11, .sipush 150, 3) (List.mem_of_getElem? (i := 5) rfl))
theorem dX4_append_14 : decode cX4_append 14 = .ok (.if_icmp .lt 4, 3) := of_decide_eq_true (List.all_eq_true.mp dA_X4_append_0 (14, .if_icmp .lt 4, 3) (List.mem_of_getElem? (i := 6) rfl))
theorem dX4_append_17 : decode cX4_append 17 = .ok (.return_, 1) := of_decide_eq_true (List.all_eq_true.mp dA_X4_append_0 (17, .return_, 1) (List.mem_of_getElem? (i := 7) rfl))
theorem dX4_append_18 : decode cX4_append 18 = .ok (.aload_n 0, 1) := of_decide_eq_true (List.all_eq_true.mp dA_X4_append_0 (18, .aload_n 0, 1) (List.mem_of_getElem? (i := 8) rfl))
theorem dX4_append_19 : decode cX4_append 19 = .ok (.getfield 9, 3) := of_decide_eq_true (List.all_eq_true.mp dA_X4_append_0 (19, .getfield 9, 3) (List.mem_of_getElem? (i := 9) rfl))
theorem dX4_append_22 : decode cX4_append 22 = .ok (.aload_n 0, 1) := of_decide_eq_true (List.all_eq_true.mp dA_X4_append_0 (22, .aload_n 0, 1) (List.mem_of_getElem? (i := 10) rfl))
theorem dX4_append_23 : decode cX4_append 23 = .ok (.getfield 15, 3) := of_decide_eq_true (List.all_eq_true.mp dA_X4_append_0 (23, .getfield 15, 3) (List.mem_of_getElem? (i := 11) rfl))
theorem dX4_append_26 : decode cX4_append 26 = .ok (.iload_n 1, 1) := of_decide_eq_true (List.all_eq_true.mp dA_X4_append_0 (26, .iload_n 1, 1) (List.mem_of_getElem? (i := 12) rfl))
theorem dX4_append_27 : decode cX4_append 27 = .ok (.i2b, 1) := of_decide_eq_true (List.all_eq_true.mp dA_X4_append_0 (27, .i2b, 1) (List.mem_of_getElem? (i := 13) rfl))
theorem dX4_append_28 : decode cX4_append 28 = .ok (.bastore, 1) := of_decide_eq_true (List.all_eq_true.mp dA_X4_append_0 (28, .bastore, 1) (List.mem_of_getElem? (i := 14) rfl))
theorem dX4_append_29 : decode cX4_append 29 = .ok (.aload_n 0, 1) := of_decide_eq_true (List.all_eq_true.mp dA_X4_append_0 (29, .aload_n 0, 1) (List.mem_of_getElem? (i := 15) rfl))
theorem dX4_append_30 : decode cX4_append 30 = .ok (.dup, 1) := of_decide_eq_true (List.all_eq_true.mp dA_X4_append_0 (30, .dup, 1) (List.mem_of_getElem? (i := 16) rfl))
theorem dX4_append_31 : decode cX4_append 31 = .ok (.getfield 15, 3) := of_decide_eq_true (List.all_eq_true.mp dA_X4_append_0 (31, .getfield 15, 3) (List.mem_of_getElem? (i := 17) rfl))
theorem dX4_append_34 : decode cX4_append 34 = .ok (.iconst 1, 1) := of_decide_eq_true (List.all_eq_true.mp dA_X4_append_0 (34, .iconst 1, 1) (List.mem_of_getElem? (i := 18) rfl))
theorem dX4_append_35 : decode cX4_append 35 = .ok (.iadd, 1) := of_decide_eq_true (List.all_eq_true.mp dA_X4_append_0 (35, .iadd, 1) (List.mem_of_getElem? (i := 19) rfl))
theorem dX4_append_36 : decode cX4_append 36 = .ok (.putfield 15, 3) := of_decide_eq_true (List.all_eq_true.mp dA_X4_append_0 (36, .putfield 15, 3) (List.mem_of_getElem? (i := 20) rfl))
theorem dX4_append_39 : decode cX4_append 39 = .ok (.return_, 1) := of_decide_eq_true (List.all_eq_true.mp dA_X4_append_0 (39, .return_, 1) (List.mem_of_getElem? (i := 21) rfl))
set_option maxRecDepth 20000 in
theorem dA_X4_rewind_0 : (([(0, .aload_n 0, 1), (1, .iconst 0, 1), (2, .putfield 19, 3), (5, .return_, 1)] : List (Nat × Instr × Nat)).all fun q => decide (decode cX4_rewind q.1 = .ok (q.2.1, q.2.2))) = true := by decide +kernel
theorem dX4_rewind_0 : decode cX4_rewind 0 = .ok (.aload_n 0, 1) := of_decide_eq_true (List.all_eq_true.mp dA_X4_rewind_0 (0, .aload_n 0, 1) (List.mem_of_getElem? (i := 0) rfl))
theorem dX4_rewind_1 : decode cX4_rewind 1 = .ok (.iconst 0, 1) := of_decide_eq_true (List.all_eq_true.mp dA_X4_rewind_0 (1, .iconst 0, 1) (List.mem_of_getElem? (i := 1) rfl))
theorem dX4_rewind_2 : decode cX4_rewind 2 = .ok (.putfield 19, 3) := of_decide_eq_true (List.all_eq_true.mp dA_X4_rewind_0 (2, .putfield 19, 3) (List.mem_of_getElem? (i := 2) rfl))
theorem dX4_rewind_5 : decode cX4_rewind 5 = .ok (.return_, 1) := of_decide_eq_true (List.all_eq_true.mp dA_X4_rewind_0 (5, .return_, 1) (List.mem_of_getElem? (i := 3) rfl))
set_option maxRecDepth 20000 in
theorem ggX4_advance_X4_at : GoodIn wsX4_advance wsX4_at := goodIn_r _ [9, 2, 10, 19, 20, 21, 22, 23, 24] (by decide +kernel) (by decide +kernel)
set_option maxRecDepth 20000 in
theorem gX4_advance_X4_at : GoodIn wsX4_advance (wsV RX4 22 RX4 yX4_at wsX4_at) := goodIn_app (goodIn_of _ (by decide +kernel)) ggX4_advance_X4_at
set_option maxRecDepth 20000 in
theorem ggX4_advance_X4_sort : GoodIn wsX4_advance wsX4_sort := goodIn_r _ [13] (by decide +kernel) (by decide +kernel)
set_option maxRecDepth 20000 in
theorem gX4_advance_X4_sort : GoodIn wsX4_advance (va_wsS RX4 29 yX4_sort wsX4_sort) := goodIn_app (goodIn_of _ (by decide +kernel)) ggX4_advance_X4_sort
set_option maxRecDepth 20000 in
theorem ggX4_advance_X4_takeNumber : GoodIn wsX4_advance wsX4_takeNumber := goodIn_r _ [17, 1, 3, 4, 18, 5, 6, 7, 8, 9, 2, 10, 19, 20, 21, 22, 23, 24] (by decide +kernel) (by decide +kernel)
set_option maxRecDepth 20000 in
theorem gX4_advance_X4_takeNumber : GoodIn wsX4_advance (wsV RX4 35 RX4 yX4_takeNumber wsX4_takeNumber) := goodIn_app (goodIn_of _ (by decide +kernel)) ggX4_advance_X4_takeNumber
set_option maxRecDepth 20000 in
theorem dA_X4_advance_0 : (([(0, .aload_n 0, 1), (1, .getfield 19, 3), (4, .aload_n 0, 1), (5, .getfield 15, 3), (8, .if_icmp .ge 29, 3), (11, .aload_n 0, 1), (12, .aload_n 0, 1), (13, .getfield 19, 3), (16, .invokevirtual 22, 3), (19, .bipush 32, 2), (21, .if_icmp .ne 16, 3), (24, .aload_n 0, 1), (25, .dup, 1), (26, .getfield 19, 3), (29, .iconst 1, 1), (30, .iadd, 1), (31, .putfield 19, 3), (34, .goto (-34), 3), (37, .aload_n 0, 1), (38, .aload_n 0, 1), (39, .getfield 19, 3), (42, .putfield 26, 3), (45, .aload_n 0, 1), (46, .aload_n 0, 1), (47, .aload_n 0, 1), (48, .getfield 26, 3), (51, .invokevirtual 22, 3), (54, .invokestatic 29, 3), (57, .putfield 32, 3), (60, .aload_n 0, 1), (61, .getfield 32, 3), (64, .ifCond .ne 4, 3), (67, .return_, 1), (68, .aload_n 0, 1), (69, .dup, 1), (70, .getfield 19, 3), (73, .iconst 1, 1), (74, .iadd, 1), (75, .putfield 19, 3), (78, .aload_n 0, 1)] : List (Nat × Instr × Nat)).all fun q => decide (decode cX4_advance q.1 = .ok (q.2.1, q.2.2))) = true := by decide +kernel
theorem dX4_advance_0 : decode cX4_advance 0 = .ok (.aload_n 0, 1) := of_decide_eq_true (List.all_eq_true.mp dA_X4_advance_0 (0, .aload_n 0, 1) (List.mem_of_getElem? (i := 0) rfl))
theorem dX4_advance_1 : decode cX4_advance 1 = .ok (.getfield 19, 3) := of_decide_eq_true (List.all_eq_true.mp dA_X4_advance_0 (1, .getfield 19, 3) (List.mem_of_getElem? (i := 1) rfl))
theorem dX4_advance_4 : decode cX4_advance 4 = .ok (.aload_n 0, 1) := of_decide_eq_true (List.all_eq_true.mp dA_X4_advance_0 (4, .aload_n 0, 1) (List.mem_of_getElem? (i := 2) rfl))
theorem dX4_advance_5 : decode cX4_advance 5 = .ok (.getfield 15, 3) := of_decide_eq_true (List.all_eq_true.mp dA_X4_advance_0 (5, .getfield 15, 3) (List.mem_of_getElem? (i := 3) rfl))
theorem dX4_advance_8 : decode cX4_advance 8 = .ok (.if_icmp .ge 29, 3) := of_decide_eq_true (List.all_eq_true.mp dA_X4_advance_0 (8, .if_icmp .ge 29, 3) (List.mem_of_getElem? (i := 4) rfl))
theorem dX4_advance_11 : decode cX4_advance 11 = .ok (.aload_n 0, 1) := of_decide_eq_true (List.all_eq_true.mp dA_X4_advance_0 (11, .aload_n 0, 1) (List.mem_of_getElem? (i := 5) rfl))
theorem dX4_advance_12 : decode cX4_advance 12 = .ok (.aload_n 0, 1) := of_decide_eq_true (List.all_eq_true.mp dA_X4_advance_0 (12, .aload_n 0, 1) (List.mem_of_getElem? (i := 6) rfl))
theorem dX4_advance_13 : decode cX4_advance 13 = .ok (.getfield 19, 3) := of_decide_eq_true (List.all_eq_true.mp dA_X4_advance_0 (13, .getfield 19, 3) (List.mem_of_getElem? (i := 7) rfl))
theorem dX4_advance_16 : decode cX4_advance 16 = .ok (.invokevirtual 22, 3) := of_decide_eq_true (List.all_eq_true.mp dA_X4_advance_0 (16, .invokevirtual 22, 3) (List.mem_of_getElem? (i := 8) rfl))
theorem dX4_advance_19 : decode cX4_advance 19 = .ok (.bipush 32, 2) := of_decide_eq_true (List.all_eq_true.mp dA_X4_advance_0 (19, .bipush 32, 2) (List.mem_of_getElem? (i := 9) rfl))
theorem dX4_advance_21 : decode cX4_advance 21 = .ok (.if_icmp .ne 16, 3) := of_decide_eq_true (List.all_eq_true.mp dA_X4_advance_0 (21, .if_icmp .ne 16, 3) (List.mem_of_getElem? (i := 10) rfl))
theorem dX4_advance_24 : decode cX4_advance 24 = .ok (.aload_n 0, 1) := of_decide_eq_true (List.all_eq_true.mp dA_X4_advance_0 (24, .aload_n 0, 1) (List.mem_of_getElem? (i := 11) rfl))
theorem dX4_advance_25 : decode cX4_advance 25 = .ok (.dup, 1) := of_decide_eq_true (List.all_eq_true.mp dA_X4_advance_0 (25, .dup, 1) (List.mem_of_getElem? (i := 12) rfl))
theorem dX4_advance_26 : decode cX4_advance 26 = .ok (.getfield 19, 3) := of_decide_eq_true (List.all_eq_true.mp dA_X4_advance_0 (26, .getfield 19, 3) (List.mem_of_getElem? (i := 13) rfl))
theorem dX4_advance_29 : decode cX4_advance 29 = .ok (.iconst 1, 1) := of_decide_eq_true (List.all_eq_true.mp dA_X4_advance_0 (29, .iconst 1, 1) (List.mem_of_getElem? (i := 14) rfl))
theorem dX4_advance_30 : decode cX4_advance 30 = .ok (.iadd, 1) := of_decide_eq_true (List.all_eq_true.mp dA_X4_advance_0 (30, .iadd, 1) (List.mem_of_getElem? (i := 15) rfl))
theorem dX4_advance_31 : decode cX4_advance 31 = .ok (.putfield 19, 3) := of_decide_eq_true (List.all_eq_true.mp dA_X4_advance_0 (31, .putfield 19, 3) (List.mem_of_getElem? (i := 16) rfl))
theorem dX4_advance_34 : decode cX4_advance 34 = .ok (.goto (-34), 3) := of_decide_eq_true (List.all_eq_true.mp dA_X4_advance_0 (34, .goto (-34), 3) (List.mem_of_getElem? (i := 17) rfl))
theorem dX4_advance_37 : decode cX4_advance 37 = .ok (.aload_n 0, 1) := of_decide_eq_true (List.all_eq_true.mp dA_X4_advance_0 (37, .aload_n 0, 1) (List.mem_of_getElem? (i := 18) rfl))
theorem dX4_advance_38 : decode cX4_advance 38 = .ok (.aload_n 0, 1) := of_decide_eq_true (List.all_eq_true.mp dA_X4_advance_0 (38, .aload_n 0, 1) (List.mem_of_getElem? (i := 19) rfl))
theorem dX4_advance_39 : decode cX4_advance 39 = .ok (.getfield 19, 3) := of_decide_eq_true (List.all_eq_true.mp dA_X4_advance_0 (39, .getfield 19, 3) (List.mem_of_getElem? (i := 20) rfl))
theorem dX4_advance_42 : decode cX4_advance 42 = .ok (.putfield 26, 3) := of_decide_eq_true (List.all_eq_true.mp dA_X4_advance_0 (42, .putfield 26, 3) (List.mem_of_getElem? (i := 21) rfl))
theorem dX4_advance_45 : decode cX4_advance 45 = .ok (.aload_n 0, 1) := of_decide_eq_true (List.all_eq_true.mp dA_X4_advance_0 (45, .aload_n 0, 1) (List.mem_of_getElem? (i := 22) rfl))
theorem dX4_advance_46 : decode cX4_advance 46 = .ok (.aload_n 0, 1) := of_decide_eq_true (List.all_eq_true.mp dA_X4_advance_0 (46, .aload_n 0, 1) (List.mem_of_getElem? (i := 23) rfl))
theorem dX4_advance_47 : decode cX4_advance 47 = .ok (.aload_n 0, 1) := of_decide_eq_true (List.all_eq_true.mp dA_X4_advance_0 (47, .aload_n 0, 1) (List.mem_of_getElem? (i := 24) rfl))
theorem dX4_advance_48 : decode cX4_advance 48 = .ok (.getfield 26, 3) := of_decide_eq_true (List.all_eq_true.mp dA_X4_advance_0 (48, .getfield 26, 3) (List.mem_of_getElem? (i := 25) rfl))
theorem dX4_advance_51 : decode cX4_advance 51 = .ok (.invokevirtual 22, 3) := of_decide_eq_true (List.all_eq_true.mp dA_X4_advance_0 (51, .invokevirtual 22, 3) (List.mem_of_getElem? (i := 26) rfl))
theorem dX4_advance_54 : decode cX4_advance 54 = .ok (.invokestatic 29, 3) := of_decide_eq_true (List.all_eq_true.mp dA_X4_advance_0 (54, .invokestatic 29, 3) (List.mem_of_getElem? (i := 27) rfl))
theorem dX4_advance_57 : decode cX4_advance 57 = .ok (.putfield 32, 3) := of_decide_eq_true (List.all_eq_true.mp dA_X4_advance_0 (57, .putfield 32, 3) (List.mem_of_getElem? (i := 28) rfl))
theorem dX4_advance_60 : decode cX4_advance 60 = .ok (.aload_n 0, 1) := of_decide_eq_true (List.all_eq_true.mp dA_X4_advance_0 (60, .aload_n 0, 1) (List.mem_of_getElem? (i := 29) rfl))
theorem dX4_advance_61 : decode cX4_advance 61 = .ok (.getfield 32, 3) := of_decide_eq_true (List.all_eq_true.mp dA_X4_advance_0 (61, .getfield 32, 3) (List.mem_of_getElem? (i := 30) rfl))
theorem dX4_advance_64 : decode cX4_advance 64 = .ok (.ifCond .ne 4, 3) := of_decide_eq_true (List.all_eq_true.mp dA_X4_advance_0 (64, .ifCond .ne 4, 3) (List.mem_of_getElem? (i := 31) rfl))
theorem dX4_advance_67 : decode cX4_advance 67 = .ok (.return_, 1) := of_decide_eq_true (List.all_eq_true.mp dA_X4_advance_0 (67, .return_, 1) (List.mem_of_getElem? (i := 32) rfl))
theorem dX4_advance_68 : decode cX4_advance 68 = .ok (.aload_n 0, 1) := of_decide_eq_true (List.all_eq_true.mp dA_X4_advance_0 (68, .aload_n 0, 1) (List.mem_of_getElem? (i := 33) rfl))
theorem dX4_advance_69 : decode cX4_advance 69 = .ok (.dup, 1) := of_decide_eq_true (List.all_eq_true.mp dA_X4_advance_0 (69, .dup, 1) (List.mem_of_getElem? (i := 34) rfl))
theorem dX4_advance_70 : decode cX4_advance 70 = .ok (.getfield 19, 3) := of_decide_eq_true (List.all_eq_true.mp dA_X4_advance_0 (70, .getfield 19, 3) (List.mem_of_getElem? (i := 35) rfl))
theorem dX4_advance_73 : decode cX4_advance 73 = .ok (.iconst 1, 1) := of_decide_eq_true (List.all_eq_true.mp dA_X4_advance_0 (73, .iconst 1, 1) (List.mem_of_getElem? (i := 36) rfl))
theorem dX4_advance_74 : decode cX4_advance 74 = .ok (.iadd, 1) := of_decide_eq_true (List.all_eq_true.mp dA_X4_advance_0 (74, .iadd, 1) (List.mem_of_getElem? (i := 37) rfl))
theorem dX4_advance_75 : decode cX4_advance 75 = .ok (.putfield 19, 3) := of_decide_eq_true (List.all_eq_true.mp dA_X4_advance_0 (75, .putfield 19, 3) (List.mem_of_getElem? (i := 38) rfl))
theorem dX4_advance_78 : decode cX4_advance 78 = .ok (.aload_n 0, 1) := of_decide_eq_true (List.all_eq_true.mp dA_X4_advance_0 (78, .aload_n 0, 1) (List.mem_of_getElem? (i := 39) rfl))
set_option maxRecDepth 20000 in
theorem dA_X4_advance_79 : (([(79, .getfield 32, 3), (82, .iconst 1, 1), (83, .if_icmp .eq 12, 3), (86, .aload_n 0, 1), (87, .getfield 32, 3), (90, .iconst 2, 1), (91, .if_icmp .eq 4, 3), (94, .return_, 1), (95, .aload_n 0, 1), (96, .getfield 19, 3), (99, .aload_n 0, 1), (100, .getfield 15, 3), (103, .if_icmp .ge 34, 3), (106, .aload_n 0, 1), (107, .aload_n 0, 1), (108, .getfield 19, 3), (111, .invokevirtual 22, 3), (114, .invokestatic 29, 3), (117, .aload_n 0, 1), (118, .getfield 32, 3), (121, .if_icmp .ne 16, 3), (124, .aload_n 0, 1), (125, .dup, 1), (126, .getfield 19, 3), (129, .iconst 1, 1), (130, .iadd, 1), (131, .putfield 19, 3), (134, .goto (-39), 3), (137, .aload_n 0, 1), (138, .getfield 32, 3), (141, .iconst 2, 1), (142, .if_icmp .ne 7, 3), (145, .aload_n 0, 1), (146, .invokevirtual 35, 3), (149, .return_, 1)] : List (Nat × Instr × Nat)).all fun q => decide (decode cX4_advance q.1 = .ok (q.2.1, q.2.2))) = true := by decide +kernel
theorem dX4_advance_79 : decode cX4_advance 79 = .ok (.getfield 32, 3) := of_decide_eq_true (List.all_eq_true.mp dA_X4_advance_79 (79, .getfield 32, 3) (List.mem_of_getElem? (i := 0) rfl))
theorem dX4_advance_82 : decode cX4_advance 82 = .ok (.iconst 1, 1) := of_decide_eq_true (List.all_eq_true.mp dA_X4_advance_79 (82, .iconst 1, 1) (List.mem_of_getElem? (i := 1) rfl))
theorem dX4_advance_83 : decode cX4_advance 83 = .ok (.if_icmp .eq 12, 3) := of_decide_eq_true (List.all_eq_true.mp dA_X4_advance_79 (83, .if_icmp .eq 12, 3) (List.mem_of_getElem? (i := 2) rfl))
theorem dX4_advance_86 : decode cX4_advance 86 = .ok (.aload_n 0, 1) := of_decide_eq_true (List.all_eq_true.mp dA_X4_advance_79 (86, .aload_n 0, 1) (List.mem_of_getElem? (i := 3) rfl))
theorem dX4_advance_87 : decode cX4_advance 87 = .ok (.getfield 32, 3) := of_decide_eq_true (List.all_eq_true.mp dA_X4_advance_79 (87, .getfield 32, 3) (List.mem_of_getElem? (i := 4) rfl))
theorem dX4_advance_90 : decode cX4_advance 90 = .ok (.iconst 2, 1) := of_decide_eq_true (List.all_eq_true.mp dA_X4_advance_79 (90, .iconst 2, 1) (List.mem_of_getElem? (i := 5) rfl))
theorem dX4_advance_91 : decode cX4_advance 91 = .ok (.if_icmp .eq 4, 3) := of_decide_eq_true (List.all_eq_true.mp dA_X4_advance_79 (91, .if_icmp .eq 4, 3) (List.mem_of_getElem? (i := 6) rfl))
theorem dX4_advance_94 : decode cX4_advance 94 = .ok (.return_, 1) := of_decide_eq_true (List.all_eq_true.mp dA_X4_advance_79 (94, .return_, 1) (List.mem_of_getElem? (i := 7) rfl))
theorem dX4_advance_95 : decode cX4_advance 95 = .ok (.aload_n 0, 1) := of_decide_eq_true (List.all_eq_true.mp dA_X4_advance_79 (95, .aload_n 0, 1) (List.mem_of_getElem? (i := 8) rfl))
theorem dX4_advance_96 : decode cX4_advance 96 = .ok (.getfield 19, 3) := of_decide_eq_true (List.all_eq_true.mp dA_X4_advance_79 (96, .getfield 19, 3) (List.mem_of_getElem? (i := 9) rfl))
theorem dX4_advance_99 : decode cX4_advance 99 = .ok (.aload_n 0, 1) := of_decide_eq_true (List.all_eq_true.mp dA_X4_advance_79 (99, .aload_n 0, 1) (List.mem_of_getElem? (i := 10) rfl))
theorem dX4_advance_100 : decode cX4_advance 100 = .ok (.getfield 15, 3) := of_decide_eq_true (List.all_eq_true.mp dA_X4_advance_79 (100, .getfield 15, 3) (List.mem_of_getElem? (i := 11) rfl))
theorem dX4_advance_103 : decode cX4_advance 103 = .ok (.if_icmp .ge 34, 3) := of_decide_eq_true (List.all_eq_true.mp dA_X4_advance_79 (103, .if_icmp .ge 34, 3) (List.mem_of_getElem? (i := 12) rfl))
theorem dX4_advance_106 : decode cX4_advance 106 = .ok (.aload_n 0, 1) := of_decide_eq_true (List.all_eq_true.mp dA_X4_advance_79 (106, .aload_n 0, 1) (List.mem_of_getElem? (i := 13) rfl))
theorem dX4_advance_107 : decode cX4_advance 107 = .ok (.aload_n 0, 1) := of_decide_eq_true (List.all_eq_true.mp dA_X4_advance_79 (107, .aload_n 0, 1) (List.mem_of_getElem? (i := 14) rfl))
theorem dX4_advance_108 : decode cX4_advance 108 = .ok (.getfield 19, 3) := of_decide_eq_true (List.all_eq_true.mp dA_X4_advance_79 (108, .getfield 19, 3) (List.mem_of_getElem? (i := 15) rfl))
theorem dX4_advance_111 : decode cX4_advance 111 = .ok (.invokevirtual 22, 3) := of_decide_eq_true (List.all_eq_true.mp dA_X4_advance_79 (111, .invokevirtual 22, 3) (List.mem_of_getElem? (i := 16) rfl))
theorem dX4_advance_114 : decode cX4_advance 114 = .ok (.invokestatic 29, 3) := of_decide_eq_true (List.all_eq_true.mp dA_X4_advance_79 (114, .invokestatic 29, 3) (List.mem_of_getElem? (i := 17) rfl))
theorem dX4_advance_117 : decode cX4_advance 117 = .ok (.aload_n 0, 1) := of_decide_eq_true (List.all_eq_true.mp dA_X4_advance_79 (117, .aload_n 0, 1) (List.mem_of_getElem? (i := 18) rfl))
theorem dX4_advance_118 : decode cX4_advance 118 = .ok (.getfield 32, 3) := of_decide_eq_true (List.all_eq_true.mp dA_X4_advance_79 (118, .getfield 32, 3) (List.mem_of_getElem? (i := 19) rfl))
theorem dX4_advance_121 : decode cX4_advance 121 = .ok (.if_icmp .ne 16, 3) := of_decide_eq_true (List.all_eq_true.mp dA_X4_advance_79 (121, .if_icmp .ne 16, 3) (List.mem_of_getElem? (i := 20) rfl))
theorem dX4_advance_124 : decode cX4_advance 124 = .ok (.aload_n 0, 1) := of_decide_eq_true (List.all_eq_true.mp dA_X4_advance_79 (124, .aload_n 0, 1) (List.mem_of_getElem? (i := 21) rfl))
theorem dX4_advance_125 : decode cX4_advance 125 = .ok (.dup, 1) := of_decide_eq_true (List.all_eq_true.mp dA_X4_advance_79 (125, .dup, 1) (List.mem_of_getElem? (i := 22) rfl))
theorem dX4_advance_126 : decode cX4_advance 126 = .ok (.getfield 19, 3) := of_decide_eq_true (List.all_eq_true.mp dA_X4_advance_79 (126, .getfield 19, 3) (List.mem_of_getElem? (i := 23) rfl))
theorem dX4_advance_129 : decode cX4_advance 129 = .ok (.iconst 1, 1) := of_decide_eq_true (List.all_eq_true.mp dA_X4_advance_79 (129, .iconst 1, 1) (List.mem_of_getElem? (i := 24) rfl))
theorem dX4_advance_130 : decode cX4_advance 130 = .ok (.iadd, 1) := of_decide_eq_true (List.all_eq_true.mp dA_X4_advance_79 (130, .iadd, 1) (List.mem_of_getElem? (i := 25) rfl))
theorem dX4_advance_131 : decode cX4_advance 131 = .ok (.putfield 19, 3) := of_decide_eq_true (List.all_eq_true.mp dA_X4_advance_79 (131, .putfield 19, 3) (List.mem_of_getElem? (i := 26) rfl))
theorem dX4_advance_134 : decode cX4_advance 134 = .ok (.goto (-39), 3) := of_decide_eq_true (List.all_eq_true.mp dA_X4_advance_79 (134, .goto (-39), 3) (List.mem_of_getElem? (i := 27) rfl))
theorem dX4_advance_137 : decode cX4_advance 137 = .ok (.aload_n 0, 1) := of_decide_eq_true (List.all_eq_true.mp dA_X4_advance_79 (137, .aload_n 0, 1) (List.mem_of_getElem? (i := 28) rfl))
theorem dX4_advance_138 : decode cX4_advance 138 = .ok (.getfield 32, 3) := of_decide_eq_true (List.all_eq_true.mp dA_X4_advance_79 (138, .getfield 32, 3) (List.mem_of_getElem? (i := 29) rfl))
theorem dX4_advance_141 : decode cX4_advance 141 = .ok (.iconst 2, 1) := of_decide_eq_true (List.all_eq_true.mp dA_X4_advance_79 (141, .iconst 2, 1) (List.mem_of_getElem? (i := 30) rfl))
theorem dX4_advance_142 : decode cX4_advance 142 = .ok (.if_icmp .ne 7, 3) := of_decide_eq_true (List.all_eq_true.mp dA_X4_advance_79 (142, .if_icmp .ne 7, 3) (List.mem_of_getElem? (i := 31) rfl))
theorem dX4_advance_145 : decode cX4_advance 145 = .ok (.aload_n 0, 1) := of_decide_eq_true (List.all_eq_true.mp dA_X4_advance_79 (145, .aload_n 0, 1) (List.mem_of_getElem? (i := 32) rfl))
theorem dX4_advance_146 : decode cX4_advance 146 = .ok (.invokevirtual 35, 3) := of_decide_eq_true (List.all_eq_true.mp dA_X4_advance_79 (146, .invokevirtual 35, 3) (List.mem_of_getElem? (i := 33) rfl))
theorem dX4_advance_149 : decode cX4_advance 149 = .ok (.return_, 1) := of_decide_eq_true (List.all_eq_true.mp dA_X4_advance_79 (149, .return_, 1) (List.mem_of_getElem? (i := 34) rfl))
set_option maxRecDepth 20000 in
theorem ggX4_names_J0_length_8abf5 : GoodIn wsX4_names wsJ0_length_8abf5 := goodIn_r _ [8, 9, 10, 11, 12, 7, 13, 14, 15] (by decide +kernel) (by decide +kernel)
set_option maxRecDepth 20000 in
theorem gX4_names_J0_length_8abf5 : GoodIn wsX4_names (wsV RX4 38 RJ0 yJ0_length_8abf5 wsJ0_length_8abf5) := goodIn_app (goodIn_of _ (by decide +kernel)) ggX4_names_J0_length_8abf5
set_option maxRecDepth 20000 in
theorem ggX4_names_X4_at : GoodIn wsX4_names wsX4_at := goodIn_r _ [20, 21, 22, 60, 61, 62, 63, 64, 65] (by decide +kernel) (by decide +kernel)
set_option maxRecDepth 20000 in
theorem gX4_names_X4_at : GoodIn wsX4_names (wsV RX4 22 RX4 yX4_at wsX4_at) := goodIn_app (goodIn_of _ (by decide +kernel)) ggX4_names_X4_at
set_option maxRecDepth 20000 in
theorem ggX4_names_J0_charAt_5068e : GoodIn wsX4_names wsJ0_charAt_5068e := goodIn_r _ [26, 9, 27, 28, 29, 7, 30, 14, 15, 31, 32, 33, 34, 35, 36, 37, 38, 39, 40, 41, 42, 43, 44, 45, 46, 47, 48, 49, 50, 51, 52, 53, 54, 55, 56, 57, 58, 59] (by decide +kernel) (by decide +kernel)
set_option maxRecDepth 20000 in
theorem gX4_names_J0_charAt_5068e : GoodIn wsX4_names (wsV RX4 44 RJ0 yJ0_charAt_5068e wsJ0_charAt_5068e) := goodIn_app (goodIn_of _ (by decide +kernel)) ggX4_names_J0_charAt_5068e
set_option maxRecDepth 20000 in
theorem dA_X4_names_0 : (([(0, .aload_n 0, 1), (1, .getfield 32, 3), (4, .iconst 1, 1), (5, .if_icmp .ne 19, 3), (8, .aload_n 0, 1), (9, .getfield 19, 3), (12, .aload_n 0, 1), (13, .getfield 26, 3), (16, .isub, 1), (17, .aload_n 1, 1), (18, .invokevirtual 38, 3), (21, .if_icmp .eq 5, 3), (24, .iconst 0, 1), (25, .ireturn, 1), (26, .iconst 0, 1), (27, .istore_n 2, 1), (28, .iload_n 2, 1), (29, .aload_n 1, 1), (30, .invokevirtual 38, 3), (33, .if_icmp .ge 29, 3), (36, .aload_n 0, 1), (37, .aload_n 0, 1), (38, .getfield 26, 3), (41, .iload_n 2, 1), (42, .iadd, 1), (43, .invokevirtual 22, 3), (46, .aload_n 1, 1), (47, .iload_n 2, 1), (48, .invokevirtual 44, 3), (51, .if_icmp .eq 5, 3), (54, .iconst 0, 1), (55, .ireturn, 1), (56, .iinc 2 1, 3), (59, .goto (-31), 3), (62, .iconst 1, 1), (63, .ireturn, 1)] : List (Nat × Instr × Nat)).all fun q => decide (decode cX4_names q.1 = .ok (q.2.1, q.2.2))) = true := by decide +kernel
theorem dX4_names_0 : decode cX4_names 0 = .ok (.aload_n 0, 1) := of_decide_eq_true (List.all_eq_true.mp dA_X4_names_0 (0, .aload_n 0, 1) (List.mem_of_getElem? (i := 0) rfl))
theorem dX4_names_1 : decode cX4_names 1 = .ok (.getfield 32, 3) := of_decide_eq_true (List.all_eq_true.mp dA_X4_names_0 (1, .getfield 32, 3) (List.mem_of_getElem? (i := 1) rfl))
theorem dX4_names_4 : decode cX4_names 4 = .ok (.iconst 1, 1) := of_decide_eq_true (List.all_eq_true.mp dA_X4_names_0 (4, .iconst 1, 1) (List.mem_of_getElem? (i := 2) rfl))
theorem dX4_names_5 : decode cX4_names 5 = .ok (.if_icmp .ne 19, 3) := of_decide_eq_true (List.all_eq_true.mp dA_X4_names_0 (5, .if_icmp .ne 19, 3) (List.mem_of_getElem? (i := 3) rfl))
theorem dX4_names_8 : decode cX4_names 8 = .ok (.aload_n 0, 1) := of_decide_eq_true (List.all_eq_true.mp dA_X4_names_0 (8, .aload_n 0, 1) (List.mem_of_getElem? (i := 4) rfl))
theorem dX4_names_9 : decode cX4_names 9 = .ok (.getfield 19, 3) := of_decide_eq_true (List.all_eq_true.mp dA_X4_names_0 (9, .getfield 19, 3) (List.mem_of_getElem? (i := 5) rfl))
theorem dX4_names_12 : decode cX4_names 12 = .ok (.aload_n 0, 1) := of_decide_eq_true (List.all_eq_true.mp dA_X4_names_0 (12, .aload_n 0, 1) (List.mem_of_getElem? (i := 6) rfl))
theorem dX4_names_13 : decode cX4_names 13 = .ok (.getfield 26, 3) := of_decide_eq_true (List.all_eq_true.mp dA_X4_names_0 (13, .getfield 26, 3) (List.mem_of_getElem? (i := 7) rfl))
theorem dX4_names_16 : decode cX4_names 16 = .ok (.isub, 1) := of_decide_eq_true (List.all_eq_true.mp dA_X4_names_0 (16, .isub, 1) (List.mem_of_getElem? (i := 8) rfl))
theorem dX4_names_17 : decode cX4_names 17 = .ok (.aload_n 1, 1) := of_decide_eq_true (List.all_eq_true.mp dA_X4_names_0 (17, .aload_n 1, 1) (List.mem_of_getElem? (i := 9) rfl))
theorem dX4_names_18 : decode cX4_names 18 = .ok (.invokevirtual 38, 3) := of_decide_eq_true (List.all_eq_true.mp dA_X4_names_0 (18, .invokevirtual 38, 3) (List.mem_of_getElem? (i := 10) rfl))
theorem dX4_names_21 : decode cX4_names 21 = .ok (.if_icmp .eq 5, 3) := of_decide_eq_true (List.all_eq_true.mp dA_X4_names_0 (21, .if_icmp .eq 5, 3) (List.mem_of_getElem? (i := 11) rfl))
theorem dX4_names_24 : decode cX4_names 24 = .ok (.iconst 0, 1) := of_decide_eq_true (List.all_eq_true.mp dA_X4_names_0 (24, .iconst 0, 1) (List.mem_of_getElem? (i := 12) rfl))
theorem dX4_names_25 : decode cX4_names 25 = .ok (.ireturn, 1) := of_decide_eq_true (List.all_eq_true.mp dA_X4_names_0 (25, .ireturn, 1) (List.mem_of_getElem? (i := 13) rfl))
theorem dX4_names_26 : decode cX4_names 26 = .ok (.iconst 0, 1) := of_decide_eq_true (List.all_eq_true.mp dA_X4_names_0 (26, .iconst 0, 1) (List.mem_of_getElem? (i := 14) rfl))
theorem dX4_names_27 : decode cX4_names 27 = .ok (.istore_n 2, 1) := of_decide_eq_true (List.all_eq_true.mp dA_X4_names_0 (27, .istore_n 2, 1) (List.mem_of_getElem? (i := 15) rfl))
theorem dX4_names_28 : decode cX4_names 28 = .ok (.iload_n 2, 1) := of_decide_eq_true (List.all_eq_true.mp dA_X4_names_0 (28, .iload_n 2, 1) (List.mem_of_getElem? (i := 16) rfl))
theorem dX4_names_29 : decode cX4_names 29 = .ok (.aload_n 1, 1) := of_decide_eq_true (List.all_eq_true.mp dA_X4_names_0 (29, .aload_n 1, 1) (List.mem_of_getElem? (i := 17) rfl))
theorem dX4_names_30 : decode cX4_names 30 = .ok (.invokevirtual 38, 3) := of_decide_eq_true (List.all_eq_true.mp dA_X4_names_0 (30, .invokevirtual 38, 3) (List.mem_of_getElem? (i := 18) rfl))
theorem dX4_names_33 : decode cX4_names 33 = .ok (.if_icmp .ge 29, 3) := of_decide_eq_true (List.all_eq_true.mp dA_X4_names_0 (33, .if_icmp .ge 29, 3) (List.mem_of_getElem? (i := 19) rfl))
theorem dX4_names_36 : decode cX4_names 36 = .ok (.aload_n 0, 1) := of_decide_eq_true (List.all_eq_true.mp dA_X4_names_0 (36, .aload_n 0, 1) (List.mem_of_getElem? (i := 20) rfl))
theorem dX4_names_37 : decode cX4_names 37 = .ok (.aload_n 0, 1) := of_decide_eq_true (List.all_eq_true.mp dA_X4_names_0 (37, .aload_n 0, 1) (List.mem_of_getElem? (i := 21) rfl))
theorem dX4_names_38 : decode cX4_names 38 = .ok (.getfield 26, 3) := of_decide_eq_true (List.all_eq_true.mp dA_X4_names_0 (38, .getfield 26, 3) (List.mem_of_getElem? (i := 22) rfl))
theorem dX4_names_41 : decode cX4_names 41 = .ok (.iload_n 2, 1) := of_decide_eq_true (List.all_eq_true.mp dA_X4_names_0 (41, .iload_n 2, 1) (List.mem_of_getElem? (i := 23) rfl))
theorem dX4_names_42 : decode cX4_names 42 = .ok (.iadd, 1) := of_decide_eq_true (List.all_eq_true.mp dA_X4_names_0 (42, .iadd, 1) (List.mem_of_getElem? (i := 24) rfl))
theorem dX4_names_43 : decode cX4_names 43 = .ok (.invokevirtual 22, 3) := of_decide_eq_true (List.all_eq_true.mp dA_X4_names_0 (43, .invokevirtual 22, 3) (List.mem_of_getElem? (i := 25) rfl))
theorem dX4_names_46 : decode cX4_names 46 = .ok (.aload_n 1, 1) := of_decide_eq_true (List.all_eq_true.mp dA_X4_names_0 (46, .aload_n 1, 1) (List.mem_of_getElem? (i := 26) rfl))
theorem dX4_names_47 : decode cX4_names 47 = .ok (.iload_n 2, 1) := of_decide_eq_true (List.all_eq_true.mp dA_X4_names_0 (47, .iload_n 2, 1) (List.mem_of_getElem? (i := 27) rfl))
theorem dX4_names_48 : decode cX4_names 48 = .ok (.invokevirtual 44, 3) := of_decide_eq_true (List.all_eq_true.mp dA_X4_names_0 (48, .invokevirtual 44, 3) (List.mem_of_getElem? (i := 28) rfl))
theorem dX4_names_51 : decode cX4_names 51 = .ok (.if_icmp .eq 5, 3) := of_decide_eq_true (List.all_eq_true.mp dA_X4_names_0 (51, .if_icmp .eq 5, 3) (List.mem_of_getElem? (i := 29) rfl))
theorem dX4_names_54 : decode cX4_names 54 = .ok (.iconst 0, 1) := of_decide_eq_true (List.all_eq_true.mp dA_X4_names_0 (54, .iconst 0, 1) (List.mem_of_getElem? (i := 30) rfl))
theorem dX4_names_55 : decode cX4_names 55 = .ok (.ireturn, 1) := of_decide_eq_true (List.all_eq_true.mp dA_X4_names_0 (55, .ireturn, 1) (List.mem_of_getElem? (i := 31) rfl))
theorem dX4_names_56 : decode cX4_names 56 = .ok (.iinc 2 1, 3) := of_decide_eq_true (List.all_eq_true.mp dA_X4_names_0 (56, .iinc 2 1, 3) (List.mem_of_getElem? (i := 32) rfl))
theorem dX4_names_59 : decode cX4_names 59 = .ok (.goto (-31), 3) := of_decide_eq_true (List.all_eq_true.mp dA_X4_names_0 (59, .goto (-31), 3) (List.mem_of_getElem? (i := 33) rfl))
theorem dX4_names_62 : decode cX4_names 62 = .ok (.iconst 1, 1) := of_decide_eq_true (List.all_eq_true.mp dA_X4_names_0 (62, .iconst 1, 1) (List.mem_of_getElem? (i := 34) rfl))
theorem dX4_names_63 : decode cX4_names 63 = .ok (.ireturn, 1) := of_decide_eq_true (List.all_eq_true.mp dA_X4_names_0 (63, .ireturn, 1) (List.mem_of_getElem? (i := 35) rfl))
set_option maxRecDepth 20000 in
theorem ggX4_takeNumber_X4_at : GoodIn wsX4_takeNumber wsX4_at := goodIn_r _ [9, 10, 11, 12, 13, 14, 15, 16, 17] (by decide +kernel) (by decide +kernel)
set_option maxRecDepth 20000 in
theorem gX4_takeNumber_X4_at : GoodIn wsX4_takeNumber (wsV RX4 22 RX4 yX4_at wsX4_at) := goodIn_app (goodIn_of _ (by decide +kernel)) ggX4_takeNumber_X4_at
set_option maxRecDepth 20000 in
theorem dA_X4_takeNumber_0 : (([(0, .aload_n 0, 1), (1, .getfield 19, 3), (4, .aload_n 0, 1), (5, .getfield 26, 3), (8, .isub, 1), (9, .istore_n 1, 1), (10, .iload_n 1, 1), (11, .iconst 2, 1), (12, .if_icmp .le 8, 3), (15, .aload_n 0, 1), (16, .iconst 4, 1), (17, .putfield 32, 3), (20, .aload_n 0, 1), (21, .aload_n 0, 1), (22, .aload_n 0, 1), (23, .getfield 26, 3), (26, .invokevirtual 22, 3), (29, .bipush 48, 2), (31, .isub, 1), (32, .putfield 48, 3), (35, .iload_n 1, 1), (36, .iconst 2, 1), (37, .if_icmp .ne 28, 3), (40, .aload_n 0, 1), (41, .bipush 10, 2), (43, .aload_n 0, 1), (44, .getfield 48, 3), (47, .imul, 1), (48, .aload_n 0, 1), (49, .aload_n 0, 1), (50, .getfield 26, 3), (53, .iconst 1, 1), (54, .iadd, 1), (55, .invokevirtual 22, 3), (58, .iadd, 1), (59, .bipush 48, 2), (61, .isub, 1), (62, .putfield 48, 3), (65, .return_, 1)] : List (Nat × Instr × Nat)).all fun q => decide (decode cX4_takeNumber q.1 = .ok (q.2.1, q.2.2))) = true := by decide +kernel
theorem dX4_takeNumber_0 : decode cX4_takeNumber 0 = .ok (.aload_n 0, 1) := of_decide_eq_true (List.all_eq_true.mp dA_X4_takeNumber_0 (0, .aload_n 0, 1) (List.mem_of_getElem? (i := 0) rfl))
theorem dX4_takeNumber_1 : decode cX4_takeNumber 1 = .ok (.getfield 19, 3) := of_decide_eq_true (List.all_eq_true.mp dA_X4_takeNumber_0 (1, .getfield 19, 3) (List.mem_of_getElem? (i := 1) rfl))
theorem dX4_takeNumber_4 : decode cX4_takeNumber 4 = .ok (.aload_n 0, 1) := of_decide_eq_true (List.all_eq_true.mp dA_X4_takeNumber_0 (4, .aload_n 0, 1) (List.mem_of_getElem? (i := 2) rfl))
theorem dX4_takeNumber_5 : decode cX4_takeNumber 5 = .ok (.getfield 26, 3) := of_decide_eq_true (List.all_eq_true.mp dA_X4_takeNumber_0 (5, .getfield 26, 3) (List.mem_of_getElem? (i := 3) rfl))
theorem dX4_takeNumber_8 : decode cX4_takeNumber 8 = .ok (.isub, 1) := of_decide_eq_true (List.all_eq_true.mp dA_X4_takeNumber_0 (8, .isub, 1) (List.mem_of_getElem? (i := 4) rfl))
theorem dX4_takeNumber_9 : decode cX4_takeNumber 9 = .ok (.istore_n 1, 1) := of_decide_eq_true (List.all_eq_true.mp dA_X4_takeNumber_0 (9, .istore_n 1, 1) (List.mem_of_getElem? (i := 5) rfl))
theorem dX4_takeNumber_10 : decode cX4_takeNumber 10 = .ok (.iload_n 1, 1) := of_decide_eq_true (List.all_eq_true.mp dA_X4_takeNumber_0 (10, .iload_n 1, 1) (List.mem_of_getElem? (i := 6) rfl))
theorem dX4_takeNumber_11 : decode cX4_takeNumber 11 = .ok (.iconst 2, 1) := of_decide_eq_true (List.all_eq_true.mp dA_X4_takeNumber_0 (11, .iconst 2, 1) (List.mem_of_getElem? (i := 7) rfl))
theorem dX4_takeNumber_12 : decode cX4_takeNumber 12 = .ok (.if_icmp .le 8, 3) := of_decide_eq_true (List.all_eq_true.mp dA_X4_takeNumber_0 (12, .if_icmp .le 8, 3) (List.mem_of_getElem? (i := 8) rfl))
theorem dX4_takeNumber_15 : decode cX4_takeNumber 15 = .ok (.aload_n 0, 1) := of_decide_eq_true (List.all_eq_true.mp dA_X4_takeNumber_0 (15, .aload_n 0, 1) (List.mem_of_getElem? (i := 9) rfl))
theorem dX4_takeNumber_16 : decode cX4_takeNumber 16 = .ok (.iconst 4, 1) := of_decide_eq_true (List.all_eq_true.mp dA_X4_takeNumber_0 (16, .iconst 4, 1) (List.mem_of_getElem? (i := 10) rfl))
theorem dX4_takeNumber_17 : decode cX4_takeNumber 17 = .ok (.putfield 32, 3) := of_decide_eq_true (List.all_eq_true.mp dA_X4_takeNumber_0 (17, .putfield 32, 3) (List.mem_of_getElem? (i := 11) rfl))
theorem dX4_takeNumber_20 : decode cX4_takeNumber 20 = .ok (.aload_n 0, 1) := of_decide_eq_true (List.all_eq_true.mp dA_X4_takeNumber_0 (20, .aload_n 0, 1) (List.mem_of_getElem? (i := 12) rfl))
theorem dX4_takeNumber_21 : decode cX4_takeNumber 21 = .ok (.aload_n 0, 1) := of_decide_eq_true (List.all_eq_true.mp dA_X4_takeNumber_0 (21, .aload_n 0, 1) (List.mem_of_getElem? (i := 13) rfl))
theorem dX4_takeNumber_22 : decode cX4_takeNumber 22 = .ok (.aload_n 0, 1) := of_decide_eq_true (List.all_eq_true.mp dA_X4_takeNumber_0 (22, .aload_n 0, 1) (List.mem_of_getElem? (i := 14) rfl))
theorem dX4_takeNumber_23 : decode cX4_takeNumber 23 = .ok (.getfield 26, 3) := of_decide_eq_true (List.all_eq_true.mp dA_X4_takeNumber_0 (23, .getfield 26, 3) (List.mem_of_getElem? (i := 15) rfl))
theorem dX4_takeNumber_26 : decode cX4_takeNumber 26 = .ok (.invokevirtual 22, 3) := of_decide_eq_true (List.all_eq_true.mp dA_X4_takeNumber_0 (26, .invokevirtual 22, 3) (List.mem_of_getElem? (i := 16) rfl))
theorem dX4_takeNumber_29 : decode cX4_takeNumber 29 = .ok (.bipush 48, 2) := of_decide_eq_true (List.all_eq_true.mp dA_X4_takeNumber_0 (29, .bipush 48, 2) (List.mem_of_getElem? (i := 17) rfl))
theorem dX4_takeNumber_31 : decode cX4_takeNumber 31 = .ok (.isub, 1) := of_decide_eq_true (List.all_eq_true.mp dA_X4_takeNumber_0 (31, .isub, 1) (List.mem_of_getElem? (i := 18) rfl))
theorem dX4_takeNumber_32 : decode cX4_takeNumber 32 = .ok (.putfield 48, 3) := of_decide_eq_true (List.all_eq_true.mp dA_X4_takeNumber_0 (32, .putfield 48, 3) (List.mem_of_getElem? (i := 19) rfl))
theorem dX4_takeNumber_35 : decode cX4_takeNumber 35 = .ok (.iload_n 1, 1) := of_decide_eq_true (List.all_eq_true.mp dA_X4_takeNumber_0 (35, .iload_n 1, 1) (List.mem_of_getElem? (i := 20) rfl))
theorem dX4_takeNumber_36 : decode cX4_takeNumber 36 = .ok (.iconst 2, 1) := of_decide_eq_true (List.all_eq_true.mp dA_X4_takeNumber_0 (36, .iconst 2, 1) (List.mem_of_getElem? (i := 21) rfl))
theorem dX4_takeNumber_37 : decode cX4_takeNumber 37 = .ok (.if_icmp .ne 28, 3) := of_decide_eq_true (List.all_eq_true.mp dA_X4_takeNumber_0 (37, .if_icmp .ne 28, 3) (List.mem_of_getElem? (i := 22) rfl))
theorem dX4_takeNumber_40 : decode cX4_takeNumber 40 = .ok (.aload_n 0, 1) := of_decide_eq_true (List.all_eq_true.mp dA_X4_takeNumber_0 (40, .aload_n 0, 1) (List.mem_of_getElem? (i := 23) rfl))
theorem dX4_takeNumber_41 : decode cX4_takeNumber 41 = .ok (.bipush 10, 2) := of_decide_eq_true (List.all_eq_true.mp dA_X4_takeNumber_0 (41, .bipush 10, 2) (List.mem_of_getElem? (i := 24) rfl))
theorem dX4_takeNumber_43 : decode cX4_takeNumber 43 = .ok (.aload_n 0, 1) := of_decide_eq_true (List.all_eq_true.mp dA_X4_takeNumber_0 (43, .aload_n 0, 1) (List.mem_of_getElem? (i := 25) rfl))
theorem dX4_takeNumber_44 : decode cX4_takeNumber 44 = .ok (.getfield 48, 3) := of_decide_eq_true (List.all_eq_true.mp dA_X4_takeNumber_0 (44, .getfield 48, 3) (List.mem_of_getElem? (i := 26) rfl))
theorem dX4_takeNumber_47 : decode cX4_takeNumber 47 = .ok (.imul, 1) := of_decide_eq_true (List.all_eq_true.mp dA_X4_takeNumber_0 (47, .imul, 1) (List.mem_of_getElem? (i := 27) rfl))
theorem dX4_takeNumber_48 : decode cX4_takeNumber 48 = .ok (.aload_n 0, 1) := of_decide_eq_true (List.all_eq_true.mp dA_X4_takeNumber_0 (48, .aload_n 0, 1) (List.mem_of_getElem? (i := 28) rfl))
theorem dX4_takeNumber_49 : decode cX4_takeNumber 49 = .ok (.aload_n 0, 1) := of_decide_eq_true (List.all_eq_true.mp dA_X4_takeNumber_0 (49, .aload_n 0, 1) (List.mem_of_getElem? (i := 29) rfl))
theorem dX4_takeNumber_50 : decode cX4_takeNumber 50 = .ok (.getfield 26, 3) := of_decide_eq_true (List.all_eq_true.mp dA_X4_takeNumber_0 (50, .getfield 26, 3) (List.mem_of_getElem? (i := 30) rfl))
theorem dX4_takeNumber_53 : decode cX4_takeNumber 53 = .ok (.iconst 1, 1) := of_decide_eq_true (List.all_eq_true.mp dA_X4_takeNumber_0 (53, .iconst 1, 1) (List.mem_of_getElem? (i := 31) rfl))
theorem dX4_takeNumber_54 : decode cX4_takeNumber 54 = .ok (.iadd, 1) := of_decide_eq_true (List.all_eq_true.mp dA_X4_takeNumber_0 (54, .iadd, 1) (List.mem_of_getElem? (i := 32) rfl))
theorem dX4_takeNumber_55 : decode cX4_takeNumber 55 = .ok (.invokevirtual 22, 3) := of_decide_eq_true (List.all_eq_true.mp dA_X4_takeNumber_0 (55, .invokevirtual 22, 3) (List.mem_of_getElem? (i := 33) rfl))
theorem dX4_takeNumber_58 : decode cX4_takeNumber 58 = .ok (.iadd, 1) := of_decide_eq_true (List.all_eq_true.mp dA_X4_takeNumber_0 (58, .iadd, 1) (List.mem_of_getElem? (i := 34) rfl))
theorem dX4_takeNumber_59 : decode cX4_takeNumber 59 = .ok (.bipush 48, 2) := of_decide_eq_true (List.all_eq_true.mp dA_X4_takeNumber_0 (59, .bipush 48, 2) (List.mem_of_getElem? (i := 35) rfl))
theorem dX4_takeNumber_61 : decode cX4_takeNumber 61 = .ok (.isub, 1) := of_decide_eq_true (List.all_eq_true.mp dA_X4_takeNumber_0 (61, .isub, 1) (List.mem_of_getElem? (i := 36) rfl))
theorem dX4_takeNumber_62 : decode cX4_takeNumber 62 = .ok (.putfield 48, 3) := of_decide_eq_true (List.all_eq_true.mp dA_X4_takeNumber_0 (62, .putfield 48, 3) (List.mem_of_getElem? (i := 37) rfl))
theorem dX4_takeNumber_65 : decode cX4_takeNumber 65 = .ok (.return_, 1) := of_decide_eq_true (List.all_eq_true.mp dA_X4_takeNumber_0 (65, .return_, 1) (List.mem_of_getElem? (i := 38) rfl))
set_option maxRecDepth 20000 in
theorem dA_X4_at_0 : (([(0, .iload_n 1, 1), (1, .ifCond .lt 27, 3), (4, .iload_n 1, 1), (5, .aload_n 0, 1), (6, .getfield 15, 3), (9, .if_icmp .ge 19, 3), (12, .iload_n 1, 1), (13, .sipush 150, 3), (16, .if_icmp .ge 12, 3), (19, .aload_n 0, 1), (20, .getfield 9, 3), (23, .iload_n 1, 1), (24, .baload, 1), (25, .goto 4, 3), (28, .iconst (-1), 1), (29, .ireturn, 1)] : List (Nat × Instr × Nat)).all fun q => decide (decode cX4_at q.1 = .ok (q.2.1, q.2.2))) = true := by decide +kernel
theorem dX4_at_0 : decode cX4_at 0 = .ok (.iload_n 1, 1) := of_decide_eq_true (List.all_eq_true.mp dA_X4_at_0 (0, .iload_n 1, 1) (List.mem_of_getElem? (i := 0) rfl))
theorem dX4_at_1 : decode cX4_at 1 = .ok (.ifCond .lt 27, 3) := of_decide_eq_true (List.all_eq_true.mp dA_X4_at_0 (1, .ifCond .lt 27, 3) (List.mem_of_getElem? (i := 1) rfl))
theorem dX4_at_4 : decode cX4_at 4 = .ok (.iload_n 1, 1) := of_decide_eq_true (List.all_eq_true.mp dA_X4_at_0 (4, .iload_n 1, 1) (List.mem_of_getElem? (i := 2) rfl))
theorem dX4_at_5 : decode cX4_at 5 = .ok (.aload_n 0, 1) := of_decide_eq_true (List.all_eq_true.mp dA_X4_at_0 (5, .aload_n 0, 1) (List.mem_of_getElem? (i := 3) rfl))
theorem dX4_at_6 : decode cX4_at 6 = .ok (.getfield 15, 3) := of_decide_eq_true (List.all_eq_true.mp dA_X4_at_0 (6, .getfield 15, 3) (List.mem_of_getElem? (i := 4) rfl))
theorem dX4_at_9 : decode cX4_at 9 = .ok (.if_icmp .ge 19, 3) := of_decide_eq_true (List.all_eq_true.mp dA_X4_at_0 (9, .if_icmp .ge 19, 3) (List.mem_of_getElem? (i := 5) rfl))
theorem dX4_at_12 : decode cX4_at 12 = .ok (.iload_n 1, 1) := of_decide_eq_true (List.all_eq_true.mp dA_X4_at_0 (12, .iload_n 1, 1) (List.mem_of_getElem? (i := 6) rfl))
theorem dX4_at_13 : decode cX4_at 13 = .ok (.sipush 150, 3) := of_decide_eq_true (List.all_eq_true.mp dA_X4_at_0 (13, .sipush 150, 3) (List.mem_of_getElem? (i := 7) rfl))
theorem dX4_at_16 : decode cX4_at 16 = .ok (.if_icmp .ge 12, 3) := of_decide_eq_true (List.all_eq_true.mp dA_X4_at_0 (16, .if_icmp .ge 12, 3) (List.mem_of_getElem? (i := 8) rfl))
theorem dX4_at_19 : decode cX4_at 19 = .ok (.aload_n 0, 1) := of_decide_eq_true (List.all_eq_true.mp dA_X4_at_0 (19, .aload_n 0, 1) (List.mem_of_getElem? (i := 9) rfl))
theorem dX4_at_20 : decode cX4_at 20 = .ok (.getfield 9, 3) := of_decide_eq_true (List.all_eq_true.mp dA_X4_at_0 (20, .getfield 9, 3) (List.mem_of_getElem? (i := 10) rfl))
theorem dX4_at_23 : decode cX4_at 23 = .ok (.iload_n 1, 1) := of_decide_eq_true (List.all_eq_true.mp dA_X4_at_0 (23, .iload_n 1, 1) (List.mem_of_getElem? (i := 11) rfl))
theorem dX4_at_24 : decode cX4_at 24 = .ok (.baload, 1) := of_decide_eq_true (List.all_eq_true.mp dA_X4_at_0 (24, .baload, 1) (List.mem_of_getElem? (i := 12) rfl))
theorem dX4_at_25 : decode cX4_at 25 = .ok (.goto 4, 3) := of_decide_eq_true (List.all_eq_true.mp dA_X4_at_0 (25, .goto 4, 3) (List.mem_of_getElem? (i := 13) rfl))
theorem dX4_at_28 : decode cX4_at 28 = .ok (.iconst (-1), 1) := of_decide_eq_true (List.all_eq_true.mp dA_X4_at_0 (28, .iconst (-1), 1) (List.mem_of_getElem? (i := 14) rfl))
theorem dX4_at_29 : decode cX4_at 29 = .ok (.ireturn, 1) := of_decide_eq_true (List.all_eq_true.mp dA_X4_at_0 (29, .ireturn, 1) (List.mem_of_getElem? (i := 15) rfl))
set_option maxRecDepth 20000 in
theorem dA_X4_sort_0 : (([(0, .iload_n 0, 1), (1, .iconst (-1), 1), (2, .if_icmp .ne 5, 3), (5, .iconst 0, 1), (6, .ireturn, 1), (7, .iload_n 0, 1), (8, .bipush 97, 2), (10, .if_icmp .lt 11, 3), (13, .iload_n 0, 1), (14, .bipush 122, 2), (16, .if_icmp .gt 5, 3), (19, .iconst 1, 1), (20, .ireturn, 1), (21, .iload_n 0, 1), (22, .bipush 48, 2), (24, .if_icmp .lt 11, 3), (27, .iload_n 0, 1), (28, .bipush 57, 2), (30, .if_icmp .gt 5, 3), (33, .iconst 2, 1), (34, .ireturn, 1), (35, .iload_n 0, 1), (36, .bipush 59, 2), (38, .if_icmp .ne 7, 3), (41, .iconst 3, 1), (42, .goto 4, 3), (45, .iconst 4, 1), (46, .ireturn, 1)] : List (Nat × Instr × Nat)).all fun q => decide (decode cX4_sort q.1 = .ok (q.2.1, q.2.2))) = true := by decide +kernel
theorem dX4_sort_0 : decode cX4_sort 0 = .ok (.iload_n 0, 1) := of_decide_eq_true (List.all_eq_true.mp dA_X4_sort_0 (0, .iload_n 0, 1) (List.mem_of_getElem? (i := 0) rfl))
theorem dX4_sort_1 : decode cX4_sort 1 = .ok (.iconst (-1), 1) := of_decide_eq_true (List.all_eq_true.mp dA_X4_sort_0 (1, .iconst (-1), 1) (List.mem_of_getElem? (i := 1) rfl))
theorem dX4_sort_2 : decode cX4_sort 2 = .ok (.if_icmp .ne 5, 3) := of_decide_eq_true (List.all_eq_true.mp dA_X4_sort_0 (2, .if_icmp .ne 5, 3) (List.mem_of_getElem? (i := 2) rfl))
theorem dX4_sort_5 : decode cX4_sort 5 = .ok (.iconst 0, 1) := of_decide_eq_true (List.all_eq_true.mp dA_X4_sort_0 (5, .iconst 0, 1) (List.mem_of_getElem? (i := 3) rfl))
theorem dX4_sort_6 : decode cX4_sort 6 = .ok (.ireturn, 1) := of_decide_eq_true (List.all_eq_true.mp dA_X4_sort_0 (6, .ireturn, 1) (List.mem_of_getElem? (i := 4) rfl))
theorem dX4_sort_7 : decode cX4_sort 7 = .ok (.iload_n 0, 1) := of_decide_eq_true (List.all_eq_true.mp dA_X4_sort_0 (7, .iload_n 0, 1) (List.mem_of_getElem? (i := 5) rfl))
theorem dX4_sort_8 : decode cX4_sort 8 = .ok (.bipush 97, 2) := of_decide_eq_true (List.all_eq_true.mp dA_X4_sort_0 (8, .bipush 97, 2) (List.mem_of_getElem? (i := 6) rfl))
theorem dX4_sort_10 : decode cX4_sort 10 = .ok (.if_icmp .lt 11, 3) := of_decide_eq_true (List.all_eq_true.mp dA_X4_sort_0 (10, .if_icmp .lt 11, 3) (List.mem_of_getElem? (i := 7) rfl))
theorem dX4_sort_13 : decode cX4_sort 13 = .ok (.iload_n 0, 1) := of_decide_eq_true (List.all_eq_true.mp dA_X4_sort_0 (13, .iload_n 0, 1) (List.mem_of_getElem? (i := 8) rfl))
theorem dX4_sort_14 : decode cX4_sort 14 = .ok (.bipush 122, 2) := of_decide_eq_true (List.all_eq_true.mp dA_X4_sort_0 (14, .bipush 122, 2) (List.mem_of_getElem? (i := 9) rfl))
theorem dX4_sort_16 : decode cX4_sort 16 = .ok (.if_icmp .gt 5, 3) := of_decide_eq_true (List.all_eq_true.mp dA_X4_sort_0 (16, .if_icmp .gt 5, 3) (List.mem_of_getElem? (i := 10) rfl))
theorem dX4_sort_19 : decode cX4_sort 19 = .ok (.iconst 1, 1) := of_decide_eq_true (List.all_eq_true.mp dA_X4_sort_0 (19, .iconst 1, 1) (List.mem_of_getElem? (i := 11) rfl))
theorem dX4_sort_20 : decode cX4_sort 20 = .ok (.ireturn, 1) := of_decide_eq_true (List.all_eq_true.mp dA_X4_sort_0 (20, .ireturn, 1) (List.mem_of_getElem? (i := 12) rfl))
theorem dX4_sort_21 : decode cX4_sort 21 = .ok (.iload_n 0, 1) := of_decide_eq_true (List.all_eq_true.mp dA_X4_sort_0 (21, .iload_n 0, 1) (List.mem_of_getElem? (i := 13) rfl))
theorem dX4_sort_22 : decode cX4_sort 22 = .ok (.bipush 48, 2) := of_decide_eq_true (List.all_eq_true.mp dA_X4_sort_0 (22, .bipush 48, 2) (List.mem_of_getElem? (i := 14) rfl))
theorem dX4_sort_24 : decode cX4_sort 24 = .ok (.if_icmp .lt 11, 3) := of_decide_eq_true (List.all_eq_true.mp dA_X4_sort_0 (24, .if_icmp .lt 11, 3) (List.mem_of_getElem? (i := 15) rfl))
theorem dX4_sort_27 : decode cX4_sort 27 = .ok (.iload_n 0, 1) := of_decide_eq_true (List.all_eq_true.mp dA_X4_sort_0 (27, .iload_n 0, 1) (List.mem_of_getElem? (i := 16) rfl))
theorem dX4_sort_28 : decode cX4_sort 28 = .ok (.bipush 57, 2) := of_decide_eq_true (List.all_eq_true.mp dA_X4_sort_0 (28, .bipush 57, 2) (List.mem_of_getElem? (i := 17) rfl))
theorem dX4_sort_30 : decode cX4_sort 30 = .ok (.if_icmp .gt 5, 3) := of_decide_eq_true (List.all_eq_true.mp dA_X4_sort_0 (30, .if_icmp .gt 5, 3) (List.mem_of_getElem? (i := 18) rfl))
theorem dX4_sort_33 : decode cX4_sort 33 = .ok (.iconst 2, 1) := of_decide_eq_true (List.all_eq_true.mp dA_X4_sort_0 (33, .iconst 2, 1) (List.mem_of_getElem? (i := 19) rfl))
theorem dX4_sort_34 : decode cX4_sort 34 = .ok (.ireturn, 1) := of_decide_eq_true (List.all_eq_true.mp dA_X4_sort_0 (34, .ireturn, 1) (List.mem_of_getElem? (i := 20) rfl))
theorem dX4_sort_35 : decode cX4_sort 35 = .ok (.iload_n 0, 1) := of_decide_eq_true (List.all_eq_true.mp dA_X4_sort_0 (35, .iload_n 0, 1) (List.mem_of_getElem? (i := 21) rfl))
theorem dX4_sort_36 : decode cX4_sort 36 = .ok (.bipush 59, 2) := of_decide_eq_true (List.all_eq_true.mp dA_X4_sort_0 (36, .bipush 59, 2) (List.mem_of_getElem? (i := 22) rfl))
theorem dX4_sort_38 : decode cX4_sort 38 = .ok (.if_icmp .ne 7, 3) := of_decide_eq_true (List.all_eq_true.mp dA_X4_sort_0 (38, .if_icmp .ne 7, 3) (List.mem_of_getElem? (i := 23) rfl))
theorem dX4_sort_41 : decode cX4_sort 41 = .ok (.iconst 3, 1) := of_decide_eq_true (List.all_eq_true.mp dA_X4_sort_0 (41, .iconst 3, 1) (List.mem_of_getElem? (i := 24) rfl))
theorem dX4_sort_42 : decode cX4_sort 42 = .ok (.goto 4, 3) := of_decide_eq_true (List.all_eq_true.mp dA_X4_sort_0 (42, .goto 4, 3) (List.mem_of_getElem? (i := 25) rfl))
theorem dX4_sort_45 : decode cX4_sort 45 = .ok (.iconst 4, 1) := of_decide_eq_true (List.all_eq_true.mp dA_X4_sort_0 (45, .iconst 4, 1) (List.mem_of_getElem? (i := 26) rfl))
theorem dX4_sort_46 : decode cX4_sort 46 = .ok (.ireturn, 1) := of_decide_eq_true (List.all_eq_true.mp dA_X4_sort_0 (46, .ireturn, 1) (List.mem_of_getElem? (i := 27) rfl))
set_option maxRecDepth 20000 in
theorem dA_X5_init_0 : (([(0, .aload_n 0, 1), (1, .invokespecial 3, 3), (4, .aload_n 0, 1), (5, .iload_n 1, 1), (6, .iconst 0, 1), (7, .invokestatic 9, 3), (10, .putfield 15, 3), (13, .aload_n 0, 1), (14, .iload_n 2, 1), (15, .iconst 0, 1), (16, .invokestatic 9, 3), (19, .putfield 21, 3), (22, .aload_n 0, 1), (23, .aload_n 0, 1), (24, .getfield 15, 3), (27, .aload_n 0, 1), (28, .getfield 21, 3), (31, .imul, 1), (32, .newarray .int, 2), (34, .putfield 24, 3), (37, .return_, 1)] : List (Nat × Instr × Nat)).all fun q => decide (decode cX5_init q.1 = .ok (q.2.1, q.2.2))) = true := by decide +kernel
theorem dX5_init_0 : decode cX5_init 0 = .ok (.aload_n 0, 1) := of_decide_eq_true (List.all_eq_true.mp dA_X5_init_0 (0, .aload_n 0, 1) (List.mem_of_getElem? (i := 0) rfl))
theorem dX5_init_1 : decode cX5_init 1 = .ok (.invokespecial 3, 3) := of_decide_eq_true (List.all_eq_true.mp dA_X5_init_0 (1, .invokespecial 3, 3) (List.mem_of_getElem? (i := 1) rfl))
theorem dX5_init_4 : decode cX5_init 4 = .ok (.aload_n 0, 1) := of_decide_eq_true (List.all_eq_true.mp dA_X5_init_0 (4, .aload_n 0, 1) (List.mem_of_getElem? (i := 2) rfl))
theorem dX5_init_5 : decode cX5_init 5 = .ok (.iload_n 1, 1) := of_decide_eq_true (List.all_eq_true.mp dA_X5_init_0 (5, .iload_n 1, 1) (List.mem_of_getElem? (i := 3) rfl))
theorem dX5_init_6 : decode cX5_init 6 = .ok (.iconst 0, 1) := of_decide_eq_true (List.all_eq_true.mp dA_X5_init_0 (6, .iconst 0, 1) (List.mem_of_getElem? (i := 4) rfl))
theorem dX5_init_7 : decode cX5_init 7 = .ok (.invokestatic 9, 3) := of_decide_eq_true (List.all_eq_true.mp dA_X5_init_0 (7, .invokestatic 9, 3) (List.mem_of_getElem? (i := 5) rfl))
theorem dX5_init_10 : decode cX5_init 10 = .ok (.putfield 15, 3) := of_decide_eq_true (List.all_eq_true.mp dA_X5_init_0 (10, .putfield 15, 3) (List.mem_of_getElem? (i := 6) rfl))
theorem dX5_init_13 : decode cX5_init 13 = .ok (.aload_n 0, 1) := of_decide_eq_true (List.all_eq_true.mp dA_X5_init_0 (13, .aload_n 0, 1) (List.mem_of_getElem? (i := 7) rfl))
theorem dX5_init_14 : decode cX5_init 14 = .ok (.iload_n 2, 1) := of_decide_eq_true (List.all_eq_true.mp dA_X5_init_0 (14, .iload_n 2, 1) (List.mem_of_getElem? (i := 8) rfl))
theorem dX5_init_15 : decode cX5_init 15 = .ok (.iconst 0, 1) := of_decide_eq_true (List.all_eq_true.mp dA_X5_init_0 (15, .iconst 0, 1) (List.mem_of_getElem? (i := 9) rfl))
theorem dX5_init_16 : decode cX5_init 16 = .ok (.invokestatic 9, 3) := of_decide_eq_true (List.all_eq_true.mp dA_X5_init_0 (16, .invokestatic 9, 3) (List.mem_of_getElem? (i := 10) rfl))
theorem dX5_init_19 : decode cX5_init 19 = .ok (.putfield 21, 3) := of_decide_eq_true (List.all_eq_true.mp dA_X5_init_0 (19, .putfield 21, 3) (List.mem_of_getElem? (i := 11) rfl))
theorem dX5_init_22 : decode cX5_init 22 = .ok (.aload_n 0, 1) := of_decide_eq_true (List.all_eq_true.mp dA_X5_init_0 (22, .aload_n 0, 1) (List.mem_of_getElem? (i := 12) rfl))
theorem dX5_init_23 : decode cX5_init 23 = .ok (.aload_n 0, 1) := of_decide_eq_true (List.all_eq_true.mp dA_X5_init_0 (23, .aload_n 0, 1) (List.mem_of_getElem? (i := 13) rfl))
theorem dX5_init_24 : decode cX5_init 24 = .ok (.getfield 15, 3) := of_decide_eq_true (List.all_eq_true.mp dA_X5_init_0 (24, .getfield 15, 3) (List.mem_of_getElem? (i := 14) rfl))
theorem dX5_init_27 : decode cX5_init 27 = .ok (.aload_n 0, 1) := of_decide_eq_true (List.all_eq_true.mp dA_X5_init_0 (27, .aload_n 0, 1) (List.mem_of_getElem? (i := 15) rfl))
theorem dX5_init_28 : decode cX5_init 28 = .ok (.getfield 21, 3) := of_decide_eq_true (List.all_eq_true.mp dA_X5_init_0 (28, .getfield 21, 3) (List.mem_of_getElem? (i := 16) rfl))
theorem dX5_init_31 : decode cX5_init 31 = .ok (.imul, 1) := of_decide_eq_true (List.all_eq_true.mp dA_X5_init_0 (31, .imul, 1) (List.mem_of_getElem? (i := 17) rfl))
theorem dX5_init_32 : decode cX5_init 32 = .ok (.newarray .int, 2) := of_decide_eq_true (List.all_eq_true.mp dA_X5_init_0 (32, .newarray .int, 2) (List.mem_of_getElem? (i := 18) rfl))
theorem dX5_init_34 : decode cX5_init 34 = .ok (.putfield 24, 3) := of_decide_eq_true (List.all_eq_true.mp dA_X5_init_0 (34, .putfield 24, 3) (List.mem_of_getElem? (i := 19) rfl))
theorem dX5_init_37 : decode cX5_init 37 = .ok (.return_, 1) := of_decide_eq_true (List.all_eq_true.mp dA_X5_init_0 (37, .return_, 1) (List.mem_of_getElem? (i := 20) rfl))
set_option maxRecDepth 20000 in
theorem dA_X5_isFull_0 : (([(0, .aload_n 0, 1), (1, .getfield 28, 3), (4, .aload_n 0, 1), (5, .getfield 21, 3), (8, .if_icmp .lt 7, 3), (11, .iconst 1, 1), (12, .goto 4, 3), (15, .iconst 0, 1), (16, .ireturn, 1)] : List (Nat × Instr × Nat)).all fun q => decide (decode cX5_isFull q.1 = .ok (q.2.1, q.2.2))) = true := by decide +kernel
theorem dX5_isFull_0 : decode cX5_isFull 0 = .ok (.aload_n 0, 1) := of_decide_eq_true (List.all_eq_true.mp dA_X5_isFull_0 (0, .aload_n 0, 1) (List.mem_of_getElem? (i := 0) rfl))
theorem dX5_isFull_1 : decode cX5_isFull 1 = .ok (.getfield 28, 3) := of_decide_eq_true (List.all_eq_true.mp dA_X5_isFull_0 (1, .getfield 28, 3) (List.mem_of_getElem? (i := 1) rfl))
theorem dX5_isFull_4 : decode cX5_isFull 4 = .ok (.aload_n 0, 1) := of_decide_eq_true (List.all_eq_true.mp dA_X5_isFull_0 (4, .aload_n 0, 1) (List.mem_of_getElem? (i := 2) rfl))
theorem dX5_isFull_5 : decode cX5_isFull 5 = .ok (.getfield 21, 3) := of_decide_eq_true (List.all_eq_true.mp dA_X5_isFull_0 (5, .getfield 21, 3) (List.mem_of_getElem? (i := 3) rfl))
theorem dX5_isFull_8 : decode cX5_isFull 8 = .ok (.if_icmp .lt 7, 3) := of_decide_eq_true (List.all_eq_true.mp dA_X5_isFull_0 (8, .if_icmp .lt 7, 3) (List.mem_of_getElem? (i := 4) rfl))
theorem dX5_isFull_11 : decode cX5_isFull 11 = .ok (.iconst 1, 1) := of_decide_eq_true (List.all_eq_true.mp dA_X5_isFull_0 (11, .iconst 1, 1) (List.mem_of_getElem? (i := 5) rfl))
theorem dX5_isFull_12 : decode cX5_isFull 12 = .ok (.goto 4, 3) := of_decide_eq_true (List.all_eq_true.mp dA_X5_isFull_0 (12, .goto 4, 3) (List.mem_of_getElem? (i := 6) rfl))
theorem dX5_isFull_15 : decode cX5_isFull 15 = .ok (.iconst 0, 1) := of_decide_eq_true (List.all_eq_true.mp dA_X5_isFull_0 (15, .iconst 0, 1) (List.mem_of_getElem? (i := 7) rfl))
theorem dX5_isFull_16 : decode cX5_isFull 16 = .ok (.ireturn, 1) := of_decide_eq_true (List.all_eq_true.mp dA_X5_isFull_0 (16, .ireturn, 1) (List.mem_of_getElem? (i := 8) rfl))
set_option maxRecDepth 20000 in
theorem dA_X5_empty_0 : (([(0, .aload_n 0, 1), (1, .iconst 0, 1), (2, .putfield 28, 3), (5, .return_, 1)] : List (Nat × Instr × Nat)).all fun q => decide (decode cX5_empty q.1 = .ok (q.2.1, q.2.2))) = true := by decide +kernel
theorem dX5_empty_0 : decode cX5_empty 0 = .ok (.aload_n 0, 1) := of_decide_eq_true (List.all_eq_true.mp dA_X5_empty_0 (0, .aload_n 0, 1) (List.mem_of_getElem? (i := 0) rfl))
theorem dX5_empty_1 : decode cX5_empty 1 = .ok (.iconst 0, 1) := of_decide_eq_true (List.all_eq_true.mp dA_X5_empty_0 (1, .iconst 0, 1) (List.mem_of_getElem? (i := 1) rfl))
theorem dX5_empty_2 : decode cX5_empty 2 = .ok (.putfield 28, 3) := of_decide_eq_true (List.all_eq_true.mp dA_X5_empty_0 (2, .putfield 28, 3) (List.mem_of_getElem? (i := 2) rfl))
theorem dX5_empty_5 : decode cX5_empty 5 = .ok (.return_, 1) := of_decide_eq_true (List.all_eq_true.mp dA_X5_empty_0 (5, .return_, 1) (List.mem_of_getElem? (i := 3) rfl))
set_option maxRecDepth 20000 in
theorem ggX5_append_X5_isFull : GoodIn wsX5_append wsX5_isFull := goodIn_r _ [7, 1, 8, 14, 15, 16, 17] (by decide +kernel) (by decide +kernel)
set_option maxRecDepth 20000 in
theorem gX5_append_X5_isFull : GoodIn wsX5_append (wsV RX5 31 RX5 yX5_isFull wsX5_isFull) := goodIn_app (goodIn_of _ (by decide +kernel)) ggX5_append_X5_isFull
set_option maxRecDepth 20000 in
theorem ggX5_append_X5_put : GoodIn wsX5_append wsX5_put := goodIn_r _ [12, 1, 2, 13, 14, 15, 16, 17] (by decide +kernel) (by decide +kernel)
set_option maxRecDepth 20000 in
theorem gX5_append_X5_put : GoodIn wsX5_append (wsV RX5 35 RX5 yX5_put wsX5_put) := goodIn_app (goodIn_of _ (by decide +kernel)) ggX5_append_X5_put
set_option maxRecDepth 20000 in
theorem dA_X5_append_0 : (([(0, .aload_n 0, 1), (1, .invokevirtual 31, 3), (4, .ifCond .eq 5, 3), (7, .iconst (-1), 1), (8, .ireturn, 1), (9, .aload_n 0, 1), (10, .getfield 28, 3), (13, .istore_n 1, 1), (14, .aload_n 0, 1), (15, .dup, 1), (16, .getfield 28, 3), (19, .iconst 1, 1), (20, .iadd, 1), (21, .putfield 28, 3), (24, .iconst 0, 1), (25, .istore_n 2, 1), (26, .iload_n 2, 1), (27, .aload_n 0, 1), (28, .getfield 15, 3), (31, .if_icmp .ge 16, 3), (34, .aload_n 0, 1), (35, .iload_n 1, 1), (36, .iload_n 2, 1), (37, .iconst 0, 1), (38, .invokevirtual 35, 3), (41, .iinc 2 1, 3), (44, .goto (-18), 3), (47, .iload_n 1, 1), (48, .ireturn, 1)] : List (Nat × Instr × Nat)).all fun q => decide (decode cX5_append q.1 = .ok (q.2.1, q.2.2))) = true := by decide +kernel
theorem dX5_append_0 : decode cX5_append 0 = .ok (.aload_n 0, 1) := of_decide_eq_true (List.all_eq_true.mp dA_X5_append_0 (0, .aload_n 0, 1) (List.mem_of_getElem? (i := 0) rfl))
theorem dX5_append_1 : decode cX5_append 1 = .ok (.invokevirtual 31, 3) := of_decide_eq_true (List.all_eq_true.mp dA_X5_append_0 (1, .invokevirtual 31, 3) (List.mem_of_getElem? (i := 1) rfl))
theorem dX5_append_4 : decode cX5_append 4 = .ok (.ifCond .eq 5, 3) := of_decide_eq_true (List.all_eq_true.mp dA_X5_append_0 (4, .ifCond .eq 5, 3) (List.mem_of_getElem? (i := 2) rfl))
theorem dX5_append_7 : decode cX5_append 7 = .ok (.iconst (-1), 1) := of_decide_eq_true (List.all_eq_true.mp dA_X5_append_0 (7, .iconst (-1), 1) (List.mem_of_getElem? (i := 3) rfl))
theorem dX5_append_8 : decode cX5_append 8 = .ok (.ireturn, 1) := of_decide_eq_true (List.all_eq_true.mp dA_X5_append_0 (8, .ireturn, 1) (List.mem_of_getElem? (i := 4) rfl))
theorem dX5_append_9 : decode cX5_append 9 = .ok (.aload_n 0, 1) := of_decide_eq_true (List.all_eq_true.mp dA_X5_append_0 (9, .aload_n 0, 1) (List.mem_of_getElem? (i := 5) rfl))
theorem dX5_append_10 : decode cX5_append 10 = .ok (.getfield 28, 3) := of_decide_eq_true (List.all_eq_true.mp dA_X5_append_0 (10, .getfield 28, 3) (List.mem_of_getElem? (i := 6) rfl))
theorem dX5_append_13 : decode cX5_append 13 = .ok (.istore_n 1, 1) := of_decide_eq_true (List.all_eq_true.mp dA_X5_append_0 (13, .istore_n 1, 1) (List.mem_of_getElem? (i := 7) rfl))
theorem dX5_append_14 : decode cX5_append 14 = .ok (.aload_n 0, 1) := of_decide_eq_true (List.all_eq_true.mp dA_X5_append_0 (14, .aload_n 0, 1) (List.mem_of_getElem? (i := 8) rfl))
theorem dX5_append_15 : decode cX5_append 15 = .ok (.dup, 1) := of_decide_eq_true (List.all_eq_true.mp dA_X5_append_0 (15, .dup, 1) (List.mem_of_getElem? (i := 9) rfl))
theorem dX5_append_16 : decode cX5_append 16 = .ok (.getfield 28, 3) := of_decide_eq_true (List.all_eq_true.mp dA_X5_append_0 (16, .getfield 28, 3) (List.mem_of_getElem? (i := 10) rfl))
theorem dX5_append_19 : decode cX5_append 19 = .ok (.iconst 1, 1) := of_decide_eq_true (List.all_eq_true.mp dA_X5_append_0 (19, .iconst 1, 1) (List.mem_of_getElem? (i := 11) rfl))
theorem dX5_append_20 : decode cX5_append 20 = .ok (.iadd, 1) := of_decide_eq_true (List.all_eq_true.mp dA_X5_append_0 (20, .iadd, 1) (List.mem_of_getElem? (i := 12) rfl))
theorem dX5_append_21 : decode cX5_append 21 = .ok (.putfield 28, 3) := of_decide_eq_true (List.all_eq_true.mp dA_X5_append_0 (21, .putfield 28, 3) (List.mem_of_getElem? (i := 13) rfl))
theorem dX5_append_24 : decode cX5_append 24 = .ok (.iconst 0, 1) := of_decide_eq_true (List.all_eq_true.mp dA_X5_append_0 (24, .iconst 0, 1) (List.mem_of_getElem? (i := 14) rfl))
theorem dX5_append_25 : decode cX5_append 25 = .ok (.istore_n 2, 1) := of_decide_eq_true (List.all_eq_true.mp dA_X5_append_0 (25, .istore_n 2, 1) (List.mem_of_getElem? (i := 15) rfl))
theorem dX5_append_26 : decode cX5_append 26 = .ok (.iload_n 2, 1) := of_decide_eq_true (List.all_eq_true.mp dA_X5_append_0 (26, .iload_n 2, 1) (List.mem_of_getElem? (i := 16) rfl))
theorem dX5_append_27 : decode cX5_append 27 = .ok (.aload_n 0, 1) := of_decide_eq_true (List.all_eq_true.mp dA_X5_append_0 (27, .aload_n 0, 1) (List.mem_of_getElem? (i := 17) rfl))
theorem dX5_append_28 : decode cX5_append 28 = .ok (.getfield 15, 3) := of_decide_eq_true (List.all_eq_true.mp dA_X5_append_0 (28, .getfield 15, 3) (List.mem_of_getElem? (i := 18) rfl))
theorem dX5_append_31 : decode cX5_append 31 = .ok (.if_icmp .ge 16, 3) := of_decide_eq_true (List.all_eq_true.mp dA_X5_append_0 (31, .if_icmp .ge 16, 3) (List.mem_of_getElem? (i := 19) rfl))
theorem dX5_append_34 : decode cX5_append 34 = .ok (.aload_n 0, 1) := of_decide_eq_true (List.all_eq_true.mp dA_X5_append_0 (34, .aload_n 0, 1) (List.mem_of_getElem? (i := 20) rfl))
theorem dX5_append_35 : decode cX5_append 35 = .ok (.iload_n 1, 1) := of_decide_eq_true (List.all_eq_true.mp dA_X5_append_0 (35, .iload_n 1, 1) (List.mem_of_getElem? (i := 21) rfl))
theorem dX5_append_36 : decode cX5_append 36 = .ok (.iload_n 2, 1) := of_decide_eq_true (List.all_eq_true.mp dA_X5_append_0 (36, .iload_n 2, 1) (List.mem_of_getElem? (i := 22) rfl))
theorem dX5_append_37 : decode cX5_append 37 = .ok (.iconst 0, 1) := of_decide_eq_true (List.all_eq_true.mp dA_X5_append_0 (37, .iconst 0, 1) (List.mem_of_getElem? (i := 23) rfl))
theorem dX5_append_38 : decode cX5_append 38 = .ok (.invokevirtual 35, 3) := of_decide_eq_true (List.all_eq_true.mp dA_X5_append_0 (38, .invokevirtual 35, 3) (List.mem_of_getElem? (i := 24) rfl))
theorem dX5_append_41 : decode cX5_append 41 = .ok (.iinc 2 1, 3) := of_decide_eq_true (List.all_eq_true.mp dA_X5_append_0 (41, .iinc 2 1, 3) (List.mem_of_getElem? (i := 25) rfl))
theorem dX5_append_44 : decode cX5_append 44 = .ok (.goto (-18), 3) := of_decide_eq_true (List.all_eq_true.mp dA_X5_append_0 (44, .goto (-18), 3) (List.mem_of_getElem? (i := 26) rfl))
theorem dX5_append_47 : decode cX5_append 47 = .ok (.iload_n 1, 1) := of_decide_eq_true (List.all_eq_true.mp dA_X5_append_0 (47, .iload_n 1, 1) (List.mem_of_getElem? (i := 27) rfl))
theorem dX5_append_48 : decode cX5_append 48 = .ok (.ireturn, 1) := of_decide_eq_true (List.all_eq_true.mp dA_X5_append_0 (48, .ireturn, 1) (List.mem_of_getElem? (i := 28) rfl))
set_option maxRecDepth 20000 in
theorem dA_X5_dropFirst_0 : (([(0, .aload_n 0, 1), (1, .getfield 28, 3), (4, .ifCond .ne 4, 3), (7, .return_, 1), (8, .aload_n 0, 1), (9, .dup, 1), (10, .getfield 28, 3), (13, .iconst 1, 1), (14, .isub, 1), (15, .putfield 28, 3), (18, .aload_n 0, 1), (19, .getfield 24, 3), (22, .aload_n 0, 1), (23, .getfield 15, 3), (26, .aload_n 0, 1), (27, .getfield 24, 3), (30, .iconst 0, 1), (31, .aload_n 0, 1), (32, .getfield 28, 3), (35, .aload_n 0, 1), (36, .getfield 15, 3), (39, .imul, 1), (40, .invokestatic 39, 3), (43, .return_, 1)] : List (Nat × Instr × Nat)).all fun q => decide (decode cX5_dropFirst q.1 = .ok (q.2.1, q.2.2))) = true := by decide +kernel
theorem dX5_dropFirst_0 : decode cX5_dropFirst 0 = .ok (.aload_n 0, 1) := of_decide_eq_true (List.all_eq_true.mp dA_X5_dropFirst_0 (0, .aload_n 0, 1) (List.mem_of_getElem? (i := 0) rfl))
theorem dX5_dropFirst_1 : decode cX5_dropFirst 1 = .ok (.getfield 28, 3) := of_decide_eq_true (List.all_eq_true.mp dA_X5_dropFirst_0 (1, .getfield 28, 3) (List.mem_of_getElem? (i := 1) rfl))
theorem dX5_dropFirst_4 : decode cX5_dropFirst 4 = .ok (.ifCond .ne 4, 3) := of_decide_eq_true (List.all_eq_true.mp dA_X5_dropFirst_0 (4, .ifCond .ne 4, 3) (List.mem_of_getElem? (i := 2) rfl))
theorem dX5_dropFirst_7 : decode cX5_dropFirst 7 = .ok (.return_, 1) := of_decide_eq_true (List.all_eq_true.mp dA_X5_dropFirst_0 (7, .return_, 1) (List.mem_of_getElem? (i := 3) rfl))
theorem dX5_dropFirst_8 : decode cX5_dropFirst 8 = .ok (.aload_n 0, 1) := of_decide_eq_true (List.all_eq_true.mp dA_X5_dropFirst_0 (8, .aload_n 0, 1) (List.mem_of_getElem? (i := 4) rfl))
theorem dX5_dropFirst_9 : decode cX5_dropFirst 9 = .ok (.dup, 1) := of_decide_eq_true (List.all_eq_true.mp dA_X5_dropFirst_0 (9, .dup, 1) (List.mem_of_getElem? (i := 5) rfl))
theorem dX5_dropFirst_10 : decode cX5_dropFirst 10 = .ok (.getfield 28, 3) := of_decide_eq_true (List.all_eq_true.mp dA_X5_dropFirst_0 (10, .getfield 28, 3) (List.mem_of_getElem? (i := 6) rfl))
theorem dX5_dropFirst_13 : decode cX5_dropFirst 13 = .ok (.iconst 1, 1) := of_decide_eq_true (List.all_eq_true.mp dA_X5_dropFirst_0 (13, .iconst 1, 1) (List.mem_of_getElem? (i := 7) rfl))
theorem dX5_dropFirst_14 : decode cX5_dropFirst 14 = .ok (.isub, 1) := of_decide_eq_true (List.all_eq_true.mp dA_X5_dropFirst_0 (14, .isub, 1) (List.mem_of_getElem? (i := 8) rfl))
theorem dX5_dropFirst_15 : decode cX5_dropFirst 15 = .ok (.putfield 28, 3) := of_decide_eq_true (List.all_eq_true.mp dA_X5_dropFirst_0 (15, .putfield 28, 3) (List.mem_of_getElem? (i := 9) rfl))
theorem dX5_dropFirst_18 : decode cX5_dropFirst 18 = .ok (.aload_n 0, 1) := of_decide_eq_true (List.all_eq_true.mp dA_X5_dropFirst_0 (18, .aload_n 0, 1) (List.mem_of_getElem? (i := 10) rfl))
theorem dX5_dropFirst_19 : decode cX5_dropFirst 19 = .ok (.getfield 24, 3) := of_decide_eq_true (List.all_eq_true.mp dA_X5_dropFirst_0 (19, .getfield 24, 3) (List.mem_of_getElem? (i := 11) rfl))
theorem dX5_dropFirst_22 : decode cX5_dropFirst 22 = .ok (.aload_n 0, 1) := of_decide_eq_true (List.all_eq_true.mp dA_X5_dropFirst_0 (22, .aload_n 0, 1) (List.mem_of_getElem? (i := 12) rfl))
theorem dX5_dropFirst_23 : decode cX5_dropFirst 23 = .ok (.getfield 15, 3) := of_decide_eq_true (List.all_eq_true.mp dA_X5_dropFirst_0 (23, .getfield 15, 3) (List.mem_of_getElem? (i := 13) rfl))
theorem dX5_dropFirst_26 : decode cX5_dropFirst 26 = .ok (.aload_n 0, 1) := of_decide_eq_true (List.all_eq_true.mp dA_X5_dropFirst_0 (26, .aload_n 0, 1) (List.mem_of_getElem? (i := 14) rfl))
theorem dX5_dropFirst_27 : decode cX5_dropFirst 27 = .ok (.getfield 24, 3) := of_decide_eq_true (List.all_eq_true.mp dA_X5_dropFirst_0 (27, .getfield 24, 3) (List.mem_of_getElem? (i := 15) rfl))
theorem dX5_dropFirst_30 : decode cX5_dropFirst 30 = .ok (.iconst 0, 1) := of_decide_eq_true (List.all_eq_true.mp dA_X5_dropFirst_0 (30, .iconst 0, 1) (List.mem_of_getElem? (i := 16) rfl))
theorem dX5_dropFirst_31 : decode cX5_dropFirst 31 = .ok (.aload_n 0, 1) := of_decide_eq_true (List.all_eq_true.mp dA_X5_dropFirst_0 (31, .aload_n 0, 1) (List.mem_of_getElem? (i := 17) rfl))
theorem dX5_dropFirst_32 : decode cX5_dropFirst 32 = .ok (.getfield 28, 3) := of_decide_eq_true (List.all_eq_true.mp dA_X5_dropFirst_0 (32, .getfield 28, 3) (List.mem_of_getElem? (i := 18) rfl))
theorem dX5_dropFirst_35 : decode cX5_dropFirst 35 = .ok (.aload_n 0, 1) := of_decide_eq_true (List.all_eq_true.mp dA_X5_dropFirst_0 (35, .aload_n 0, 1) (List.mem_of_getElem? (i := 19) rfl))
theorem dX5_dropFirst_36 : decode cX5_dropFirst 36 = .ok (.getfield 15, 3) := of_decide_eq_true (List.all_eq_true.mp dA_X5_dropFirst_0 (36, .getfield 15, 3) (List.mem_of_getElem? (i := 20) rfl))
theorem dX5_dropFirst_39 : decode cX5_dropFirst 39 = .ok (.imul, 1) := of_decide_eq_true (List.all_eq_true.mp dA_X5_dropFirst_0 (39, .imul, 1) (List.mem_of_getElem? (i := 21) rfl))
theorem dX5_dropFirst_40 : decode cX5_dropFirst 40 = .ok (.invokestatic 39, 3) := of_decide_eq_true (List.all_eq_true.mp dA_X5_dropFirst_0 (40, .invokestatic 39, 3) (List.mem_of_getElem? (i := 22) rfl))
theorem dX5_dropFirst_43 : decode cX5_dropFirst 43 = .ok (.return_, 1) := of_decide_eq_true (List.all_eq_true.mp dA_X5_dropFirst_0 (43, .return_, 1) (List.mem_of_getElem? (i := 23) rfl))
set_option maxRecDepth 20000 in
theorem dA_X5_dropLast_0 : (([(0, .aload_n 0, 1), (1, .getfield 28, 3), (4, .ifCond .le 13, 3), (7, .aload_n 0, 1), (8, .dup, 1), (9, .getfield 28, 3), (12, .iconst 1, 1), (13, .isub, 1), (14, .putfield 28, 3), (17, .return_, 1)] : List (Nat × Instr × Nat)).all fun q => decide (decode cX5_dropLast q.1 = .ok (q.2.1, q.2.2))) = true := by decide +kernel
theorem dX5_dropLast_0 : decode cX5_dropLast 0 = .ok (.aload_n 0, 1) := of_decide_eq_true (List.all_eq_true.mp dA_X5_dropLast_0 (0, .aload_n 0, 1) (List.mem_of_getElem? (i := 0) rfl))
theorem dX5_dropLast_1 : decode cX5_dropLast 1 = .ok (.getfield 28, 3) := of_decide_eq_true (List.all_eq_true.mp dA_X5_dropLast_0 (1, .getfield 28, 3) (List.mem_of_getElem? (i := 1) rfl))
theorem dX5_dropLast_4 : decode cX5_dropLast 4 = .ok (.ifCond .le 13, 3) := of_decide_eq_true (List.all_eq_true.mp dA_X5_dropLast_0 (4, .ifCond .le 13, 3) (List.mem_of_getElem? (i := 2) rfl))
theorem dX5_dropLast_7 : decode cX5_dropLast 7 = .ok (.aload_n 0, 1) := of_decide_eq_true (List.all_eq_true.mp dA_X5_dropLast_0 (7, .aload_n 0, 1) (List.mem_of_getElem? (i := 3) rfl))
theorem dX5_dropLast_8 : decode cX5_dropLast 8 = .ok (.dup, 1) := of_decide_eq_true (List.all_eq_true.mp dA_X5_dropLast_0 (8, .dup, 1) (List.mem_of_getElem? (i := 4) rfl))
theorem dX5_dropLast_9 : decode cX5_dropLast 9 = .ok (.getfield 28, 3) := of_decide_eq_true (List.all_eq_true.mp dA_X5_dropLast_0 (9, .getfield 28, 3) (List.mem_of_getElem? (i := 5) rfl))
theorem dX5_dropLast_12 : decode cX5_dropLast 12 = .ok (.iconst 1, 1) := of_decide_eq_true (List.all_eq_true.mp dA_X5_dropLast_0 (12, .iconst 1, 1) (List.mem_of_getElem? (i := 6) rfl))
theorem dX5_dropLast_13 : decode cX5_dropLast 13 = .ok (.isub, 1) := of_decide_eq_true (List.all_eq_true.mp dA_X5_dropLast_0 (13, .isub, 1) (List.mem_of_getElem? (i := 7) rfl))
theorem dX5_dropLast_14 : decode cX5_dropLast 14 = .ok (.putfield 28, 3) := of_decide_eq_true (List.all_eq_true.mp dA_X5_dropLast_0 (14, .putfield 28, 3) (List.mem_of_getElem? (i := 8) rfl))
theorem dX5_dropLast_17 : decode cX5_dropLast 17 = .ok (.return_, 1) := of_decide_eq_true (List.all_eq_true.mp dA_X5_dropLast_0 (17, .return_, 1) (List.mem_of_getElem? (i := 9) rfl))
set_option maxRecDepth 20000 in
theorem dA_X5_cell_0 : (([(0, .iload_n 1, 1), (1, .ifCond .lt 23, 3), (4, .iload_n 1, 1), (5, .aload_n 0, 1), (6, .getfield 28, 3), (9, .if_icmp .ge 15, 3), (12, .iload_n 2, 1), (13, .ifCond .lt 11, 3), (16, .iload_n 2, 1), (17, .aload_n 0, 1), (18, .getfield 15, 3), (21, .if_icmp .lt 5, 3), (24, .iconst 0, 1), (25, .ireturn, 1), (26, .aload_n 0, 1), (27, .getfield 24, 3), (30, .iload_n 1, 1), (31, .aload_n 0, 1), (32, .getfield 15, 3), (35, .imul, 1), (36, .iload_n 2, 1), (37, .iadd, 1), (38, .iaload, 1), (39, .ireturn, 1)] : List (Nat × Instr × Nat)).all fun q => decide (decode cX5_cell q.1 = .ok (q.2.1, q.2.2))) = true := by decide +kernel
theorem dX5_cell_0 : decode cX5_cell 0 = .ok (.iload_n 1, 1) := of_decide_eq_true (List.all_eq_true.mp dA_X5_cell_0 (0, .iload_n 1, 1) (List.mem_of_getElem? (i := 0) rfl))
theorem dX5_cell_1 : decode cX5_cell 1 = .ok (.ifCond .lt 23, 3) := of_decide_eq_true (List.all_eq_true.mp dA_X5_cell_0 (1, .ifCond .lt 23, 3) (List.mem_of_getElem? (i := 1) rfl))
theorem dX5_cell_4 : decode cX5_cell 4 = .ok (.iload_n 1, 1) := of_decide_eq_true (List.all_eq_true.mp dA_X5_cell_0 (4, .iload_n 1, 1) (List.mem_of_getElem? (i := 2) rfl))
theorem dX5_cell_5 : decode cX5_cell 5 = .ok (.aload_n 0, 1) := of_decide_eq_true (List.all_eq_true.mp dA_X5_cell_0 (5, .aload_n 0, 1) (List.mem_of_getElem? (i := 3) rfl))
theorem dX5_cell_6 : decode cX5_cell 6 = .ok (.getfield 28, 3) := of_decide_eq_true (List.all_eq_true.mp dA_X5_cell_0 (6, .getfield 28, 3) (List.mem_of_getElem? (i := 4) rfl))
theorem dX5_cell_9 : decode cX5_cell 9 = .ok (.if_icmp .ge 15, 3) := of_decide_eq_true (List.all_eq_true.mp dA_X5_cell_0 (9, .if_icmp .ge 15, 3) (List.mem_of_getElem? (i := 5) rfl))
theorem dX5_cell_12 : decode cX5_cell 12 = .ok (.iload_n 2, 1) := of_decide_eq_true (List.all_eq_true.mp dA_X5_cell_0 (12, .iload_n 2, 1) (List.mem_of_getElem? (i := 6) rfl))
theorem dX5_cell_13 : decode cX5_cell 13 = .ok (.ifCond .lt 11, 3) := of_decide_eq_true (List.all_eq_true.mp dA_X5_cell_0 (13, .ifCond .lt 11, 3) (List.mem_of_getElem? (i := 7) rfl))
theorem dX5_cell_16 : decode cX5_cell 16 = .ok (.iload_n 2, 1) := of_decide_eq_true (List.all_eq_true.mp dA_X5_cell_0 (16, .iload_n 2, 1) (List.mem_of_getElem? (i := 8) rfl))
theorem dX5_cell_17 : decode cX5_cell 17 = .ok (.aload_n 0, 1) := of_decide_eq_true (List.all_eq_true.mp dA_X5_cell_0 (17, .aload_n 0, 1) (List.mem_of_getElem? (i := 9) rfl))
theorem dX5_cell_18 : decode cX5_cell 18 = .ok (.getfield 15, 3) := of_decide_eq_true (List.all_eq_true.mp dA_X5_cell_0 (18, .getfield 15, 3) (List.mem_of_getElem? (i := 10) rfl))
theorem dX5_cell_21 : decode cX5_cell 21 = .ok (.if_icmp .lt 5, 3) := of_decide_eq_true (List.all_eq_true.mp dA_X5_cell_0 (21, .if_icmp .lt 5, 3) (List.mem_of_getElem? (i := 11) rfl))
theorem dX5_cell_24 : decode cX5_cell 24 = .ok (.iconst 0, 1) := of_decide_eq_true (List.all_eq_true.mp dA_X5_cell_0 (24, .iconst 0, 1) (List.mem_of_getElem? (i := 12) rfl))
theorem dX5_cell_25 : decode cX5_cell 25 = .ok (.ireturn, 1) := of_decide_eq_true (List.all_eq_true.mp dA_X5_cell_0 (25, .ireturn, 1) (List.mem_of_getElem? (i := 13) rfl))
theorem dX5_cell_26 : decode cX5_cell 26 = .ok (.aload_n 0, 1) := of_decide_eq_true (List.all_eq_true.mp dA_X5_cell_0 (26, .aload_n 0, 1) (List.mem_of_getElem? (i := 14) rfl))
theorem dX5_cell_27 : decode cX5_cell 27 = .ok (.getfield 24, 3) := of_decide_eq_true (List.all_eq_true.mp dA_X5_cell_0 (27, .getfield 24, 3) (List.mem_of_getElem? (i := 15) rfl))
theorem dX5_cell_30 : decode cX5_cell 30 = .ok (.iload_n 1, 1) := of_decide_eq_true (List.all_eq_true.mp dA_X5_cell_0 (30, .iload_n 1, 1) (List.mem_of_getElem? (i := 16) rfl))
theorem dX5_cell_31 : decode cX5_cell 31 = .ok (.aload_n 0, 1) := of_decide_eq_true (List.all_eq_true.mp dA_X5_cell_0 (31, .aload_n 0, 1) (List.mem_of_getElem? (i := 17) rfl))
theorem dX5_cell_32 : decode cX5_cell 32 = .ok (.getfield 15, 3) := of_decide_eq_true (List.all_eq_true.mp dA_X5_cell_0 (32, .getfield 15, 3) (List.mem_of_getElem? (i := 18) rfl))
theorem dX5_cell_35 : decode cX5_cell 35 = .ok (.imul, 1) := of_decide_eq_true (List.all_eq_true.mp dA_X5_cell_0 (35, .imul, 1) (List.mem_of_getElem? (i := 19) rfl))
theorem dX5_cell_36 : decode cX5_cell 36 = .ok (.iload_n 2, 1) := of_decide_eq_true (List.all_eq_true.mp dA_X5_cell_0 (36, .iload_n 2, 1) (List.mem_of_getElem? (i := 20) rfl))
theorem dX5_cell_37 : decode cX5_cell 37 = .ok (.iadd, 1) := of_decide_eq_true (List.all_eq_true.mp dA_X5_cell_0 (37, .iadd, 1) (List.mem_of_getElem? (i := 21) rfl))
theorem dX5_cell_38 : decode cX5_cell 38 = .ok (.iaload, 1) := of_decide_eq_true (List.all_eq_true.mp dA_X5_cell_0 (38, .iaload, 1) (List.mem_of_getElem? (i := 22) rfl))
theorem dX5_cell_39 : decode cX5_cell 39 = .ok (.ireturn, 1) := of_decide_eq_true (List.all_eq_true.mp dA_X5_cell_0 (39, .ireturn, 1) (List.mem_of_getElem? (i := 23) rfl))
set_option maxRecDepth 20000 in
theorem dA_X5_put_0 : (([(0, .iload_n 1, 1), (1, .ifCond .lt 23, 3), (4, .iload_n 1, 1), (5, .aload_n 0, 1), (6, .getfield 28, 3), (9, .if_icmp .ge 15, 3), (12, .iload_n 2, 1), (13, .ifCond .lt 11, 3), (16, .iload_n 2, 1), (17, .aload_n 0, 1), (18, .getfield 15, 3), (21, .if_icmp .lt 4, 3), (24, .return_, 1), (25, .aload_n 0, 1), (26, .getfield 24, 3), (29, .iload_n 1, 1), (30, .aload_n 0, 1), (31, .getfield 15, 3), (34, .imul, 1), (35, .iload_n 2, 1), (36, .iadd, 1), (37, .iload_n 3, 1), (38, .iastore, 1), (39, .return_, 1)] : List (Nat × Instr × Nat)).all fun q => decide (decode cX5_put q.1 = .ok (q.2.1, q.2.2))) = true := by decide +kernel
theorem dX5_put_0 : decode cX5_put 0 = .ok (.iload_n 1, 1) := of_decide_eq_true (List.all_eq_true.mp dA_X5_put_0 (0, .iload_n 1, 1) (List.mem_of_getElem? (i := 0) rfl))
theorem dX5_put_1 : decode cX5_put 1 = .ok (.ifCond .lt 23, 3) := of_decide_eq_true (List.all_eq_true.mp dA_X5_put_0 (1, .ifCond .lt 23, 3) (List.mem_of_getElem? (i := 1) rfl))
theorem dX5_put_4 : decode cX5_put 4 = .ok (.iload_n 1, 1) := of_decide_eq_true (List.all_eq_true.mp dA_X5_put_0 (4, .iload_n 1, 1) (List.mem_of_getElem? (i := 2) rfl))
theorem dX5_put_5 : decode cX5_put 5 = .ok (.aload_n 0, 1) := of_decide_eq_true (List.all_eq_true.mp dA_X5_put_0 (5, .aload_n 0, 1) (List.mem_of_getElem? (i := 3) rfl))
theorem dX5_put_6 : decode cX5_put 6 = .ok (.getfield 28, 3) := of_decide_eq_true (List.all_eq_true.mp dA_X5_put_0 (6, .getfield 28, 3) (List.mem_of_getElem? (i := 4) rfl))
theorem dX5_put_9 : decode cX5_put 9 = .ok (.if_icmp .ge 15, 3) := of_decide_eq_true (List.all_eq_true.mp dA_X5_put_0 (9, .if_icmp .ge 15, 3) (List.mem_of_getElem? (i := 5) rfl))
theorem dX5_put_12 : decode cX5_put 12 = .ok (.iload_n 2, 1) := of_decide_eq_true (List.all_eq_true.mp dA_X5_put_0 (12, .iload_n 2, 1) (List.mem_of_getElem? (i := 6) rfl))
theorem dX5_put_13 : decode cX5_put 13 = .ok (.ifCond .lt 11, 3) := of_decide_eq_true (List.all_eq_true.mp dA_X5_put_0 (13, .ifCond .lt 11, 3) (List.mem_of_getElem? (i := 7) rfl))
theorem dX5_put_16 : decode cX5_put 16 = .ok (.iload_n 2, 1) := of_decide_eq_true (List.all_eq_true.mp dA_X5_put_0 (16, .iload_n 2, 1) (List.mem_of_getElem? (i := 8) rfl))
theorem dX5_put_17 : decode cX5_put 17 = .ok (.aload_n 0, 1) := of_decide_eq_true (List.all_eq_true.mp dA_X5_put_0 (17, .aload_n 0, 1) (List.mem_of_getElem? (i := 9) rfl))
theorem dX5_put_18 : decode cX5_put 18 = .ok (.getfield 15, 3) := of_decide_eq_true (List.all_eq_true.mp dA_X5_put_0 (18, .getfield 15, 3) (List.mem_of_getElem? (i := 10) rfl))
theorem dX5_put_21 : decode cX5_put 21 = .ok (.if_icmp .lt 4, 3) := of_decide_eq_true (List.all_eq_true.mp dA_X5_put_0 (21, .if_icmp .lt 4, 3) (List.mem_of_getElem? (i := 11) rfl))
theorem dX5_put_24 : decode cX5_put 24 = .ok (.return_, 1) := of_decide_eq_true (List.all_eq_true.mp dA_X5_put_0 (24, .return_, 1) (List.mem_of_getElem? (i := 12) rfl))
theorem dX5_put_25 : decode cX5_put 25 = .ok (.aload_n 0, 1) := of_decide_eq_true (List.all_eq_true.mp dA_X5_put_0 (25, .aload_n 0, 1) (List.mem_of_getElem? (i := 13) rfl))
theorem dX5_put_26 : decode cX5_put 26 = .ok (.getfield 24, 3) := of_decide_eq_true (List.all_eq_true.mp dA_X5_put_0 (26, .getfield 24, 3) (List.mem_of_getElem? (i := 14) rfl))
theorem dX5_put_29 : decode cX5_put 29 = .ok (.iload_n 1, 1) := of_decide_eq_true (List.all_eq_true.mp dA_X5_put_0 (29, .iload_n 1, 1) (List.mem_of_getElem? (i := 15) rfl))
theorem dX5_put_30 : decode cX5_put 30 = .ok (.aload_n 0, 1) := of_decide_eq_true (List.all_eq_true.mp dA_X5_put_0 (30, .aload_n 0, 1) (List.mem_of_getElem? (i := 16) rfl))
theorem dX5_put_31 : decode cX5_put 31 = .ok (.getfield 15, 3) := of_decide_eq_true (List.all_eq_true.mp dA_X5_put_0 (31, .getfield 15, 3) (List.mem_of_getElem? (i := 17) rfl))
theorem dX5_put_34 : decode cX5_put 34 = .ok (.imul, 1) := of_decide_eq_true (List.all_eq_true.mp dA_X5_put_0 (34, .imul, 1) (List.mem_of_getElem? (i := 18) rfl))
theorem dX5_put_35 : decode cX5_put 35 = .ok (.iload_n 2, 1) := of_decide_eq_true (List.all_eq_true.mp dA_X5_put_0 (35, .iload_n 2, 1) (List.mem_of_getElem? (i := 19) rfl))
theorem dX5_put_36 : decode cX5_put 36 = .ok (.iadd, 1) := of_decide_eq_true (List.all_eq_true.mp dA_X5_put_0 (36, .iadd, 1) (List.mem_of_getElem? (i := 20) rfl))
theorem dX5_put_37 : decode cX5_put 37 = .ok (.iload_n 3, 1) := of_decide_eq_true (List.all_eq_true.mp dA_X5_put_0 (37, .iload_n 3, 1) (List.mem_of_getElem? (i := 21) rfl))
theorem dX5_put_38 : decode cX5_put 38 = .ok (.iastore, 1) := of_decide_eq_true (List.all_eq_true.mp dA_X5_put_0 (38, .iastore, 1) (List.mem_of_getElem? (i := 22) rfl))
theorem dX5_put_39 : decode cX5_put 39 = .ok (.return_, 1) := of_decide_eq_true (List.all_eq_true.mp dA_X5_put_0 (39, .return_, 1) (List.mem_of_getElem? (i := 23) rfl))
set_option maxRecDepth 20000 in
theorem ggX5_sum_X5_cell : GoodIn wsX5_sum wsX5_cell := goodIn_r _ [6, 1, 7, 8, 9, 10, 11, 12] (by decide +kernel) (by decide +kernel)
set_option maxRecDepth 20000 in
theorem gX5_sum_X5_cell : GoodIn wsX5_sum (wsV RX5 45 RX5 yX5_cell wsX5_cell) := goodIn_app (goodIn_of _ (by decide +kernel)) ggX5_sum_X5_cell
set_option maxRecDepth 20000 in
theorem dA_X5_sum_0 : (([(0, .iconst 0, 1), (1, .istore_n 2, 1), (2, .iconst 0, 1), (3, .istore_n 3, 1), (4, .iload_n 3, 1), (5, .aload_n 0, 1), (6, .getfield 28, 3), (9, .if_icmp .ge 18, 3), (12, .iload_n 2, 1), (13, .aload_n 0, 1), (14, .iload_n 3, 1), (15, .iload_n 1, 1), (16, .invokevirtual 45, 3), (19, .iadd, 1), (20, .istore_n 2, 1), (21, .iinc 3 1, 3), (24, .goto (-20), 3), (27, .iload_n 2, 1), (28, .ireturn, 1)] : List (Nat × Instr × Nat)).all fun q => decide (decode cX5_sum q.1 = .ok (q.2.1, q.2.2))) = true := by decide +kernel
theorem dX5_sum_0 : decode cX5_sum 0 = .ok (.iconst 0, 1) := of_decide_eq_true (List.all_eq_true.mp dA_X5_sum_0 (0, .iconst 0, 1) (List.mem_of_getElem? (i := 0) rfl))
theorem dX5_sum_1 : decode cX5_sum 1 = .ok (.istore_n 2, 1) := of_decide_eq_true (List.all_eq_true.mp dA_X5_sum_0 (1, .istore_n 2, 1) (List.mem_of_getElem? (i := 1) rfl))
theorem dX5_sum_2 : decode cX5_sum 2 = .ok (.iconst 0, 1) := of_decide_eq_true (List.all_eq_true.mp dA_X5_sum_0 (2, .iconst 0, 1) (List.mem_of_getElem? (i := 2) rfl))
theorem dX5_sum_3 : decode cX5_sum 3 = .ok (.istore_n 3, 1) := of_decide_eq_true (List.all_eq_true.mp dA_X5_sum_0 (3, .istore_n 3, 1) (List.mem_of_getElem? (i := 3) rfl))
theorem dX5_sum_4 : decode cX5_sum 4 = .ok (.iload_n 3, 1) := of_decide_eq_true (List.all_eq_true.mp dA_X5_sum_0 (4, .iload_n 3, 1) (List.mem_of_getElem? (i := 4) rfl))
theorem dX5_sum_5 : decode cX5_sum 5 = .ok (.aload_n 0, 1) := of_decide_eq_true (List.all_eq_true.mp dA_X5_sum_0 (5, .aload_n 0, 1) (List.mem_of_getElem? (i := 5) rfl))
theorem dX5_sum_6 : decode cX5_sum 6 = .ok (.getfield 28, 3) := of_decide_eq_true (List.all_eq_true.mp dA_X5_sum_0 (6, .getfield 28, 3) (List.mem_of_getElem? (i := 6) rfl))
theorem dX5_sum_9 : decode cX5_sum 9 = .ok (.if_icmp .ge 18, 3) := of_decide_eq_true (List.all_eq_true.mp dA_X5_sum_0 (9, .if_icmp .ge 18, 3) (List.mem_of_getElem? (i := 7) rfl))
theorem dX5_sum_12 : decode cX5_sum 12 = .ok (.iload_n 2, 1) := of_decide_eq_true (List.all_eq_true.mp dA_X5_sum_0 (12, .iload_n 2, 1) (List.mem_of_getElem? (i := 8) rfl))
theorem dX5_sum_13 : decode cX5_sum 13 = .ok (.aload_n 0, 1) := of_decide_eq_true (List.all_eq_true.mp dA_X5_sum_0 (13, .aload_n 0, 1) (List.mem_of_getElem? (i := 9) rfl))
theorem dX5_sum_14 : decode cX5_sum 14 = .ok (.iload_n 3, 1) := of_decide_eq_true (List.all_eq_true.mp dA_X5_sum_0 (14, .iload_n 3, 1) (List.mem_of_getElem? (i := 10) rfl))
theorem dX5_sum_15 : decode cX5_sum 15 = .ok (.iload_n 1, 1) := of_decide_eq_true (List.all_eq_true.mp dA_X5_sum_0 (15, .iload_n 1, 1) (List.mem_of_getElem? (i := 11) rfl))
theorem dX5_sum_16 : decode cX5_sum 16 = .ok (.invokevirtual 45, 3) := of_decide_eq_true (List.all_eq_true.mp dA_X5_sum_0 (16, .invokevirtual 45, 3) (List.mem_of_getElem? (i := 12) rfl))
theorem dX5_sum_19 : decode cX5_sum 19 = .ok (.iadd, 1) := of_decide_eq_true (List.all_eq_true.mp dA_X5_sum_0 (19, .iadd, 1) (List.mem_of_getElem? (i := 13) rfl))
theorem dX5_sum_20 : decode cX5_sum 20 = .ok (.istore_n 2, 1) := of_decide_eq_true (List.all_eq_true.mp dA_X5_sum_0 (20, .istore_n 2, 1) (List.mem_of_getElem? (i := 14) rfl))
theorem dX5_sum_21 : decode cX5_sum 21 = .ok (.iinc 3 1, 3) := of_decide_eq_true (List.all_eq_true.mp dA_X5_sum_0 (21, .iinc 3 1, 3) (List.mem_of_getElem? (i := 15) rfl))
theorem dX5_sum_24 : decode cX5_sum 24 = .ok (.goto (-20), 3) := of_decide_eq_true (List.all_eq_true.mp dA_X5_sum_0 (24, .goto (-20), 3) (List.mem_of_getElem? (i := 16) rfl))
theorem dX5_sum_27 : decode cX5_sum 27 = .ok (.iload_n 2, 1) := of_decide_eq_true (List.all_eq_true.mp dA_X5_sum_0 (27, .iload_n 2, 1) (List.mem_of_getElem? (i := 17) rfl))
theorem dX5_sum_28 : decode cX5_sum 28 = .ok (.ireturn, 1) := of_decide_eq_true (List.all_eq_true.mp dA_X5_sum_0 (28, .ireturn, 1) (List.mem_of_getElem? (i := 18) rfl))
set_option maxRecDepth 20000 in
theorem ggX5_digestOn_X5_cell : GoodIn wsX5_digestOn wsX5_cell := goodIn_r _ [8, 1, 2, 9, 10, 11, 12, 13] (by decide +kernel) (by decide +kernel)
set_option maxRecDepth 20000 in
theorem gX5_digestOn_X5_cell : GoodIn wsX5_digestOn (wsV RX5 45 RX5 yX5_cell wsX5_cell) := goodIn_app (goodIn_of _ (by decide +kernel)) ggX5_digestOn_X5_cell
set_option maxRecDepth 20000 in
theorem dA_X5_digestOn_0 : (([(0, .iconst 0, 1), (1, .istore_n 3, 1), (2, .iload_n 3, 1), (3, .aload_n 0, 1), (4, .getfield 28, 3), (7, .if_icmp .ge 42, 3), (10, .iconst 0, 1), (11, .istore 4, 2), (13, .iload 4, 2), (15, .aload_n 0, 1), (16, .getfield 15, 3), (19, .if_icmp .ge 24, 3), (22, .ldc2_w 48, 3), (25, .lload_n 1, 1), (26, .lmul, 1), (27, .aload_n 0, 1), (28, .iload_n 3, 1), (29, .iload 4, 2), (31, .invokevirtual 45, 3), (34, .i2l, 1), (35, .ladd, 1), (36, .lstore_n 1, 1), (37, .iinc 4 1, 3), (40, .goto (-27), 3), (43, .iinc 3 1, 3), (46, .goto (-44), 3), (49, .lload_n 1, 1), (50, .lreturn, 1)] : List (Nat × Instr × Nat)).all fun q => decide (decode cX5_digestOn q.1 = .ok (q.2.1, q.2.2))) = true := by decide +kernel
theorem dX5_digestOn_0 : decode cX5_digestOn 0 = .ok (.iconst 0, 1) := of_decide_eq_true (List.all_eq_true.mp dA_X5_digestOn_0 (0, .iconst 0, 1) (List.mem_of_getElem? (i := 0) rfl))
theorem dX5_digestOn_1 : decode cX5_digestOn 1 = .ok (.istore_n 3, 1) := of_decide_eq_true (List.all_eq_true.mp dA_X5_digestOn_0 (1, .istore_n 3, 1) (List.mem_of_getElem? (i := 1) rfl))
theorem dX5_digestOn_2 : decode cX5_digestOn 2 = .ok (.iload_n 3, 1) := of_decide_eq_true (List.all_eq_true.mp dA_X5_digestOn_0 (2, .iload_n 3, 1) (List.mem_of_getElem? (i := 2) rfl))
theorem dX5_digestOn_3 : decode cX5_digestOn 3 = .ok (.aload_n 0, 1) := of_decide_eq_true (List.all_eq_true.mp dA_X5_digestOn_0 (3, .aload_n 0, 1) (List.mem_of_getElem? (i := 3) rfl))
theorem dX5_digestOn_4 : decode cX5_digestOn 4 = .ok (.getfield 28, 3) := of_decide_eq_true (List.all_eq_true.mp dA_X5_digestOn_0 (4, .getfield 28, 3) (List.mem_of_getElem? (i := 4) rfl))
theorem dX5_digestOn_7 : decode cX5_digestOn 7 = .ok (.if_icmp .ge 42, 3) := of_decide_eq_true (List.all_eq_true.mp dA_X5_digestOn_0 (7, .if_icmp .ge 42, 3) (List.mem_of_getElem? (i := 5) rfl))
theorem dX5_digestOn_10 : decode cX5_digestOn 10 = .ok (.iconst 0, 1) := of_decide_eq_true (List.all_eq_true.mp dA_X5_digestOn_0 (10, .iconst 0, 1) (List.mem_of_getElem? (i := 6) rfl))
theorem dX5_digestOn_11 : decode cX5_digestOn 11 = .ok (.istore 4, 2) := of_decide_eq_true (List.all_eq_true.mp dA_X5_digestOn_0 (11, .istore 4, 2) (List.mem_of_getElem? (i := 7) rfl))
theorem dX5_digestOn_13 : decode cX5_digestOn 13 = .ok (.iload 4, 2) := of_decide_eq_true (List.all_eq_true.mp dA_X5_digestOn_0 (13, .iload 4, 2) (List.mem_of_getElem? (i := 8) rfl))
theorem dX5_digestOn_15 : decode cX5_digestOn 15 = .ok (.aload_n 0, 1) := of_decide_eq_true (List.all_eq_true.mp dA_X5_digestOn_0 (15, .aload_n 0, 1) (List.mem_of_getElem? (i := 9) rfl))
theorem dX5_digestOn_16 : decode cX5_digestOn 16 = .ok (.getfield 15, 3) := of_decide_eq_true (List.all_eq_true.mp dA_X5_digestOn_0 (16, .getfield 15, 3) (List.mem_of_getElem? (i := 10) rfl))
theorem dX5_digestOn_19 : decode cX5_digestOn 19 = .ok (.if_icmp .ge 24, 3) := of_decide_eq_true (List.all_eq_true.mp dA_X5_digestOn_0 (19, .if_icmp .ge 24, 3) (List.mem_of_getElem? (i := 11) rfl))
theorem dX5_digestOn_22 : decode cX5_digestOn 22 = .ok (.ldc2_w 48, 3) := of_decide_eq_true (List.all_eq_true.mp dA_X5_digestOn_0 (22, .ldc2_w 48, 3) (List.mem_of_getElem? (i := 12) rfl))
theorem dX5_digestOn_25 : decode cX5_digestOn 25 = .ok (.lload_n 1, 1) := of_decide_eq_true (List.all_eq_true.mp dA_X5_digestOn_0 (25, .lload_n 1, 1) (List.mem_of_getElem? (i := 13) rfl))
theorem dX5_digestOn_26 : decode cX5_digestOn 26 = .ok (.lmul, 1) := of_decide_eq_true (List.all_eq_true.mp dA_X5_digestOn_0 (26, .lmul, 1) (List.mem_of_getElem? (i := 14) rfl))
theorem dX5_digestOn_27 : decode cX5_digestOn 27 = .ok (.aload_n 0, 1) := of_decide_eq_true (List.all_eq_true.mp dA_X5_digestOn_0 (27, .aload_n 0, 1) (List.mem_of_getElem? (i := 15) rfl))
theorem dX5_digestOn_28 : decode cX5_digestOn 28 = .ok (.iload_n 3, 1) := of_decide_eq_true (List.all_eq_true.mp dA_X5_digestOn_0 (28, .iload_n 3, 1) (List.mem_of_getElem? (i := 16) rfl))
theorem dX5_digestOn_29 : decode cX5_digestOn 29 = .ok (.iload 4, 2) := of_decide_eq_true (List.all_eq_true.mp dA_X5_digestOn_0 (29, .iload 4, 2) (List.mem_of_getElem? (i := 17) rfl))
theorem dX5_digestOn_31 : decode cX5_digestOn 31 = .ok (.invokevirtual 45, 3) := of_decide_eq_true (List.all_eq_true.mp dA_X5_digestOn_0 (31, .invokevirtual 45, 3) (List.mem_of_getElem? (i := 18) rfl))
theorem dX5_digestOn_34 : decode cX5_digestOn 34 = .ok (.i2l, 1) := of_decide_eq_true (List.all_eq_true.mp dA_X5_digestOn_0 (34, .i2l, 1) (List.mem_of_getElem? (i := 19) rfl))
theorem dX5_digestOn_35 : decode cX5_digestOn 35 = .ok (.ladd, 1) := of_decide_eq_true (List.all_eq_true.mp dA_X5_digestOn_0 (35, .ladd, 1) (List.mem_of_getElem? (i := 20) rfl))
theorem dX5_digestOn_36 : decode cX5_digestOn 36 = .ok (.lstore_n 1, 1) := of_decide_eq_true (List.all_eq_true.mp dA_X5_digestOn_0 (36, .lstore_n 1, 1) (List.mem_of_getElem? (i := 21) rfl))
theorem dX5_digestOn_37 : decode cX5_digestOn 37 = .ok (.iinc 4 1, 3) := of_decide_eq_true (List.all_eq_true.mp dA_X5_digestOn_0 (37, .iinc 4 1, 3) (List.mem_of_getElem? (i := 22) rfl))
theorem dX5_digestOn_40 : decode cX5_digestOn 40 = .ok (.goto (-27), 3) := of_decide_eq_true (List.all_eq_true.mp dA_X5_digestOn_0 (40, .goto (-27), 3) (List.mem_of_getElem? (i := 23) rfl))
theorem dX5_digestOn_43 : decode cX5_digestOn 43 = .ok (.iinc 3 1, 3) := of_decide_eq_true (List.all_eq_true.mp dA_X5_digestOn_0 (43, .iinc 3 1, 3) (List.mem_of_getElem? (i := 24) rfl))
theorem dX5_digestOn_46 : decode cX5_digestOn 46 = .ok (.goto (-44), 3) := of_decide_eq_true (List.all_eq_true.mp dA_X5_digestOn_0 (46, .goto (-44), 3) (List.mem_of_getElem? (i := 25) rfl))
theorem dX5_digestOn_49 : decode cX5_digestOn 49 = .ok (.lload_n 1, 1) := of_decide_eq_true (List.all_eq_true.mp dA_X5_digestOn_0 (49, .lload_n 1, 1) (List.mem_of_getElem? (i := 26) rfl))
theorem dX5_digestOn_50 : decode cX5_digestOn 50 = .ok (.lreturn, 1) := of_decide_eq_true (List.all_eq_true.mp dA_X5_digestOn_0 (50, .lreturn, 1) (List.mem_of_getElem? (i := 27) rfl))
set_option maxRecDepth 20000 in
theorem dA_X5_copy_0 : (([(0, .aload_n 1, 1), (1, .getfield 24, 3), (4, .arraylength, 1), (5, .aload_n 0, 1), (6, .getfield 24, 3), (9, .arraylength, 1), (10, .if_icmp .eq 4, 3), (13, .return_, 1), (14, .aload_n 1, 1), (15, .getfield 24, 3), (18, .iconst 0, 1), (19, .aload_n 0, 1), (20, .getfield 24, 3), (23, .iconst 0, 1), (24, .aload_n 0, 1), (25, .getfield 24, 3), (28, .arraylength, 1), (29, .invokestatic 39, 3), (32, .aload_n 0, 1), (33, .aload_n 1, 1), (34, .getfield 28, 3), (37, .putfield 28, 3), (40, .return_, 1)] : List (Nat × Instr × Nat)).all fun q => decide (decode cX5_copy q.1 = .ok (q.2.1, q.2.2))) = true := by decide +kernel
theorem dX5_copy_0 : decode cX5_copy 0 = .ok (.aload_n 1, 1) := of_decide_eq_true (List.all_eq_true.mp dA_X5_copy_0 (0, .aload_n 1, 1) (List.mem_of_getElem? (i := 0) rfl))
theorem dX5_copy_1 : decode cX5_copy 1 = .ok (.getfield 24, 3) := of_decide_eq_true (List.all_eq_true.mp dA_X5_copy_0 (1, .getfield 24, 3) (List.mem_of_getElem? (i := 1) rfl))
theorem dX5_copy_4 : decode cX5_copy 4 = .ok (.arraylength, 1) := of_decide_eq_true (List.all_eq_true.mp dA_X5_copy_0 (4, .arraylength, 1) (List.mem_of_getElem? (i := 2) rfl))
theorem dX5_copy_5 : decode cX5_copy 5 = .ok (.aload_n 0, 1) := of_decide_eq_true (List.all_eq_true.mp dA_X5_copy_0 (5, .aload_n 0, 1) (List.mem_of_getElem? (i := 3) rfl))
theorem dX5_copy_6 : decode cX5_copy 6 = .ok (.getfield 24, 3) := of_decide_eq_true (List.all_eq_true.mp dA_X5_copy_0 (6, .getfield 24, 3) (List.mem_of_getElem? (i := 4) rfl))
theorem dX5_copy_9 : decode cX5_copy 9 = .ok (.arraylength, 1) := of_decide_eq_true (List.all_eq_true.mp dA_X5_copy_0 (9, .arraylength, 1) (List.mem_of_getElem? (i := 5) rfl))
theorem dX5_copy_10 : decode cX5_copy 10 = .ok (.if_icmp .eq 4, 3) := of_decide_eq_true (List.all_eq_true.mp dA_X5_copy_0 (10, .if_icmp .eq 4, 3) (List.mem_of_getElem? (i := 6) rfl))
theorem dX5_copy_13 : decode cX5_copy 13 = .ok (.return_, 1) := of_decide_eq_true (List.all_eq_true.mp dA_X5_copy_0 (13, .return_, 1) (List.mem_of_getElem? (i := 7) rfl))
theorem dX5_copy_14 : decode cX5_copy 14 = .ok (.aload_n 1, 1) := of_decide_eq_true (List.all_eq_true.mp dA_X5_copy_0 (14, .aload_n 1, 1) (List.mem_of_getElem? (i := 8) rfl))
theorem dX5_copy_15 : decode cX5_copy 15 = .ok (.getfield 24, 3) := of_decide_eq_true (List.all_eq_true.mp dA_X5_copy_0 (15, .getfield 24, 3) (List.mem_of_getElem? (i := 9) rfl))
theorem dX5_copy_18 : decode cX5_copy 18 = .ok (.iconst 0, 1) := of_decide_eq_true (List.all_eq_true.mp dA_X5_copy_0 (18, .iconst 0, 1) (List.mem_of_getElem? (i := 10) rfl))
theorem dX5_copy_19 : decode cX5_copy 19 = .ok (.aload_n 0, 1) := of_decide_eq_true (List.all_eq_true.mp dA_X5_copy_0 (19, .aload_n 0, 1) (List.mem_of_getElem? (i := 11) rfl))
theorem dX5_copy_20 : decode cX5_copy 20 = .ok (.getfield 24, 3) := of_decide_eq_true (List.all_eq_true.mp dA_X5_copy_0 (20, .getfield 24, 3) (List.mem_of_getElem? (i := 12) rfl))
theorem dX5_copy_23 : decode cX5_copy 23 = .ok (.iconst 0, 1) := of_decide_eq_true (List.all_eq_true.mp dA_X5_copy_0 (23, .iconst 0, 1) (List.mem_of_getElem? (i := 13) rfl))
theorem dX5_copy_24 : decode cX5_copy 24 = .ok (.aload_n 0, 1) := of_decide_eq_true (List.all_eq_true.mp dA_X5_copy_0 (24, .aload_n 0, 1) (List.mem_of_getElem? (i := 14) rfl))
theorem dX5_copy_25 : decode cX5_copy 25 = .ok (.getfield 24, 3) := of_decide_eq_true (List.all_eq_true.mp dA_X5_copy_0 (25, .getfield 24, 3) (List.mem_of_getElem? (i := 15) rfl))
theorem dX5_copy_28 : decode cX5_copy 28 = .ok (.arraylength, 1) := of_decide_eq_true (List.all_eq_true.mp dA_X5_copy_0 (28, .arraylength, 1) (List.mem_of_getElem? (i := 16) rfl))
theorem dX5_copy_29 : decode cX5_copy 29 = .ok (.invokestatic 39, 3) := of_decide_eq_true (List.all_eq_true.mp dA_X5_copy_0 (29, .invokestatic 39, 3) (List.mem_of_getElem? (i := 17) rfl))
theorem dX5_copy_32 : decode cX5_copy 32 = .ok (.aload_n 0, 1) := of_decide_eq_true (List.all_eq_true.mp dA_X5_copy_0 (32, .aload_n 0, 1) (List.mem_of_getElem? (i := 18) rfl))
theorem dX5_copy_33 : decode cX5_copy 33 = .ok (.aload_n 1, 1) := of_decide_eq_true (List.all_eq_true.mp dA_X5_copy_0 (33, .aload_n 1, 1) (List.mem_of_getElem? (i := 19) rfl))
theorem dX5_copy_34 : decode cX5_copy 34 = .ok (.getfield 28, 3) := of_decide_eq_true (List.all_eq_true.mp dA_X5_copy_0 (34, .getfield 28, 3) (List.mem_of_getElem? (i := 20) rfl))
theorem dX5_copy_37 : decode cX5_copy 37 = .ok (.putfield 28, 3) := of_decide_eq_true (List.all_eq_true.mp dA_X5_copy_0 (37, .putfield 28, 3) (List.mem_of_getElem? (i := 21) rfl))
theorem dX5_copy_40 : decode cX5_copy 40 = .ok (.return_, 1) := of_decide_eq_true (List.all_eq_true.mp dA_X5_copy_0 (40, .return_, 1) (List.mem_of_getElem? (i := 22) rfl))
set_option maxRecDepth 20000 in
theorem ggX6_build_X4_rewind : GoodIn wsX6_build wsX4_rewind := goodIn_r _ [5, 6, 219, 220, 221, 222, 223, 224] (by decide +kernel) (by decide +kernel)
set_option maxRecDepth 20000 in
theorem gX6_build_X4_rewind : GoodIn wsX6_build (wsV RX6 9 RX4 yX4_rewind wsX4_rewind) := goodIn_app (goodIn_of _ (by decide +kernel)) ggX6_build_X4_rewind
set_option maxRecDepth 20000 in
theorem ggX6_build_X6_opening : GoodIn wsX6_build wsX6_opening := goodIn_r _ [10, 11, 12, 13, 4, 14, 6, 15, 16, 17, 18, 19, 20, 21, 22, 23, 24, 25, 26, 27, 28, 29, 30, 31, 32, 33, 34, 35, 36, 37, 38, 39, 40, 41, 42, 43, 44, 45, 46, 47, 48, 49, 50, 51, 52, 53, 54, 55, 56, 57, 58, 59, 60, 61, 62, 63, 64, 65, 66, 67, 68, 69, 70, 71, 72, 73, 74, 75, 76, 77, 78, 79, 80, 81, 82, 83, 84, 85, 9, 86, 87, 88, 89, 90, 91, 92, 93, 94, 95, 96, 97, 98, 99, 100, 101, 102, 103, 104, 105, 106, 107, 108, 109, 110, 111, 112, 113, 114, 115, 116, 117, 118, 119, 120, 121, 219, 220, 221, 222, 223, 224, 225, 226, 227, 228, 229, 230, 231, 232, 233, 234, 235, 236, 237, 238, 239] (by decide +kernel) (by decide +kernel)
set_option maxRecDepth 20000 in
theorem gX6_build_X6_opening : GoodIn wsX6_build (va_wsS RX6 14 yX6_opening wsX6_opening) := goodIn_app (goodIn_of _ (by decide +kernel)) ggX6_build_X6_opening
set_option maxRecDepth 20000 in
theorem ggX6_build_X4_advance : GoodIn wsX6_build wsX4_advance := goodIn_r _ [14, 6, 15, 16, 17, 18, 19, 20, 4, 21, 22, 23, 24, 25, 26, 27, 28, 29, 30, 219, 220, 221, 222, 223, 224] (by decide +kernel) (by decide +kernel)
set_option maxRecDepth 20000 in
theorem gX6_build_X4_advance : GoodIn wsX6_build (wsV RX6 20 RX4 yX4_advance wsX4_advance) := goodIn_app (goodIn_of _ (by decide +kernel)) ggX6_build_X4_advance
set_option maxRecDepth 20000 in
theorem ggX6_build_X4_names : GoodIn wsX6_build wsX4_names := goodIn_r _ [34, 17, 6, 16, 35, 36, 37, 38, 39, 40, 41, 42, 43, 44, 45, 46, 18, 19, 20, 4, 21, 15, 22, 47, 48, 49, 50, 51, 52, 53, 54, 55, 56, 57, 58, 59, 60, 61, 62, 63, 64, 65, 66, 67, 68, 69, 70, 71, 72, 73, 74, 75, 76, 77, 78, 79, 80, 81, 82, 83, 219, 220, 221, 222, 223, 224] (by decide +kernel) (by decide +kernel)
set_option maxRecDepth 20000 in
theorem gX6_build_X4_names : GoodIn wsX6_build (wsV RX6 29 RX4 yX4_names wsX4_names) := goodIn_app (goodIn_of _ (by decide +kernel)) ggX6_build_X4_names
set_option maxRecDepth 20000 in
theorem ggX6_build_X6_wetItem : GoodIn wsX6_build wsX6_wetItem := goodIn_r _ [124, 11, 12, 13, 4, 14, 6, 15, 16, 17, 18, 19, 20, 21, 22, 23, 24, 25, 26, 27, 28, 29, 30, 87, 88, 9, 89, 90, 91, 92, 125, 109, 110, 96, 111, 112, 119, 120, 121, 219, 220, 221, 222, 223, 224, 225, 226, 227, 228, 229, 230, 231, 232, 233, 234, 235] (by decide +kernel) (by decide +kernel)
set_option maxRecDepth 20000 in
theorem gX6_build_X6_wetItem : GoodIn wsX6_build (va_wsS RX6 33 yX6_wetItem wsX6_wetItem) := goodIn_app (goodIn_of _ (by decide +kernel)) ggX6_build_X6_wetItem
set_option maxRecDepth 20000 in
theorem ggX6_build_X6_guestItem : GoodIn wsX6_build wsX6_guestItem := goodIn_r _ [128, 129, 130, 131, 116, 132, 118, 133, 84, 85, 9, 86, 11, 12, 13, 4, 14, 6, 15, 16, 17, 18, 19, 20, 21, 22, 23, 24, 25, 26, 27, 28, 29, 30, 87, 88, 89, 90, 91, 92, 134, 135, 136, 96, 137, 103, 138, 139, 140, 141, 142, 143, 144, 145, 146, 147, 148, 149, 119, 120, 121, 225, 226, 227, 228, 229, 230, 231, 232, 233, 234, 235, 236, 237, 238, 239, 219, 220, 221, 222, 223, 224] (by decide +kernel) (by decide +kernel)
set_option maxRecDepth 20000 in
theorem gX6_build_X6_guestItem : GoodIn wsX6_build (va_wsS RX6 38 yX6_guestItem wsX6_guestItem) := goodIn_app (goodIn_of _ (by decide +kernel)) ggX6_build_X6_guestItem
set_option maxRecDepth 20000 in
theorem ggX6_build_X6_comeItem : GoodIn wsX6_build wsX6_comeItem := goodIn_r _ [152, 84, 85, 9, 86, 11, 12, 13, 4, 14, 6, 15, 16, 17, 18, 19, 20, 21, 22, 23, 24, 25, 26, 27, 28, 29, 30, 87, 88, 89, 90, 91, 92, 153, 154, 155, 96, 156, 103, 157, 158, 159, 116, 160, 118, 142, 148, 161, 162, 163, 164, 165, 166, 167, 168, 102, 101, 169, 170, 171, 172, 100, 173, 174, 175, 176, 112, 177, 178, 179, 180, 98, 181, 182, 183, 184, 99, 185, 186, 187, 188, 189, 190, 191, 192, 193, 194, 195, 196, 197, 198, 199, 200, 149, 145, 146, 147, 119, 120, 121, 225, 226, 227, 228, 229, 230, 231, 232, 233, 234, 235, 236, 237, 238, 239, 219, 220, 221, 222, 223, 224] (by decide +kernel) (by decide +kernel)
set_option maxRecDepth 20000 in
theorem gX6_build_X6_comeItem : GoodIn wsX6_build (va_wsS RX6 43 yX6_comeItem wsX6_comeItem) := goodIn_app (goodIn_of _ (by decide +kernel)) ggX6_build_X6_comeItem
set_option maxRecDepth 20000 in
theorem ggX6_build_X6_goItem : GoodIn wsX6_build wsX6_goItem := goodIn_r _ [203, 84, 85, 9, 86, 11, 12, 13, 4, 14, 6, 15, 16, 17, 18, 19, 20, 21, 22, 23, 24, 25, 26, 27, 28, 29, 30, 87, 88, 89, 90, 91, 92, 153, 154, 155, 96, 156, 103, 157, 158, 159, 116, 160, 118, 142, 148, 204, 205, 206, 207, 149, 145, 146, 147, 119, 120, 121, 225, 226, 227, 228, 229, 230, 231, 232, 233, 234, 235, 236, 237, 238, 239, 219, 220, 221, 222, 223, 224] (by decide +kernel) (by decide +kernel)
set_option maxRecDepth 20000 in
theorem gX6_build_X6_goItem : GoodIn wsX6_build (va_wsS RX6 48 yX6_goItem wsX6_goItem) := goodIn_app (goodIn_of _ (by decide +kernel)) ggX6_build_X6_goItem
set_option maxRecDepth 20000 in
theorem ggX6_build_X6_letterItem : GoodIn wsX6_build wsX6_letterItem := goodIn_r _ [210, 84, 85, 9, 86, 11, 12, 13, 4, 14, 6, 15, 16, 17, 18, 19, 20, 21, 22, 23, 24, 25, 26, 27, 28, 29, 30, 87, 88, 89, 90, 91, 92, 211, 145, 146, 116, 147, 118, 142, 148, 119, 120, 121, 225, 226, 227, 228, 229, 230, 231, 232, 233, 234, 235, 236, 237, 238, 239, 219, 220, 221, 222, 223, 224] (by decide +kernel) (by decide +kernel)
set_option maxRecDepth 20000 in
theorem gX6_build_X6_letterItem : GoodIn wsX6_build (va_wsS RX6 53 yX6_letterItem wsX6_letterItem) := goodIn_app (goodIn_of _ (by decide +kernel)) ggX6_build_X6_letterItem
set_option maxRecDepth 20000 in
theorem ggX6_build_X6_nightsItem : GoodIn wsX6_build wsX6_nightsItem := goodIn_r _ [214, 84, 85, 9, 86, 11, 12, 13, 4, 14, 6, 15, 16, 17, 18, 19, 20, 21, 22, 23, 24, 25, 26, 27, 28, 29, 30, 87, 88, 89, 90, 91, 92, 215, 216, 217, 96, 218, 100, 165, 166, 167, 168, 101, 119, 120, 121, 219, 220, 221, 222, 223, 224, 225, 226, 227, 228, 229, 230, 231, 232, 233, 234, 235] (by decide +kernel) (by decide +kernel)
set_option maxRecDepth 20000 in
theorem gX6_build_X6_nightsItem : GoodIn wsX6_build (va_wsS RX6 58 yX6_nightsItem wsX6_nightsItem) := goodIn_app (goodIn_of _ (by decide +kernel)) ggX6_build_X6_nightsItem
set_option maxRecDepth 20000 in
theorem dA_X6_build_0 : (([(0, .aload_n 0, 1), (1, .invokevirtual 9, 3), (4, .aload_n 0, 1), (5, .aload_n 1, 1), (6, .invokestatic 14, 3), (9, .istore_n 2, 1), (10, .iconst 1, 1), (11, .istore_n 3, 1), (12, .iload_n 2, 1), (13, .ifCond .eq 142, 3), (16, .iload_n 3, 1), (17, .sipush 150, 3), (20, .if_icmp .gt 135, 3), (23, .aload_n 0, 1), (24, .invokevirtual 20, 3), (27, .aload_n 0, 1), (28, .getfield 23, 3), (31, .ifCond .ne 5, 3), (34, .iload_n 3, 1), (35, .ireturn, 1), (36, .aload_n 0, 1), (37, .ldc 27, 2), (39, .invokevirtual 29, 3), (42, .ifCond .eq 12, 3), (45, .aload_n 0, 1), (46, .aload_n 1, 1), (47, .invokestatic 33, 3), (50, .istore_n 2, 1), (51, .goto 98, 3), (54, .aload_n 0, 1), (55, .ldc 36, 2), (57, .invokevirtual 29, 3), (60, .ifCond .eq 12, 3), (63, .aload_n 0, 1), (64, .aload_n 1, 1), (65, .invokestatic 38, 3), (68, .istore_n 2, 1), (69, .goto 80, 3), (72, .aload_n 0, 1), (73, .ldc 41, 2)] : List (Nat × Instr × Nat)).all fun q => decide (decode cX6_build q.1 = .ok (q.2.1, q.2.2))) = true := by decide +kernel
theorem dX6_build_0 : decode cX6_build 0 = .ok (.aload_n 0, 1) := of_decide_eq_true (List.all_eq_true.mp dA_X6_build_0 (0, .aload_n 0, 1) (List.mem_of_getElem? (i := 0) rfl))
theorem dX6_build_1 : decode cX6_build 1 = .ok (.invokevirtual 9, 3) := of_decide_eq_true (List.all_eq_true.mp dA_X6_build_0 (1, .invokevirtual 9, 3) (List.mem_of_getElem? (i := 1) rfl))
theorem dX6_build_4 : decode cX6_build 4 = .ok (.aload_n 0, 1) := of_decide_eq_true (List.all_eq_true.mp dA_X6_build_0 (4, .aload_n 0, 1) (List.mem_of_getElem? (i := 2) rfl))
theorem dX6_build_5 : decode cX6_build 5 = .ok (.aload_n 1, 1) := of_decide_eq_true (List.all_eq_true.mp dA_X6_build_0 (5, .aload_n 1, 1) (List.mem_of_getElem? (i := 3) rfl))
theorem dX6_build_6 : decode cX6_build 6 = .ok (.invokestatic 14, 3) := of_decide_eq_true (List.all_eq_true.mp dA_X6_build_0 (6, .invokestatic 14, 3) (List.mem_of_getElem? (i := 4) rfl))
theorem dX6_build_9 : decode cX6_build 9 = .ok (.istore_n 2, 1) := of_decide_eq_true (List.all_eq_true.mp dA_X6_build_0 (9, .istore_n 2, 1) (List.mem_of_getElem? (i := 5) rfl))
theorem dX6_build_10 : decode cX6_build 10 = .ok (.iconst 1, 1) := of_decide_eq_true (List.all_eq_true.mp dA_X6_build_0 (10, .iconst 1, 1) (List.mem_of_getElem? (i := 6) rfl))
theorem dX6_build_11 : decode cX6_build 11 = .ok (.istore_n 3, 1) := of_decide_eq_true (List.all_eq_true.mp dA_X6_build_0 (11, .istore_n 3, 1) (List.mem_of_getElem? (i := 7) rfl))
theorem dX6_build_12 : decode cX6_build 12 = .ok (.iload_n 2, 1) := of_decide_eq_true (List.all_eq_true.mp dA_X6_build_0 (12, .iload_n 2, 1) (List.mem_of_getElem? (i := 8) rfl))
theorem dX6_build_13 : decode cX6_build 13 = .ok (.ifCond .eq 142, 3) := of_decide_eq_true (List.all_eq_true.mp dA_X6_build_0 (13, .ifCond .eq 142, 3) (List.mem_of_getElem? (i := 9) rfl))
theorem dX6_build_16 : decode cX6_build 16 = .ok (.iload_n 3, 1) := of_decide_eq_true (List.all_eq_true.mp dA_X6_build_0 (16, .iload_n 3, 1) (List.mem_of_getElem? (i := 10) rfl))
theorem dX6_build_17 : decode cX6_build 17 = .ok (.sipush 150, 3) := of_decide_eq_true (List.all_eq_true.mp dA_X6_build_0 (17, .sipush 150, 3) (List.mem_of_getElem? (i := 11) rfl))
theorem dX6_build_20 : decode cX6_build 20 = .ok (.if_icmp .gt 135, 3) := of_decide_eq_true (List.all_eq_true.mp dA_X6_build_0 (20, .if_icmp .gt 135, 3) (List.mem_of_getElem? (i := 12) rfl))
theorem dX6_build_23 : decode cX6_build 23 = .ok (.aload_n 0, 1) := of_decide_eq_true (List.all_eq_true.mp dA_X6_build_0 (23, .aload_n 0, 1) (List.mem_of_getElem? (i := 13) rfl))
theorem dX6_build_24 : decode cX6_build 24 = .ok (.invokevirtual 20, 3) := of_decide_eq_true (List.all_eq_true.mp dA_X6_build_0 (24, .invokevirtual 20, 3) (List.mem_of_getElem? (i := 14) rfl))
theorem dX6_build_27 : decode cX6_build 27 = .ok (.aload_n 0, 1) := of_decide_eq_true (List.all_eq_true.mp dA_X6_build_0 (27, .aload_n 0, 1) (List.mem_of_getElem? (i := 15) rfl))
theorem dX6_build_28 : decode cX6_build 28 = .ok (.getfield 23, 3) := of_decide_eq_true (List.all_eq_true.mp dA_X6_build_0 (28, .getfield 23, 3) (List.mem_of_getElem? (i := 16) rfl))
theorem dX6_build_31 : decode cX6_build 31 = .ok (.ifCond .ne 5, 3) := of_decide_eq_true (List.all_eq_true.mp dA_X6_build_0 (31, .ifCond .ne 5, 3) (List.mem_of_getElem? (i := 17) rfl))
theorem dX6_build_34 : decode cX6_build 34 = .ok (.iload_n 3, 1) := of_decide_eq_true (List.all_eq_true.mp dA_X6_build_0 (34, .iload_n 3, 1) (List.mem_of_getElem? (i := 18) rfl))
theorem dX6_build_35 : decode cX6_build 35 = .ok (.ireturn, 1) := of_decide_eq_true (List.all_eq_true.mp dA_X6_build_0 (35, .ireturn, 1) (List.mem_of_getElem? (i := 19) rfl))
theorem dX6_build_36 : decode cX6_build 36 = .ok (.aload_n 0, 1) := of_decide_eq_true (List.all_eq_true.mp dA_X6_build_0 (36, .aload_n 0, 1) (List.mem_of_getElem? (i := 20) rfl))
theorem dX6_build_37 : decode cX6_build 37 = .ok (.ldc 27, 2) := of_decide_eq_true (List.all_eq_true.mp dA_X6_build_0 (37, .ldc 27, 2) (List.mem_of_getElem? (i := 21) rfl))
theorem dX6_build_39 : decode cX6_build 39 = .ok (.invokevirtual 29, 3) := of_decide_eq_true (List.all_eq_true.mp dA_X6_build_0 (39, .invokevirtual 29, 3) (List.mem_of_getElem? (i := 22) rfl))
theorem dX6_build_42 : decode cX6_build 42 = .ok (.ifCond .eq 12, 3) := of_decide_eq_true (List.all_eq_true.mp dA_X6_build_0 (42, .ifCond .eq 12, 3) (List.mem_of_getElem? (i := 23) rfl))
theorem dX6_build_45 : decode cX6_build 45 = .ok (.aload_n 0, 1) := of_decide_eq_true (List.all_eq_true.mp dA_X6_build_0 (45, .aload_n 0, 1) (List.mem_of_getElem? (i := 24) rfl))
theorem dX6_build_46 : decode cX6_build 46 = .ok (.aload_n 1, 1) := of_decide_eq_true (List.all_eq_true.mp dA_X6_build_0 (46, .aload_n 1, 1) (List.mem_of_getElem? (i := 25) rfl))
theorem dX6_build_47 : decode cX6_build 47 = .ok (.invokestatic 33, 3) := of_decide_eq_true (List.all_eq_true.mp dA_X6_build_0 (47, .invokestatic 33, 3) (List.mem_of_getElem? (i := 26) rfl))
theorem dX6_build_50 : decode cX6_build 50 = .ok (.istore_n 2, 1) := of_decide_eq_true (List.all_eq_true.mp dA_X6_build_0 (50, .istore_n 2, 1) (List.mem_of_getElem? (i := 27) rfl))
theorem dX6_build_51 : decode cX6_build 51 = .ok (.goto 98, 3) := of_decide_eq_true (List.all_eq_true.mp dA_X6_build_0 (51, .goto 98, 3) (List.mem_of_getElem? (i := 28) rfl))
theorem dX6_build_54 : decode cX6_build 54 = .ok (.aload_n 0, 1) := of_decide_eq_true (List.all_eq_true.mp dA_X6_build_0 (54, .aload_n 0, 1) (List.mem_of_getElem? (i := 29) rfl))
theorem dX6_build_55 : decode cX6_build 55 = .ok (.ldc 36, 2) := of_decide_eq_true (List.all_eq_true.mp dA_X6_build_0 (55, .ldc 36, 2) (List.mem_of_getElem? (i := 30) rfl))
theorem dX6_build_57 : decode cX6_build 57 = .ok (.invokevirtual 29, 3) := of_decide_eq_true (List.all_eq_true.mp dA_X6_build_0 (57, .invokevirtual 29, 3) (List.mem_of_getElem? (i := 31) rfl))
theorem dX6_build_60 : decode cX6_build 60 = .ok (.ifCond .eq 12, 3) := of_decide_eq_true (List.all_eq_true.mp dA_X6_build_0 (60, .ifCond .eq 12, 3) (List.mem_of_getElem? (i := 32) rfl))
theorem dX6_build_63 : decode cX6_build 63 = .ok (.aload_n 0, 1) := of_decide_eq_true (List.all_eq_true.mp dA_X6_build_0 (63, .aload_n 0, 1) (List.mem_of_getElem? (i := 33) rfl))
theorem dX6_build_64 : decode cX6_build 64 = .ok (.aload_n 1, 1) := of_decide_eq_true (List.all_eq_true.mp dA_X6_build_0 (64, .aload_n 1, 1) (List.mem_of_getElem? (i := 34) rfl))
theorem dX6_build_65 : decode cX6_build 65 = .ok (.invokestatic 38, 3) := of_decide_eq_true (List.all_eq_true.mp dA_X6_build_0 (65, .invokestatic 38, 3) (List.mem_of_getElem? (i := 35) rfl))
theorem dX6_build_68 : decode cX6_build 68 = .ok (.istore_n 2, 1) := of_decide_eq_true (List.all_eq_true.mp dA_X6_build_0 (68, .istore_n 2, 1) (List.mem_of_getElem? (i := 36) rfl))
theorem dX6_build_69 : decode cX6_build 69 = .ok (.goto 80, 3) := of_decide_eq_true (List.all_eq_true.mp dA_X6_build_0 (69, .goto 80, 3) (List.mem_of_getElem? (i := 37) rfl))
theorem dX6_build_72 : decode cX6_build 72 = .ok (.aload_n 0, 1) := of_decide_eq_true (List.all_eq_true.mp dA_X6_build_0 (72, .aload_n 0, 1) (List.mem_of_getElem? (i := 38) rfl))
theorem dX6_build_73 : decode cX6_build 73 = .ok (.ldc 41, 2) := of_decide_eq_true (List.all_eq_true.mp dA_X6_build_0 (73, .ldc 41, 2) (List.mem_of_getElem? (i := 39) rfl))
set_option maxRecDepth 20000 in
theorem dA_X6_build_75 : (([(75, .invokevirtual 29, 3), (78, .ifCond .eq 12, 3), (81, .aload_n 0, 1), (82, .aload_n 1, 1), (83, .invokestatic 43, 3), (86, .istore_n 2, 1), (87, .goto 62, 3), (90, .aload_n 0, 1), (91, .ldc 46, 2), (93, .invokevirtual 29, 3), (96, .ifCond .eq 12, 3), (99, .aload_n 0, 1), (100, .aload_n 1, 1), (101, .invokestatic 48, 3), (104, .istore_n 2, 1), (105, .goto 44, 3), (108, .aload_n 0, 1), (109, .ldc 51, 2), (111, .invokevirtual 29, 3), (114, .ifCond .eq 12, 3), (117, .aload_n 0, 1), (118, .aload_n 1, 1), (119, .invokestatic 53, 3), (122, .istore_n 2, 1), (123, .goto 26, 3), (126, .aload_n 0, 1), (127, .ldc 56, 2), (129, .invokevirtual 29, 3), (132, .ifCond .eq 15, 3), (135, .aload_n 0, 1), (136, .aload_n 1, 1), (137, .invokestatic 58, 3), (140, .ifCond .eq 7, 3), (143, .iconst 1, 1), (144, .goto 4, 3), (147, .iconst 0, 1), (148, .istore_n 2, 1), (149, .iinc 3 1, 3), (152, .goto (-140), 3), (155, .bipush (-10), 2)] : List (Nat × Instr × Nat)).all fun q => decide (decode cX6_build q.1 = .ok (q.2.1, q.2.2))) = true := by decide +kernel
theorem dX6_build_75 : decode cX6_build 75 = .ok (.invokevirtual 29, 3) := of_decide_eq_true (List.all_eq_true.mp dA_X6_build_75 (75, .invokevirtual 29, 3) (List.mem_of_getElem? (i := 0) rfl))
theorem dX6_build_78 : decode cX6_build 78 = .ok (.ifCond .eq 12, 3) := of_decide_eq_true (List.all_eq_true.mp dA_X6_build_75 (78, .ifCond .eq 12, 3) (List.mem_of_getElem? (i := 1) rfl))
theorem dX6_build_81 : decode cX6_build 81 = .ok (.aload_n 0, 1) := of_decide_eq_true (List.all_eq_true.mp dA_X6_build_75 (81, .aload_n 0, 1) (List.mem_of_getElem? (i := 2) rfl))
theorem dX6_build_82 : decode cX6_build 82 = .ok (.aload_n 1, 1) := of_decide_eq_true (List.all_eq_true.mp dA_X6_build_75 (82, .aload_n 1, 1) (List.mem_of_getElem? (i := 3) rfl))
theorem dX6_build_83 : decode cX6_build 83 = .ok (.invokestatic 43, 3) := of_decide_eq_true (List.all_eq_true.mp dA_X6_build_75 (83, .invokestatic 43, 3) (List.mem_of_getElem? (i := 4) rfl))
theorem dX6_build_86 : decode cX6_build 86 = .ok (.istore_n 2, 1) := of_decide_eq_true (List.all_eq_true.mp dA_X6_build_75 (86, .istore_n 2, 1) (List.mem_of_getElem? (i := 5) rfl))
theorem dX6_build_87 : decode cX6_build 87 = .ok (.goto 62, 3) := of_decide_eq_true (List.all_eq_true.mp dA_X6_build_75 (87, .goto 62, 3) (List.mem_of_getElem? (i := 6) rfl))
theorem dX6_build_90 : decode cX6_build 90 = .ok (.aload_n 0, 1) := of_decide_eq_true (List.all_eq_true.mp dA_X6_build_75 (90, .aload_n 0, 1) (List.mem_of_getElem? (i := 7) rfl))
theorem dX6_build_91 : decode cX6_build 91 = .ok (.ldc 46, 2) := of_decide_eq_true (List.all_eq_true.mp dA_X6_build_75 (91, .ldc 46, 2) (List.mem_of_getElem? (i := 8) rfl))
theorem dX6_build_93 : decode cX6_build 93 = .ok (.invokevirtual 29, 3) := of_decide_eq_true (List.all_eq_true.mp dA_X6_build_75 (93, .invokevirtual 29, 3) (List.mem_of_getElem? (i := 9) rfl))
theorem dX6_build_96 : decode cX6_build 96 = .ok (.ifCond .eq 12, 3) := of_decide_eq_true (List.all_eq_true.mp dA_X6_build_75 (96, .ifCond .eq 12, 3) (List.mem_of_getElem? (i := 10) rfl))
theorem dX6_build_99 : decode cX6_build 99 = .ok (.aload_n 0, 1) := of_decide_eq_true (List.all_eq_true.mp dA_X6_build_75 (99, .aload_n 0, 1) (List.mem_of_getElem? (i := 11) rfl))
theorem dX6_build_100 : decode cX6_build 100 = .ok (.aload_n 1, 1) := of_decide_eq_true (List.all_eq_true.mp dA_X6_build_75 (100, .aload_n 1, 1) (List.mem_of_getElem? (i := 12) rfl))
theorem dX6_build_101 : decode cX6_build 101 = .ok (.invokestatic 48, 3) := of_decide_eq_true (List.all_eq_true.mp dA_X6_build_75 (101, .invokestatic 48, 3) (List.mem_of_getElem? (i := 13) rfl))
theorem dX6_build_104 : decode cX6_build 104 = .ok (.istore_n 2, 1) := of_decide_eq_true (List.all_eq_true.mp dA_X6_build_75 (104, .istore_n 2, 1) (List.mem_of_getElem? (i := 14) rfl))
theorem dX6_build_105 : decode cX6_build 105 = .ok (.goto 44, 3) := of_decide_eq_true (List.all_eq_true.mp dA_X6_build_75 (105, .goto 44, 3) (List.mem_of_getElem? (i := 15) rfl))
theorem dX6_build_108 : decode cX6_build 108 = .ok (.aload_n 0, 1) := of_decide_eq_true (List.all_eq_true.mp dA_X6_build_75 (108, .aload_n 0, 1) (List.mem_of_getElem? (i := 16) rfl))
theorem dX6_build_109 : decode cX6_build 109 = .ok (.ldc 51, 2) := of_decide_eq_true (List.all_eq_true.mp dA_X6_build_75 (109, .ldc 51, 2) (List.mem_of_getElem? (i := 17) rfl))
theorem dX6_build_111 : decode cX6_build 111 = .ok (.invokevirtual 29, 3) := of_decide_eq_true (List.all_eq_true.mp dA_X6_build_75 (111, .invokevirtual 29, 3) (List.mem_of_getElem? (i := 18) rfl))
theorem dX6_build_114 : decode cX6_build 114 = .ok (.ifCond .eq 12, 3) := of_decide_eq_true (List.all_eq_true.mp dA_X6_build_75 (114, .ifCond .eq 12, 3) (List.mem_of_getElem? (i := 19) rfl))
theorem dX6_build_117 : decode cX6_build 117 = .ok (.aload_n 0, 1) := of_decide_eq_true (List.all_eq_true.mp dA_X6_build_75 (117, .aload_n 0, 1) (List.mem_of_getElem? (i := 20) rfl))
theorem dX6_build_118 : decode cX6_build 118 = .ok (.aload_n 1, 1) := of_decide_eq_true (List.all_eq_true.mp dA_X6_build_75 (118, .aload_n 1, 1) (List.mem_of_getElem? (i := 21) rfl))
theorem dX6_build_119 : decode cX6_build 119 = .ok (.invokestatic 53, 3) := of_decide_eq_true (List.all_eq_true.mp dA_X6_build_75 (119, .invokestatic 53, 3) (List.mem_of_getElem? (i := 22) rfl))
theorem dX6_build_122 : decode cX6_build 122 = .ok (.istore_n 2, 1) := of_decide_eq_true (List.all_eq_true.mp dA_X6_build_75 (122, .istore_n 2, 1) (List.mem_of_getElem? (i := 23) rfl))
theorem dX6_build_123 : decode cX6_build 123 = .ok (.goto 26, 3) := of_decide_eq_true (List.all_eq_true.mp dA_X6_build_75 (123, .goto 26, 3) (List.mem_of_getElem? (i := 24) rfl))
theorem dX6_build_126 : decode cX6_build 126 = .ok (.aload_n 0, 1) := of_decide_eq_true (List.all_eq_true.mp dA_X6_build_75 (126, .aload_n 0, 1) (List.mem_of_getElem? (i := 25) rfl))
theorem dX6_build_127 : decode cX6_build 127 = .ok (.ldc 56, 2) := of_decide_eq_true (List.all_eq_true.mp dA_X6_build_75 (127, .ldc 56, 2) (List.mem_of_getElem? (i := 26) rfl))
theorem dX6_build_129 : decode cX6_build 129 = .ok (.invokevirtual 29, 3) := of_decide_eq_true (List.all_eq_true.mp dA_X6_build_75 (129, .invokevirtual 29, 3) (List.mem_of_getElem? (i := 27) rfl))
theorem dX6_build_132 : decode cX6_build 132 = .ok (.ifCond .eq 15, 3) := of_decide_eq_true (List.all_eq_true.mp dA_X6_build_75 (132, .ifCond .eq 15, 3) (List.mem_of_getElem? (i := 28) rfl))
theorem dX6_build_135 : decode cX6_build 135 = .ok (.aload_n 0, 1) := of_decide_eq_true (List.all_eq_true.mp dA_X6_build_75 (135, .aload_n 0, 1) (List.mem_of_getElem? (i := 29) rfl))
theorem dX6_build_136 : decode cX6_build 136 = .ok (.aload_n 1, 1) := of_decide_eq_true (List.all_eq_true.mp dA_X6_build_75 (136, .aload_n 1, 1) (List.mem_of_getElem? (i := 30) rfl))
theorem dX6_build_137 : decode cX6_build 137 = .ok (.invokestatic 58, 3) := of_decide_eq_true (List.all_eq_true.mp dA_X6_build_75 (137, .invokestatic 58, 3) (List.mem_of_getElem? (i := 31) rfl))
theorem dX6_build_140 : decode cX6_build 140 = .ok (.ifCond .eq 7, 3) := of_decide_eq_true (List.all_eq_true.mp dA_X6_build_75 (140, .ifCond .eq 7, 3) (List.mem_of_getElem? (i := 32) rfl))
theorem dX6_build_143 : decode cX6_build 143 = .ok (.iconst 1, 1) := of_decide_eq_true (List.all_eq_true.mp dA_X6_build_75 (143, .iconst 1, 1) (List.mem_of_getElem? (i := 33) rfl))
theorem dX6_build_144 : decode cX6_build 144 = .ok (.goto 4, 3) := of_decide_eq_true (List.all_eq_true.mp dA_X6_build_75 (144, .goto 4, 3) (List.mem_of_getElem? (i := 34) rfl))
theorem dX6_build_147 : decode cX6_build 147 = .ok (.iconst 0, 1) := of_decide_eq_true (List.all_eq_true.mp dA_X6_build_75 (147, .iconst 0, 1) (List.mem_of_getElem? (i := 35) rfl))
theorem dX6_build_148 : decode cX6_build 148 = .ok (.istore_n 2, 1) := of_decide_eq_true (List.all_eq_true.mp dA_X6_build_75 (148, .istore_n 2, 1) (List.mem_of_getElem? (i := 36) rfl))
theorem dX6_build_149 : decode cX6_build 149 = .ok (.iinc 3 1, 3) := of_decide_eq_true (List.all_eq_true.mp dA_X6_build_75 (149, .iinc 3 1, 3) (List.mem_of_getElem? (i := 37) rfl))
theorem dX6_build_152 : decode cX6_build 152 = .ok (.goto (-140), 3) := of_decide_eq_true (List.all_eq_true.mp dA_X6_build_75 (152, .goto (-140), 3) (List.mem_of_getElem? (i := 38) rfl))
theorem dX6_build_155 : decode cX6_build 155 = .ok (.bipush (-10), 2) := of_decide_eq_true (List.all_eq_true.mp dA_X6_build_75 (155, .bipush (-10), 2) (List.mem_of_getElem? (i := 39) rfl))
set_option maxRecDepth 20000 in
theorem dA_X6_build_157 : (([(157, .aload_n 0, 1), (158, .getfield 61, 3), (161, .isub, 1), (162, .ireturn, 1)] : List (Nat × Instr × Nat)).all fun q => decide (decode cX6_build q.1 = .ok (q.2.1, q.2.2))) = true := by decide +kernel
theorem dX6_build_157 : decode cX6_build 157 = .ok (.aload_n 0, 1) := of_decide_eq_true (List.all_eq_true.mp dA_X6_build_157 (157, .aload_n 0, 1) (List.mem_of_getElem? (i := 0) rfl))
theorem dX6_build_158 : decode cX6_build 158 = .ok (.getfield 61, 3) := of_decide_eq_true (List.all_eq_true.mp dA_X6_build_157 (158, .getfield 61, 3) (List.mem_of_getElem? (i := 1) rfl))
theorem dX6_build_161 : decode cX6_build 161 = .ok (.isub, 1) := of_decide_eq_true (List.all_eq_true.mp dA_X6_build_157 (161, .isub, 1) (List.mem_of_getElem? (i := 2) rfl))
theorem dX6_build_162 : decode cX6_build 162 = .ok (.ireturn, 1) := of_decide_eq_true (List.all_eq_true.mp dA_X6_build_157 (162, .ireturn, 1) (List.mem_of_getElem? (i := 3) rfl))
set_option maxRecDepth 20000 in
theorem ggX6_opening_X4_advance : GoodIn wsX6_opening wsX4_advance := goodIn_r _ [5, 6, 7, 8, 9, 10, 11, 12, 4, 13, 14, 15, 16, 17, 18, 19, 20, 21, 22, 115, 116, 117, 118, 119, 120] (by decide +kernel) (by decide +kernel)
set_option maxRecDepth 20000 in
theorem gX6_opening_X4_advance : GoodIn wsX6_opening (wsV RX6 20 RX4 yX4_advance wsX4_advance) := goodIn_app (goodIn_of _ (by decide +kernel)) ggX6_opening_X4_advance
set_option maxRecDepth 20000 in
theorem ggX6_opening_X4_names : GoodIn wsX6_opening wsX4_names := goodIn_r _ [26, 9, 6, 8, 27, 28, 29, 30, 31, 32, 33, 34, 35, 36, 37, 38, 10, 11, 12, 4, 13, 7, 14, 39, 40, 41, 42, 43, 44, 45, 46, 47, 48, 49, 50, 51, 52, 53, 54, 55, 56, 57, 58, 59, 60, 61, 62, 63, 64, 65, 66, 67, 68, 69, 70, 71, 72, 73, 74, 75, 115, 116, 117, 118, 119, 120] (by decide +kernel) (by decide +kernel)
set_option maxRecDepth 20000 in
theorem gX6_opening_X4_names : GoodIn wsX6_opening (wsV RX6 29 RX4 yX4_names wsX4_names) := goodIn_app (goodIn_of _ (by decide +kernel)) ggX6_opening_X4_names
set_option maxRecDepth 20000 in
theorem ggX6_opening_X6_numberWithin : GoodIn wsX6_opening wsX6_numberWithin := goodIn_r _ [79, 1, 2, 3, 4, 5, 6, 7, 8, 9, 10, 11, 12, 13, 14, 15, 16, 17, 18, 19, 20, 21, 22, 80, 81, 78, 82, 83, 84, 85, 115, 116, 117, 118, 119, 120] (by decide +kernel) (by decide +kernel)
set_option maxRecDepth 20000 in
theorem gX6_opening_X6_numberWithin : GoodIn wsX6_opening (va_wsS RX6 66 yX6_numberWithin wsX6_numberWithin) := goodIn_app (goodIn_of _ (by decide +kernel)) ggX6_opening_X6_numberWithin
set_option maxRecDepth 20000 in
theorem ggX6_opening_X1_begin : GoodIn wsX6_opening wsX1_begin := goodIn_r _ [90, 91, 92, 93, 94, 95, 96, 97, 98, 99, 100, 101, 102, 103, 89, 104, 105, 106, 107, 108, 109, 110, 111, 121, 122, 123, 124, 125, 126, 127, 128, 129, 130, 131, 132, 133, 134, 135] (by decide +kernel) (by decide +kernel)
set_option maxRecDepth 20000 in
theorem gX6_opening_X1_begin : GoodIn wsX6_opening (wsV RX6 70 RX1 yX1_begin wsX1_begin) := goodIn_app (goodIn_of _ (by decide +kernel)) ggX6_opening_X1_begin
set_option maxRecDepth 20000 in
theorem ggX6_opening_X6_stops : GoodIn wsX6_opening wsX6_stops := goodIn_r _ [114, 1, 2, 3, 4, 5, 6, 7, 8, 9, 10, 11, 12, 13, 14, 15, 16, 17, 18, 19, 20, 21, 22, 115, 116, 117, 118, 119, 120] (by decide +kernel) (by decide +kernel)
set_option maxRecDepth 20000 in
theorem gX6_opening_X6_stops : GoodIn wsX6_opening (va_wsS RX6 76 yX6_stops wsX6_stops) := goodIn_app (goodIn_of _ (by decide +kernel)) ggX6_opening_X6_stops
set_option maxRecDepth 20000 in
theorem dA_X6_opening_0 : (([(0, .aload_n 0, 1), (1, .invokevirtual 20, 3), (4, .aload_n 0, 1), (5, .ldc 64, 2), (7, .invokevirtual 29, 3), (10, .ifCond .ne 5, 3), (13, .iconst 0, 1), (14, .ireturn, 1), (15, .aload_n 0, 1), (16, .iconst 0, 1), (17, .iconst 5, 1), (18, .invokestatic 66, 3), (21, .istore_n 2, 1), (22, .iload_n 2, 1), (23, .ifCond .ge 5, 3), (26, .iconst 0, 1), (27, .ireturn, 1), (28, .aload_n 0, 1), (29, .iconst 0, 1), (30, .bipush 7, 2), (32, .invokestatic 66, 3), (35, .istore_n 3, 1), (36, .iload_n 3, 1), (37, .ifCond .ge 5, 3), (40, .iconst 0, 1), (41, .ireturn, 1), (42, .aload_n 1, 1), (43, .iload_n 2, 1), (44, .iload_n 3, 1), (45, .invokevirtual 70, 3), (48, .aload_n 0, 1), (49, .invokestatic 76, 3), (52, .ireturn, 1)] : List (Nat × Instr × Nat)).all fun q => decide (decode cX6_opening q.1 = .ok (q.2.1, q.2.2))) = true := by decide +kernel
theorem dX6_opening_0 : decode cX6_opening 0 = .ok (.aload_n 0, 1) := of_decide_eq_true (List.all_eq_true.mp dA_X6_opening_0 (0, .aload_n 0, 1) (List.mem_of_getElem? (i := 0) rfl))
theorem dX6_opening_1 : decode cX6_opening 1 = .ok (.invokevirtual 20, 3) := of_decide_eq_true (List.all_eq_true.mp dA_X6_opening_0 (1, .invokevirtual 20, 3) (List.mem_of_getElem? (i := 1) rfl))
theorem dX6_opening_4 : decode cX6_opening 4 = .ok (.aload_n 0, 1) := of_decide_eq_true (List.all_eq_true.mp dA_X6_opening_0 (4, .aload_n 0, 1) (List.mem_of_getElem? (i := 2) rfl))
theorem dX6_opening_5 : decode cX6_opening 5 = .ok (.ldc 64, 2) := of_decide_eq_true (List.all_eq_true.mp dA_X6_opening_0 (5, .ldc 64, 2) (List.mem_of_getElem? (i := 3) rfl))
theorem dX6_opening_7 : decode cX6_opening 7 = .ok (.invokevirtual 29, 3) := of_decide_eq_true (List.all_eq_true.mp dA_X6_opening_0 (7, .invokevirtual 29, 3) (List.mem_of_getElem? (i := 4) rfl))
theorem dX6_opening_10 : decode cX6_opening 10 = .ok (.ifCond .ne 5, 3) := of_decide_eq_true (List.all_eq_true.mp dA_X6_opening_0 (10, .ifCond .ne 5, 3) (List.mem_of_getElem? (i := 5) rfl))
theorem dX6_opening_13 : decode cX6_opening 13 = .ok (.iconst 0, 1) := of_decide_eq_true (List.all_eq_true.mp dA_X6_opening_0 (13, .iconst 0, 1) (List.mem_of_getElem? (i := 6) rfl))
theorem dX6_opening_14 : decode cX6_opening 14 = .ok (.ireturn, 1) := of_decide_eq_true (List.all_eq_true.mp dA_X6_opening_0 (14, .ireturn, 1) (List.mem_of_getElem? (i := 7) rfl))
theorem dX6_opening_15 : decode cX6_opening 15 = .ok (.aload_n 0, 1) := of_decide_eq_true (List.all_eq_true.mp dA_X6_opening_0 (15, .aload_n 0, 1) (List.mem_of_getElem? (i := 8) rfl))
theorem dX6_opening_16 : decode cX6_opening 16 = .ok (.iconst 0, 1) := of_decide_eq_true (List.all_eq_true.mp dA_X6_opening_0 (16, .iconst 0, 1) (List.mem_of_getElem? (i := 9) rfl))
theorem dX6_opening_17 : decode cX6_opening 17 = .ok (.iconst 5, 1) := of_decide_eq_true (List.all_eq_true.mp dA_X6_opening_0 (17, .iconst 5, 1) (List.mem_of_getElem? (i := 10) rfl))
theorem dX6_opening_18 : decode cX6_opening 18 = .ok (.invokestatic 66, 3) := of_decide_eq_true (List.all_eq_true.mp dA_X6_opening_0 (18, .invokestatic 66, 3) (List.mem_of_getElem? (i := 11) rfl))
theorem dX6_opening_21 : decode cX6_opening 21 = .ok (.istore_n 2, 1) := of_decide_eq_true (List.all_eq_true.mp dA_X6_opening_0 (21, .istore_n 2, 1) (List.mem_of_getElem? (i := 12) rfl))
theorem dX6_opening_22 : decode cX6_opening 22 = .ok (.iload_n 2, 1) := of_decide_eq_true (List.all_eq_true.mp dA_X6_opening_0 (22, .iload_n 2, 1) (List.mem_of_getElem? (i := 13) rfl))
theorem dX6_opening_23 : decode cX6_opening 23 = .ok (.ifCond .ge 5, 3) := of_decide_eq_true (List.all_eq_true.mp dA_X6_opening_0 (23, .ifCond .ge 5, 3) (List.mem_of_getElem? (i := 14) rfl))
theorem dX6_opening_26 : decode cX6_opening 26 = .ok (.iconst 0, 1) := of_decide_eq_true (List.all_eq_true.mp dA_X6_opening_0 (26, .iconst 0, 1) (List.mem_of_getElem? (i := 15) rfl))
theorem dX6_opening_27 : decode cX6_opening 27 = .ok (.ireturn, 1) := of_decide_eq_true (List.all_eq_true.mp dA_X6_opening_0 (27, .ireturn, 1) (List.mem_of_getElem? (i := 16) rfl))
theorem dX6_opening_28 : decode cX6_opening 28 = .ok (.aload_n 0, 1) := of_decide_eq_true (List.all_eq_true.mp dA_X6_opening_0 (28, .aload_n 0, 1) (List.mem_of_getElem? (i := 17) rfl))
theorem dX6_opening_29 : decode cX6_opening 29 = .ok (.iconst 0, 1) := of_decide_eq_true (List.all_eq_true.mp dA_X6_opening_0 (29, .iconst 0, 1) (List.mem_of_getElem? (i := 18) rfl))
theorem dX6_opening_30 : decode cX6_opening 30 = .ok (.bipush 7, 2) := of_decide_eq_true (List.all_eq_true.mp dA_X6_opening_0 (30, .bipush 7, 2) (List.mem_of_getElem? (i := 19) rfl))
theorem dX6_opening_32 : decode cX6_opening 32 = .ok (.invokestatic 66, 3) := of_decide_eq_true (List.all_eq_true.mp dA_X6_opening_0 (32, .invokestatic 66, 3) (List.mem_of_getElem? (i := 20) rfl))
theorem dX6_opening_35 : decode cX6_opening 35 = .ok (.istore_n 3, 1) := of_decide_eq_true (List.all_eq_true.mp dA_X6_opening_0 (35, .istore_n 3, 1) (List.mem_of_getElem? (i := 21) rfl))
theorem dX6_opening_36 : decode cX6_opening 36 = .ok (.iload_n 3, 1) := of_decide_eq_true (List.all_eq_true.mp dA_X6_opening_0 (36, .iload_n 3, 1) (List.mem_of_getElem? (i := 22) rfl))
theorem dX6_opening_37 : decode cX6_opening 37 = .ok (.ifCond .ge 5, 3) := of_decide_eq_true (List.all_eq_true.mp dA_X6_opening_0 (37, .ifCond .ge 5, 3) (List.mem_of_getElem? (i := 23) rfl))
theorem dX6_opening_40 : decode cX6_opening 40 = .ok (.iconst 0, 1) := of_decide_eq_true (List.all_eq_true.mp dA_X6_opening_0 (40, .iconst 0, 1) (List.mem_of_getElem? (i := 24) rfl))
theorem dX6_opening_41 : decode cX6_opening 41 = .ok (.ireturn, 1) := of_decide_eq_true (List.all_eq_true.mp dA_X6_opening_0 (41, .ireturn, 1) (List.mem_of_getElem? (i := 25) rfl))
theorem dX6_opening_42 : decode cX6_opening 42 = .ok (.aload_n 1, 1) := of_decide_eq_true (List.all_eq_true.mp dA_X6_opening_0 (42, .aload_n 1, 1) (List.mem_of_getElem? (i := 26) rfl))
theorem dX6_opening_43 : decode cX6_opening 43 = .ok (.iload_n 2, 1) := of_decide_eq_true (List.all_eq_true.mp dA_X6_opening_0 (43, .iload_n 2, 1) (List.mem_of_getElem? (i := 27) rfl))
theorem dX6_opening_44 : decode cX6_opening 44 = .ok (.iload_n 3, 1) := of_decide_eq_true (List.all_eq_true.mp dA_X6_opening_0 (44, .iload_n 3, 1) (List.mem_of_getElem? (i := 28) rfl))
theorem dX6_opening_45 : decode cX6_opening 45 = .ok (.invokevirtual 70, 3) := of_decide_eq_true (List.all_eq_true.mp dA_X6_opening_0 (45, .invokevirtual 70, 3) (List.mem_of_getElem? (i := 29) rfl))
theorem dX6_opening_48 : decode cX6_opening 48 = .ok (.aload_n 0, 1) := of_decide_eq_true (List.all_eq_true.mp dA_X6_opening_0 (48, .aload_n 0, 1) (List.mem_of_getElem? (i := 30) rfl))
theorem dX6_opening_49 : decode cX6_opening 49 = .ok (.invokestatic 76, 3) := of_decide_eq_true (List.all_eq_true.mp dA_X6_opening_0 (49, .invokestatic 76, 3) (List.mem_of_getElem? (i := 31) rfl))
theorem dX6_opening_52 : decode cX6_opening 52 = .ok (.ireturn, 1) := of_decide_eq_true (List.all_eq_true.mp dA_X6_opening_0 (52, .ireturn, 1) (List.mem_of_getElem? (i := 32) rfl))
set_option maxRecDepth 20000 in
theorem ggX6_wetItem_X4_advance : GoodIn wsX6_wetItem wsX4_advance := goodIn_r _ [5, 6, 7, 8, 9, 10, 11, 12, 4, 13, 14, 15, 16, 17, 18, 19, 20, 21, 22, 39, 40, 41, 42, 43, 44] (by decide +kernel) (by decide +kernel)
set_option maxRecDepth 20000 in
theorem gX6_wetItem_X4_advance : GoodIn wsX6_wetItem (wsV RX6 20 RX4 yX4_advance wsX4_advance) := goodIn_app (goodIn_of _ (by decide +kernel)) ggX6_wetItem_X4_advance
set_option maxRecDepth 20000 in
theorem ggX6_wetItem_X6_isNumberWithin : GoodIn wsX6_wetItem wsX6_isNumberWithin := goodIn_r _ [26, 27, 28, 29, 39, 40, 41, 42, 43, 44] (by decide +kernel) (by decide +kernel)
set_option maxRecDepth 20000 in
theorem gX6_wetItem_X6_isNumberWithin : GoodIn wsX6_wetItem (va_wsS RX6 80 yX6_isNumberWithin wsX6_isNumberWithin) := goodIn_app (goodIn_of _ (by decide +kernel)) ggX6_wetItem_X6_isNumberWithin
set_option maxRecDepth 20000 in
theorem ggX6_wetItem_X1_setWet : GoodIn wsX6_wetItem wsX1_setWet := goodIn_r _ [34, 35, 45, 46, 47, 48, 49, 50, 51, 52, 53, 54, 55] (by decide +kernel) (by decide +kernel)
set_option maxRecDepth 20000 in
theorem gX6_wetItem_X1_setWet : GoodIn wsX6_wetItem (wsV RX6 87 RX1 yX1_setWet wsX1_setWet) := goodIn_app (goodIn_of _ (by decide +kernel)) ggX6_wetItem_X1_setWet
set_option maxRecDepth 20000 in
theorem ggX6_wetItem_X6_stops : GoodIn wsX6_wetItem wsX6_stops := goodIn_r _ [38, 1, 2, 3, 4, 5, 6, 7, 8, 9, 10, 11, 12, 13, 14, 15, 16, 17, 18, 19, 20, 21, 22, 39, 40, 41, 42, 43, 44] (by decide +kernel) (by decide +kernel)
set_option maxRecDepth 20000 in
theorem gX6_wetItem_X6_stops : GoodIn wsX6_wetItem (va_wsS RX6 76 yX6_stops wsX6_stops) := goodIn_app (goodIn_of _ (by decide +kernel)) ggX6_wetItem_X6_stops
set_option maxRecDepth 20000 in
theorem dA_X6_wetItem_0 : (([(0, .iconst 0, 1), (1, .istore_n 2, 1), (2, .iload_n 2, 1), (3, .bipush 6, 2), (5, .if_icmp .ge 47, 3), (8, .aload_n 0, 1), (9, .invokevirtual 20, 3), (12, .iload_n 2, 1), (13, .ifCond .le 13, 3), (16, .aload_n 0, 1), (17, .getfield 23, 3), (20, .iconst 3, 1), (21, .if_icmp .ne 5, 3), (24, .iconst 1, 1), (25, .ireturn, 1), (26, .aload_n 0, 1), (27, .iconst 0, 1), (28, .iconst 4, 1), (29, .invokestatic 80, 3), (32, .ifCond .ne 5, 3), (35, .iconst 0, 1), (36, .ireturn, 1), (37, .aload_n 1, 1), (38, .iload_n 2, 1), (39, .aload_n 0, 1), (40, .getfield 84, 3), (43, .invokevirtual 87, 3), (46, .iinc 2 1, 3), (49, .goto (-47), 3), (52, .aload_n 0, 1), (53, .invokestatic 76, 3), (56, .ireturn, 1)] : List (Nat × Instr × Nat)).all fun q => decide (decode cX6_wetItem q.1 = .ok (q.2.1, q.2.2))) = true := by decide +kernel
theorem dX6_wetItem_0 : decode cX6_wetItem 0 = .ok (.iconst 0, 1) := of_decide_eq_true (List.all_eq_true.mp dA_X6_wetItem_0 (0, .iconst 0, 1) (List.mem_of_getElem? (i := 0) rfl))
theorem dX6_wetItem_1 : decode cX6_wetItem 1 = .ok (.istore_n 2, 1) := of_decide_eq_true (List.all_eq_true.mp dA_X6_wetItem_0 (1, .istore_n 2, 1) (List.mem_of_getElem? (i := 1) rfl))
theorem dX6_wetItem_2 : decode cX6_wetItem 2 = .ok (.iload_n 2, 1) := of_decide_eq_true (List.all_eq_true.mp dA_X6_wetItem_0 (2, .iload_n 2, 1) (List.mem_of_getElem? (i := 2) rfl))
theorem dX6_wetItem_3 : decode cX6_wetItem 3 = .ok (.bipush 6, 2) := of_decide_eq_true (List.all_eq_true.mp dA_X6_wetItem_0 (3, .bipush 6, 2) (List.mem_of_getElem? (i := 3) rfl))
theorem dX6_wetItem_5 : decode cX6_wetItem 5 = .ok (.if_icmp .ge 47, 3) := of_decide_eq_true (List.all_eq_true.mp dA_X6_wetItem_0 (5, .if_icmp .ge 47, 3) (List.mem_of_getElem? (i := 4) rfl))
theorem dX6_wetItem_8 : decode cX6_wetItem 8 = .ok (.aload_n 0, 1) := of_decide_eq_true (List.all_eq_true.mp dA_X6_wetItem_0 (8, .aload_n 0, 1) (List.mem_of_getElem? (i := 5) rfl))
theorem dX6_wetItem_9 : decode cX6_wetItem 9 = .ok (.invokevirtual 20, 3) := of_decide_eq_true (List.all_eq_true.mp dA_X6_wetItem_0 (9, .invokevirtual 20, 3) (List.mem_of_getElem? (i := 6) rfl))
theorem dX6_wetItem_12 : decode cX6_wetItem 12 = .ok (.iload_n 2, 1) := of_decide_eq_true (List.all_eq_true.mp dA_X6_wetItem_0 (12, .iload_n 2, 1) (List.mem_of_getElem? (i := 7) rfl))
theorem dX6_wetItem_13 : decode cX6_wetItem 13 = .ok (.ifCond .le 13, 3) := of_decide_eq_true (List.all_eq_true.mp dA_X6_wetItem_0 (13, .ifCond .le 13, 3) (List.mem_of_getElem? (i := 8) rfl))
theorem dX6_wetItem_16 : decode cX6_wetItem 16 = .ok (.aload_n 0, 1) := of_decide_eq_true (List.all_eq_true.mp dA_X6_wetItem_0 (16, .aload_n 0, 1) (List.mem_of_getElem? (i := 9) rfl))
theorem dX6_wetItem_17 : decode cX6_wetItem 17 = .ok (.getfield 23, 3) := of_decide_eq_true (List.all_eq_true.mp dA_X6_wetItem_0 (17, .getfield 23, 3) (List.mem_of_getElem? (i := 10) rfl))
theorem dX6_wetItem_20 : decode cX6_wetItem 20 = .ok (.iconst 3, 1) := of_decide_eq_true (List.all_eq_true.mp dA_X6_wetItem_0 (20, .iconst 3, 1) (List.mem_of_getElem? (i := 11) rfl))
theorem dX6_wetItem_21 : decode cX6_wetItem 21 = .ok (.if_icmp .ne 5, 3) := of_decide_eq_true (List.all_eq_true.mp dA_X6_wetItem_0 (21, .if_icmp .ne 5, 3) (List.mem_of_getElem? (i := 12) rfl))
theorem dX6_wetItem_24 : decode cX6_wetItem 24 = .ok (.iconst 1, 1) := of_decide_eq_true (List.all_eq_true.mp dA_X6_wetItem_0 (24, .iconst 1, 1) (List.mem_of_getElem? (i := 13) rfl))
theorem dX6_wetItem_25 : decode cX6_wetItem 25 = .ok (.ireturn, 1) := of_decide_eq_true (List.all_eq_true.mp dA_X6_wetItem_0 (25, .ireturn, 1) (List.mem_of_getElem? (i := 14) rfl))
theorem dX6_wetItem_26 : decode cX6_wetItem 26 = .ok (.aload_n 0, 1) := of_decide_eq_true (List.all_eq_true.mp dA_X6_wetItem_0 (26, .aload_n 0, 1) (List.mem_of_getElem? (i := 15) rfl))
theorem dX6_wetItem_27 : decode cX6_wetItem 27 = .ok (.iconst 0, 1) := of_decide_eq_true (List.all_eq_true.mp dA_X6_wetItem_0 (27, .iconst 0, 1) (List.mem_of_getElem? (i := 16) rfl))
theorem dX6_wetItem_28 : decode cX6_wetItem 28 = .ok (.iconst 4, 1) := of_decide_eq_true (List.all_eq_true.mp dA_X6_wetItem_0 (28, .iconst 4, 1) (List.mem_of_getElem? (i := 17) rfl))
theorem dX6_wetItem_29 : decode cX6_wetItem 29 = .ok (.invokestatic 80, 3) := of_decide_eq_true (List.all_eq_true.mp dA_X6_wetItem_0 (29, .invokestatic 80, 3) (List.mem_of_getElem? (i := 18) rfl))
theorem dX6_wetItem_32 : decode cX6_wetItem 32 = .ok (.ifCond .ne 5, 3) := of_decide_eq_true (List.all_eq_true.mp dA_X6_wetItem_0 (32, .ifCond .ne 5, 3) (List.mem_of_getElem? (i := 19) rfl))
theorem dX6_wetItem_35 : decode cX6_wetItem 35 = .ok (.iconst 0, 1) := of_decide_eq_true (List.all_eq_true.mp dA_X6_wetItem_0 (35, .iconst 0, 1) (List.mem_of_getElem? (i := 20) rfl))
theorem dX6_wetItem_36 : decode cX6_wetItem 36 = .ok (.ireturn, 1) := of_decide_eq_true (List.all_eq_true.mp dA_X6_wetItem_0 (36, .ireturn, 1) (List.mem_of_getElem? (i := 21) rfl))
theorem dX6_wetItem_37 : decode cX6_wetItem 37 = .ok (.aload_n 1, 1) := of_decide_eq_true (List.all_eq_true.mp dA_X6_wetItem_0 (37, .aload_n 1, 1) (List.mem_of_getElem? (i := 22) rfl))
theorem dX6_wetItem_38 : decode cX6_wetItem 38 = .ok (.iload_n 2, 1) := of_decide_eq_true (List.all_eq_true.mp dA_X6_wetItem_0 (38, .iload_n 2, 1) (List.mem_of_getElem? (i := 23) rfl))
theorem dX6_wetItem_39 : decode cX6_wetItem 39 = .ok (.aload_n 0, 1) := of_decide_eq_true (List.all_eq_true.mp dA_X6_wetItem_0 (39, .aload_n 0, 1) (List.mem_of_getElem? (i := 24) rfl))
theorem dX6_wetItem_40 : decode cX6_wetItem 40 = .ok (.getfield 84, 3) := of_decide_eq_true (List.all_eq_true.mp dA_X6_wetItem_0 (40, .getfield 84, 3) (List.mem_of_getElem? (i := 25) rfl))
theorem dX6_wetItem_43 : decode cX6_wetItem 43 = .ok (.invokevirtual 87, 3) := of_decide_eq_true (List.all_eq_true.mp dA_X6_wetItem_0 (43, .invokevirtual 87, 3) (List.mem_of_getElem? (i := 26) rfl))
theorem dX6_wetItem_46 : decode cX6_wetItem 46 = .ok (.iinc 2 1, 3) := of_decide_eq_true (List.all_eq_true.mp dA_X6_wetItem_0 (46, .iinc 2 1, 3) (List.mem_of_getElem? (i := 27) rfl))
theorem dX6_wetItem_49 : decode cX6_wetItem 49 = .ok (.goto (-47), 3) := of_decide_eq_true (List.all_eq_true.mp dA_X6_wetItem_0 (49, .goto (-47), 3) (List.mem_of_getElem? (i := 28) rfl))
theorem dX6_wetItem_52 : decode cX6_wetItem 52 = .ok (.aload_n 0, 1) := of_decide_eq_true (List.all_eq_true.mp dA_X6_wetItem_0 (52, .aload_n 0, 1) (List.mem_of_getElem? (i := 29) rfl))
theorem dX6_wetItem_53 : decode cX6_wetItem 53 = .ok (.invokestatic 76, 3) := of_decide_eq_true (List.all_eq_true.mp dA_X6_wetItem_0 (53, .invokestatic 76, 3) (List.mem_of_getElem? (i := 30) rfl))
theorem dX6_wetItem_56 : decode cX6_wetItem 56 = .ok (.ireturn, 1) := of_decide_eq_true (List.all_eq_true.mp dA_X6_wetItem_0 (56, .ireturn, 1) (List.mem_of_getElem? (i := 31) rfl))
set_option maxRecDepth 20000 in
theorem ggX6_guestItem_X5_isFull : GoodIn wsX6_guestItem wsX5_isFull := goodIn_r _ [5, 6, 7, 72, 73, 74, 75] (by decide +kernel) (by decide +kernel)
set_option maxRecDepth 20000 in
theorem gX6_guestItem_X5_isFull : GoodIn wsX6_guestItem (wsV RX6 94 RX5 yX5_isFull wsX5_isFull) := goodIn_app (goodIn_of _ (by decide +kernel)) ggX6_guestItem_X5_isFull
set_option maxRecDepth 20000 in
theorem ggX6_guestItem_X6_numberWithin : GoodIn wsX6_guestItem wsX6_numberWithin := goodIn_r _ [11, 12, 13, 14, 15, 16, 17, 18, 19, 20, 21, 22, 23, 24, 25, 26, 27, 28, 29, 30, 31, 32, 33, 34, 35, 10, 36, 37, 38, 39, 76, 77, 78, 79, 80, 81] (by decide +kernel) (by decide +kernel)
set_option maxRecDepth 20000 in
theorem gX6_guestItem_X6_numberWithin : GoodIn wsX6_guestItem (va_wsS RX6 66 yX6_numberWithin wsX6_numberWithin) := goodIn_app (goodIn_of _ (by decide +kernel)) ggX6_guestItem_X6_numberWithin
set_option maxRecDepth 20000 in
theorem ggX6_guestItem_X1_welcome : GoodIn wsX6_guestItem wsX1_welcome := goodIn_r _ [44, 45, 46, 47, 48, 4, 49, 6, 50, 51, 2, 3, 5, 7, 52, 53, 54, 55, 56, 57, 61, 62, 63, 64, 65, 66, 67, 68, 69, 70, 71, 72, 73, 74, 75] (by decide +kernel) (by decide +kernel)
set_option maxRecDepth 20000 in
theorem gX6_guestItem_X1_welcome : GoodIn wsX6_guestItem (wsV RX6 100 RX1 yX1_welcome wsX1_welcome) := goodIn_app (goodIn_of _ (by decide +kernel)) ggX6_guestItem_X1_welcome
set_option maxRecDepth 20000 in
theorem ggX6_guestItem_X6_stops : GoodIn wsX6_guestItem wsX6_stops := goodIn_r _ [60, 12, 13, 14, 15, 16, 17, 18, 19, 20, 21, 22, 23, 24, 25, 26, 27, 28, 29, 30, 31, 32, 33, 76, 77, 78, 79, 80, 81] (by decide +kernel) (by decide +kernel)
set_option maxRecDepth 20000 in
theorem gX6_guestItem_X6_stops : GoodIn wsX6_guestItem (va_wsS RX6 76 yX6_stops wsX6_stops) := goodIn_app (goodIn_of _ (by decide +kernel)) ggX6_guestItem_X6_stops
set_option maxRecDepth 20000 in
theorem dA_X6_guestItem_0 : (([(0, .aload_n 1, 1), (1, .getfield 90, 3), (4, .invokevirtual 94, 3), (7, .ifCond .eq 5, 3), (10, .iconst 0, 1), (11, .ireturn, 1), (12, .aload_n 0, 1), (13, .iconst 0, 1), (14, .iconst 5, 1), (15, .invokestatic 66, 3), (18, .istore_n 2, 1), (19, .iload_n 2, 1), (20, .ifCond .ge 5, 3), (23, .iconst 0, 1), (24, .ireturn, 1), (25, .aload_n 0, 1), (26, .iconst 0, 1), (27, .bipush 9, 2), (29, .invokestatic 66, 3), (32, .istore_n 3, 1), (33, .iload_n 3, 1), (34, .ifCond .ge 5, 3), (37, .iconst 0, 1), (38, .ireturn, 1), (39, .aload_n 1, 1), (40, .iload_n 2, 1), (41, .iload_n 3, 1), (42, .invokevirtual 100, 3), (45, .pop, 1), (46, .aload_n 0, 1), (47, .invokestatic 76, 3), (50, .ireturn, 1)] : List (Nat × Instr × Nat)).all fun q => decide (decode cX6_guestItem q.1 = .ok (q.2.1, q.2.2))) = true := by decide +kernel
theorem dX6_guestItem_0 : decode cX6_guestItem 0 = .ok (.aload_n 1, 1) := of_decide_eq_true (List.all_eq_true.mp dA_X6_guestItem_0 (0, .aload_n 1, 1) (List.mem_of_getElem? (i := 0) rfl))
theorem dX6_guestItem_1 : decode cX6_guestItem 1 = .ok (.getfield 90, 3) := of_decide_eq_true (List.all_eq_true.mp dA_X6_guestItem_0 (1, .getfield 90, 3) (List.mem_of_getElem? (i := 1) rfl))
theorem dX6_guestItem_4 : decode cX6_guestItem 4 = .ok (.invokevirtual 94, 3) := of_decide_eq_true (List.all_eq_true.mp dA_X6_guestItem_0 (4, .invokevirtual 94, 3) (List.mem_of_getElem? (i := 2) rfl))
theorem dX6_guestItem_7 : decode cX6_guestItem 7 = .ok (.ifCond .eq 5, 3) := of_decide_eq_true (List.all_eq_true.mp dA_X6_guestItem_0 (7, .ifCond .eq 5, 3) (List.mem_of_getElem? (i := 3) rfl))
theorem dX6_guestItem_10 : decode cX6_guestItem 10 = .ok (.iconst 0, 1) := of_decide_eq_true (List.all_eq_true.mp dA_X6_guestItem_0 (10, .iconst 0, 1) (List.mem_of_getElem? (i := 4) rfl))
theorem dX6_guestItem_11 : decode cX6_guestItem 11 = .ok (.ireturn, 1) := of_decide_eq_true (List.all_eq_true.mp dA_X6_guestItem_0 (11, .ireturn, 1) (List.mem_of_getElem? (i := 5) rfl))
theorem dX6_guestItem_12 : decode cX6_guestItem 12 = .ok (.aload_n 0, 1) := of_decide_eq_true (List.all_eq_true.mp dA_X6_guestItem_0 (12, .aload_n 0, 1) (List.mem_of_getElem? (i := 6) rfl))
theorem dX6_guestItem_13 : decode cX6_guestItem 13 = .ok (.iconst 0, 1) := of_decide_eq_true (List.all_eq_true.mp dA_X6_guestItem_0 (13, .iconst 0, 1) (List.mem_of_getElem? (i := 7) rfl))
theorem dX6_guestItem_14 : decode cX6_guestItem 14 = .ok (.iconst 5, 1) := of_decide_eq_true (List.all_eq_true.mp dA_X6_guestItem_0 (14, .iconst 5, 1) (List.mem_of_getElem? (i := 8) rfl))
theorem dX6_guestItem_15 : decode cX6_guestItem 15 = .ok (.invokestatic 66, 3) := of_decide_eq_true (List.all_eq_true.mp dA_X6_guestItem_0 (15, .invokestatic 66, 3) (List.mem_of_getElem? (i := 9) rfl))
theorem dX6_guestItem_18 : decode cX6_guestItem 18 = .ok (.istore_n 2, 1) := of_decide_eq_true (List.all_eq_true.mp dA_X6_guestItem_0 (18, .istore_n 2, 1) (List.mem_of_getElem? (i := 10) rfl))
theorem dX6_guestItem_19 : decode cX6_guestItem 19 = .ok (.iload_n 2, 1) := of_decide_eq_true (List.all_eq_true.mp dA_X6_guestItem_0 (19, .iload_n 2, 1) (List.mem_of_getElem? (i := 11) rfl))
theorem dX6_guestItem_20 : decode cX6_guestItem 20 = .ok (.ifCond .ge 5, 3) := of_decide_eq_true (List.all_eq_true.mp dA_X6_guestItem_0 (20, .ifCond .ge 5, 3) (List.mem_of_getElem? (i := 12) rfl))
theorem dX6_guestItem_23 : decode cX6_guestItem 23 = .ok (.iconst 0, 1) := of_decide_eq_true (List.all_eq_true.mp dA_X6_guestItem_0 (23, .iconst 0, 1) (List.mem_of_getElem? (i := 13) rfl))
theorem dX6_guestItem_24 : decode cX6_guestItem 24 = .ok (.ireturn, 1) := of_decide_eq_true (List.all_eq_true.mp dA_X6_guestItem_0 (24, .ireturn, 1) (List.mem_of_getElem? (i := 14) rfl))
theorem dX6_guestItem_25 : decode cX6_guestItem 25 = .ok (.aload_n 0, 1) := of_decide_eq_true (List.all_eq_true.mp dA_X6_guestItem_0 (25, .aload_n 0, 1) (List.mem_of_getElem? (i := 15) rfl))
theorem dX6_guestItem_26 : decode cX6_guestItem 26 = .ok (.iconst 0, 1) := of_decide_eq_true (List.all_eq_true.mp dA_X6_guestItem_0 (26, .iconst 0, 1) (List.mem_of_getElem? (i := 16) rfl))
theorem dX6_guestItem_27 : decode cX6_guestItem 27 = .ok (.bipush 9, 2) := of_decide_eq_true (List.all_eq_true.mp dA_X6_guestItem_0 (27, .bipush 9, 2) (List.mem_of_getElem? (i := 17) rfl))
theorem dX6_guestItem_29 : decode cX6_guestItem 29 = .ok (.invokestatic 66, 3) := of_decide_eq_true (List.all_eq_true.mp dA_X6_guestItem_0 (29, .invokestatic 66, 3) (List.mem_of_getElem? (i := 18) rfl))
theorem dX6_guestItem_32 : decode cX6_guestItem 32 = .ok (.istore_n 3, 1) := of_decide_eq_true (List.all_eq_true.mp dA_X6_guestItem_0 (32, .istore_n 3, 1) (List.mem_of_getElem? (i := 19) rfl))
theorem dX6_guestItem_33 : decode cX6_guestItem 33 = .ok (.iload_n 3, 1) := of_decide_eq_true (List.all_eq_true.mp dA_X6_guestItem_0 (33, .iload_n 3, 1) (List.mem_of_getElem? (i := 20) rfl))
theorem dX6_guestItem_34 : decode cX6_guestItem 34 = .ok (.ifCond .ge 5, 3) := of_decide_eq_true (List.all_eq_true.mp dA_X6_guestItem_0 (34, .ifCond .ge 5, 3) (List.mem_of_getElem? (i := 21) rfl))
theorem dX6_guestItem_37 : decode cX6_guestItem 37 = .ok (.iconst 0, 1) := of_decide_eq_true (List.all_eq_true.mp dA_X6_guestItem_0 (37, .iconst 0, 1) (List.mem_of_getElem? (i := 22) rfl))
theorem dX6_guestItem_38 : decode cX6_guestItem 38 = .ok (.ireturn, 1) := of_decide_eq_true (List.all_eq_true.mp dA_X6_guestItem_0 (38, .ireturn, 1) (List.mem_of_getElem? (i := 23) rfl))
theorem dX6_guestItem_39 : decode cX6_guestItem 39 = .ok (.aload_n 1, 1) := of_decide_eq_true (List.all_eq_true.mp dA_X6_guestItem_0 (39, .aload_n 1, 1) (List.mem_of_getElem? (i := 24) rfl))
theorem dX6_guestItem_40 : decode cX6_guestItem 40 = .ok (.iload_n 2, 1) := of_decide_eq_true (List.all_eq_true.mp dA_X6_guestItem_0 (40, .iload_n 2, 1) (List.mem_of_getElem? (i := 25) rfl))
theorem dX6_guestItem_41 : decode cX6_guestItem 41 = .ok (.iload_n 3, 1) := of_decide_eq_true (List.all_eq_true.mp dA_X6_guestItem_0 (41, .iload_n 3, 1) (List.mem_of_getElem? (i := 26) rfl))
theorem dX6_guestItem_42 : decode cX6_guestItem 42 = .ok (.invokevirtual 100, 3) := of_decide_eq_true (List.all_eq_true.mp dA_X6_guestItem_0 (42, .invokevirtual 100, 3) (List.mem_of_getElem? (i := 27) rfl))
theorem dX6_guestItem_45 : decode cX6_guestItem 45 = .ok (.pop, 1) := of_decide_eq_true (List.all_eq_true.mp dA_X6_guestItem_0 (45, .pop, 1) (List.mem_of_getElem? (i := 28) rfl))
theorem dX6_guestItem_46 : decode cX6_guestItem 46 = .ok (.aload_n 0, 1) := of_decide_eq_true (List.all_eq_true.mp dA_X6_guestItem_0 (46, .aload_n 0, 1) (List.mem_of_getElem? (i := 29) rfl))
theorem dX6_guestItem_47 : decode cX6_guestItem 47 = .ok (.invokestatic 76, 3) := of_decide_eq_true (List.all_eq_true.mp dA_X6_guestItem_0 (47, .invokestatic 76, 3) (List.mem_of_getElem? (i := 30) rfl))
theorem dX6_guestItem_50 : decode cX6_guestItem 50 = .ok (.ireturn, 1) := of_decide_eq_true (List.all_eq_true.mp dA_X6_guestItem_0 (50, .ireturn, 1) (List.mem_of_getElem? (i := 31) rfl))
set_option maxRecDepth 20000 in
theorem ggX6_comeItem_X6_numberWithin : GoodIn wsX6_comeItem wsX6_numberWithin := goodIn_r _ [4, 5, 6, 7, 8, 9, 10, 11, 12, 13, 14, 15, 16, 17, 18, 19, 20, 21, 22, 23, 24, 25, 26, 27, 28, 3, 29, 30, 31, 32, 115, 116, 117, 118, 119, 120] (by decide +kernel) (by decide +kernel)
set_option maxRecDepth 20000 in
theorem gX6_comeItem_X6_numberWithin : GoodIn wsX6_comeItem (va_wsS RX6 66 yX6_numberWithin wsX6_numberWithin) := goodIn_app (goodIn_of _ (by decide +kernel)) ggX6_comeItem_X6_numberWithin
set_option maxRecDepth 20000 in
theorem ggX6_comeItem_X1_isIn : GoodIn wsX6_comeItem wsX1_isIn := goodIn_r _ [37, 38, 39, 40, 41, 42, 43, 44, 45, 46, 100, 101, 102, 103, 104, 105, 106, 107, 108, 109, 110, 111, 112, 113, 114] (by decide +kernel) (by decide +kernel)
set_option maxRecDepth 20000 in
theorem gX6_comeItem_X1_isIn : GoodIn wsX6_comeItem (wsV RX6 107 RX1 yX1_isIn wsX1_isIn) := goodIn_app (goodIn_of _ (by decide +kernel)) ggX6_comeItem_X1_isIn
set_option maxRecDepth 20000 in
theorem ggX6_comeItem_X1_arrive : GoodIn wsX6_comeItem wsX1_arrive := goodIn_r _ [50, 38, 51, 52, 53, 54, 55, 56, 57, 58, 59, 36, 60, 61, 62, 63, 64, 65, 66, 67, 68, 69, 70, 71, 72, 73, 74, 75, 76, 77, 78, 79, 42, 80, 44, 81, 40, 41, 43, 45, 46, 82, 83, 84, 85, 39, 86, 87, 88, 89, 90, 91, 92, 93, 94, 95, 96, 100, 101, 102, 103, 104, 105, 106, 107, 108, 109, 110, 111, 112, 113, 114] (by decide +kernel) (by decide +kernel)
set_option maxRecDepth 20000 in
theorem gX6_comeItem_X1_arrive : GoodIn wsX6_comeItem (wsV RX6 111 RX1 yX1_arrive wsX1_arrive) := goodIn_app (goodIn_of _ (by decide +kernel)) ggX6_comeItem_X1_arrive
set_option maxRecDepth 20000 in
theorem ggX6_comeItem_X6_stops : GoodIn wsX6_comeItem wsX6_stops := goodIn_r _ [99, 5, 6, 7, 8, 9, 10, 11, 12, 13, 14, 15, 16, 17, 18, 19, 20, 21, 22, 23, 24, 25, 26, 115, 116, 117, 118, 119, 120] (by decide +kernel) (by decide +kernel)
set_option maxRecDepth 20000 in
theorem gX6_comeItem_X6_stops : GoodIn wsX6_comeItem (va_wsS RX6 76 yX6_stops wsX6_stops) := goodIn_app (goodIn_of _ (by decide +kernel)) ggX6_comeItem_X6_stops
set_option maxRecDepth 20000 in
theorem dA_X6_comeItem_0 : (([(0, .aload_n 0, 1), (1, .iconst 0, 1), (2, .aload_n 1, 1), (3, .getfield 90, 3), (6, .getfield 104, 3), (9, .iconst 1, 1), (10, .isub, 1), (11, .invokestatic 66, 3), (14, .istore_n 2, 1), (15, .iload_n 2, 1), (16, .ifCond .lt 11, 3), (19, .aload_n 1, 1), (20, .iload_n 2, 1), (21, .invokevirtual 107, 3), (24, .ifCond .eq 5, 3), (27, .iconst 0, 1), (28, .ireturn, 1), (29, .aload_n 1, 1), (30, .iload_n 2, 1), (31, .invokevirtual 111, 3), (34, .pop, 1), (35, .aload_n 0, 1), (36, .invokestatic 76, 3), (39, .ireturn, 1)] : List (Nat × Instr × Nat)).all fun q => decide (decode cX6_comeItem q.1 = .ok (q.2.1, q.2.2))) = true := by decide +kernel
theorem dX6_comeItem_0 : decode cX6_comeItem 0 = .ok (.aload_n 0, 1) := of_decide_eq_true (List.all_eq_true.mp dA_X6_comeItem_0 (0, .aload_n 0, 1) (List.mem_of_getElem? (i := 0) rfl))
theorem dX6_comeItem_1 : decode cX6_comeItem 1 = .ok (.iconst 0, 1) := of_decide_eq_true (List.all_eq_true.mp dA_X6_comeItem_0 (1, .iconst 0, 1) (List.mem_of_getElem? (i := 1) rfl))
theorem dX6_comeItem_2 : decode cX6_comeItem 2 = .ok (.aload_n 1, 1) := of_decide_eq_true (List.all_eq_true.mp dA_X6_comeItem_0 (2, .aload_n 1, 1) (List.mem_of_getElem? (i := 2) rfl))
theorem dX6_comeItem_3 : decode cX6_comeItem 3 = .ok (.getfield 90, 3) := of_decide_eq_true (List.all_eq_true.mp dA_X6_comeItem_0 (3, .getfield 90, 3) (List.mem_of_getElem? (i := 3) rfl))
theorem dX6_comeItem_6 : decode cX6_comeItem 6 = .ok (.getfield 104, 3) := of_decide_eq_true (List.all_eq_true.mp dA_X6_comeItem_0 (6, .getfield 104, 3) (List.mem_of_getElem? (i := 4) rfl))
theorem dX6_comeItem_9 : decode cX6_comeItem 9 = .ok (.iconst 1, 1) := of_decide_eq_true (List.all_eq_true.mp dA_X6_comeItem_0 (9, .iconst 1, 1) (List.mem_of_getElem? (i := 5) rfl))
theorem dX6_comeItem_10 : decode cX6_comeItem 10 = .ok (.isub, 1) := of_decide_eq_true (List.all_eq_true.mp dA_X6_comeItem_0 (10, .isub, 1) (List.mem_of_getElem? (i := 6) rfl))
theorem dX6_comeItem_11 : decode cX6_comeItem 11 = .ok (.invokestatic 66, 3) := of_decide_eq_true (List.all_eq_true.mp dA_X6_comeItem_0 (11, .invokestatic 66, 3) (List.mem_of_getElem? (i := 7) rfl))
theorem dX6_comeItem_14 : decode cX6_comeItem 14 = .ok (.istore_n 2, 1) := of_decide_eq_true (List.all_eq_true.mp dA_X6_comeItem_0 (14, .istore_n 2, 1) (List.mem_of_getElem? (i := 8) rfl))
theorem dX6_comeItem_15 : decode cX6_comeItem 15 = .ok (.iload_n 2, 1) := of_decide_eq_true (List.all_eq_true.mp dA_X6_comeItem_0 (15, .iload_n 2, 1) (List.mem_of_getElem? (i := 9) rfl))
theorem dX6_comeItem_16 : decode cX6_comeItem 16 = .ok (.ifCond .lt 11, 3) := of_decide_eq_true (List.all_eq_true.mp dA_X6_comeItem_0 (16, .ifCond .lt 11, 3) (List.mem_of_getElem? (i := 10) rfl))
theorem dX6_comeItem_19 : decode cX6_comeItem 19 = .ok (.aload_n 1, 1) := of_decide_eq_true (List.all_eq_true.mp dA_X6_comeItem_0 (19, .aload_n 1, 1) (List.mem_of_getElem? (i := 11) rfl))
theorem dX6_comeItem_20 : decode cX6_comeItem 20 = .ok (.iload_n 2, 1) := of_decide_eq_true (List.all_eq_true.mp dA_X6_comeItem_0 (20, .iload_n 2, 1) (List.mem_of_getElem? (i := 12) rfl))
theorem dX6_comeItem_21 : decode cX6_comeItem 21 = .ok (.invokevirtual 107, 3) := of_decide_eq_true (List.all_eq_true.mp dA_X6_comeItem_0 (21, .invokevirtual 107, 3) (List.mem_of_getElem? (i := 13) rfl))
theorem dX6_comeItem_24 : decode cX6_comeItem 24 = .ok (.ifCond .eq 5, 3) := of_decide_eq_true (List.all_eq_true.mp dA_X6_comeItem_0 (24, .ifCond .eq 5, 3) (List.mem_of_getElem? (i := 14) rfl))
theorem dX6_comeItem_27 : decode cX6_comeItem 27 = .ok (.iconst 0, 1) := of_decide_eq_true (List.all_eq_true.mp dA_X6_comeItem_0 (27, .iconst 0, 1) (List.mem_of_getElem? (i := 15) rfl))
theorem dX6_comeItem_28 : decode cX6_comeItem 28 = .ok (.ireturn, 1) := of_decide_eq_true (List.all_eq_true.mp dA_X6_comeItem_0 (28, .ireturn, 1) (List.mem_of_getElem? (i := 16) rfl))
theorem dX6_comeItem_29 : decode cX6_comeItem 29 = .ok (.aload_n 1, 1) := of_decide_eq_true (List.all_eq_true.mp dA_X6_comeItem_0 (29, .aload_n 1, 1) (List.mem_of_getElem? (i := 17) rfl))
theorem dX6_comeItem_30 : decode cX6_comeItem 30 = .ok (.iload_n 2, 1) := of_decide_eq_true (List.all_eq_true.mp dA_X6_comeItem_0 (30, .iload_n 2, 1) (List.mem_of_getElem? (i := 18) rfl))
theorem dX6_comeItem_31 : decode cX6_comeItem 31 = .ok (.invokevirtual 111, 3) := of_decide_eq_true (List.all_eq_true.mp dA_X6_comeItem_0 (31, .invokevirtual 111, 3) (List.mem_of_getElem? (i := 19) rfl))
theorem dX6_comeItem_34 : decode cX6_comeItem 34 = .ok (.pop, 1) := of_decide_eq_true (List.all_eq_true.mp dA_X6_comeItem_0 (34, .pop, 1) (List.mem_of_getElem? (i := 20) rfl))
theorem dX6_comeItem_35 : decode cX6_comeItem 35 = .ok (.aload_n 0, 1) := of_decide_eq_true (List.all_eq_true.mp dA_X6_comeItem_0 (35, .aload_n 0, 1) (List.mem_of_getElem? (i := 21) rfl))
theorem dX6_comeItem_36 : decode cX6_comeItem 36 = .ok (.invokestatic 76, 3) := of_decide_eq_true (List.all_eq_true.mp dA_X6_comeItem_0 (36, .invokestatic 76, 3) (List.mem_of_getElem? (i := 22) rfl))
theorem dX6_comeItem_39 : decode cX6_comeItem 39 = .ok (.ireturn, 1) := of_decide_eq_true (List.all_eq_true.mp dA_X6_comeItem_0 (39, .ireturn, 1) (List.mem_of_getElem? (i := 23) rfl))
set_option maxRecDepth 20000 in
theorem ggX6_goItem_X6_numberWithin : GoodIn wsX6_goItem wsX6_numberWithin := goodIn_r _ [4, 5, 6, 7, 8, 9, 10, 11, 12, 13, 14, 15, 16, 17, 18, 19, 20, 21, 22, 23, 24, 25, 26, 27, 28, 3, 29, 30, 31, 32, 73, 74, 75, 76, 77, 78] (by decide +kernel) (by decide +kernel)
set_option maxRecDepth 20000 in
theorem gX6_goItem_X6_numberWithin : GoodIn wsX6_goItem (va_wsS RX6 66 yX6_numberWithin wsX6_numberWithin) := goodIn_app (goodIn_of _ (by decide +kernel)) ggX6_goItem_X6_numberWithin
set_option maxRecDepth 20000 in
theorem ggX6_goItem_X1_isIn : GoodIn wsX6_goItem wsX1_isIn := goodIn_r _ [37, 38, 39, 40, 41, 42, 43, 44, 45, 46, 58, 59, 60, 61, 62, 63, 64, 65, 66, 67, 68, 69, 70, 71, 72] (by decide +kernel) (by decide +kernel)
set_option maxRecDepth 20000 in
theorem gX6_goItem_X1_isIn : GoodIn wsX6_goItem (wsV RX6 107 RX1 yX1_isIn wsX1_isIn) := goodIn_app (goodIn_of _ (by decide +kernel)) ggX6_goItem_X1_isIn
set_option maxRecDepth 20000 in
theorem ggX6_goItem_X1_leave : GoodIn wsX6_goItem wsX1_leave := goodIn_r _ [50, 38, 51, 52, 53, 42, 54, 44, 45, 46, 58, 59, 60, 61, 62, 63, 64, 65, 66, 67, 68, 69, 70, 71, 72] (by decide +kernel) (by decide +kernel)
set_option maxRecDepth 20000 in
theorem gX6_goItem_X1_leave : GoodIn wsX6_goItem (wsV RX6 114 RX1 yX1_leave wsX1_leave) := goodIn_app (goodIn_of _ (by decide +kernel)) ggX6_goItem_X1_leave
set_option maxRecDepth 20000 in
theorem ggX6_goItem_X6_stops : GoodIn wsX6_goItem wsX6_stops := goodIn_r _ [57, 5, 6, 7, 8, 9, 10, 11, 12, 13, 14, 15, 16, 17, 18, 19, 20, 21, 22, 23, 24, 25, 26, 73, 74, 75, 76, 77, 78] (by decide +kernel) (by decide +kernel)
set_option maxRecDepth 20000 in
theorem gX6_goItem_X6_stops : GoodIn wsX6_goItem (va_wsS RX6 76 yX6_stops wsX6_stops) := goodIn_app (goodIn_of _ (by decide +kernel)) ggX6_goItem_X6_stops
set_option maxRecDepth 20000 in
theorem dA_X6_goItem_0 : (([(0, .aload_n 0, 1), (1, .iconst 0, 1), (2, .aload_n 1, 1), (3, .getfield 90, 3), (6, .getfield 104, 3), (9, .iconst 1, 1), (10, .isub, 1), (11, .invokestatic 66, 3), (14, .istore_n 2, 1), (15, .iload_n 2, 1), (16, .ifCond .lt 11, 3), (19, .aload_n 1, 1), (20, .iload_n 2, 1), (21, .invokevirtual 107, 3), (24, .ifCond .ne 5, 3), (27, .iconst 0, 1), (28, .ireturn, 1), (29, .aload_n 1, 1), (30, .iload_n 2, 1), (31, .invokevirtual 114, 3), (34, .aload_n 0, 1), (35, .invokestatic 76, 3), (38, .ireturn, 1)] : List (Nat × Instr × Nat)).all fun q => decide (decode cX6_goItem q.1 = .ok (q.2.1, q.2.2))) = true := by decide +kernel
theorem dX6_goItem_0 : decode cX6_goItem 0 = .ok (.aload_n 0, 1) := of_decide_eq_true (List.all_eq_true.mp dA_X6_goItem_0 (0, .aload_n 0, 1) (List.mem_of_getElem? (i := 0) rfl))
theorem dX6_goItem_1 : decode cX6_goItem 1 = .ok (.iconst 0, 1) := of_decide_eq_true (List.all_eq_true.mp dA_X6_goItem_0 (1, .iconst 0, 1) (List.mem_of_getElem? (i := 1) rfl))
theorem dX6_goItem_2 : decode cX6_goItem 2 = .ok (.aload_n 1, 1) := of_decide_eq_true (List.all_eq_true.mp dA_X6_goItem_0 (2, .aload_n 1, 1) (List.mem_of_getElem? (i := 2) rfl))
theorem dX6_goItem_3 : decode cX6_goItem 3 = .ok (.getfield 90, 3) := of_decide_eq_true (List.all_eq_true.mp dA_X6_goItem_0 (3, .getfield 90, 3) (List.mem_of_getElem? (i := 3) rfl))
theorem dX6_goItem_6 : decode cX6_goItem 6 = .ok (.getfield 104, 3) := of_decide_eq_true (List.all_eq_true.mp dA_X6_goItem_0 (6, .getfield 104, 3) (List.mem_of_getElem? (i := 4) rfl))
theorem dX6_goItem_9 : decode cX6_goItem 9 = .ok (.iconst 1, 1) := of_decide_eq_true (List.all_eq_true.mp dA_X6_goItem_0 (9, .iconst 1, 1) (List.mem_of_getElem? (i := 5) rfl))
theorem dX6_goItem_10 : decode cX6_goItem 10 = .ok (.isub, 1) := of_decide_eq_true (List.all_eq_true.mp dA_X6_goItem_0 (10, .isub, 1) (List.mem_of_getElem? (i := 6) rfl))
theorem dX6_goItem_11 : decode cX6_goItem 11 = .ok (.invokestatic 66, 3) := of_decide_eq_true (List.all_eq_true.mp dA_X6_goItem_0 (11, .invokestatic 66, 3) (List.mem_of_getElem? (i := 7) rfl))
theorem dX6_goItem_14 : decode cX6_goItem 14 = .ok (.istore_n 2, 1) := of_decide_eq_true (List.all_eq_true.mp dA_X6_goItem_0 (14, .istore_n 2, 1) (List.mem_of_getElem? (i := 8) rfl))
theorem dX6_goItem_15 : decode cX6_goItem 15 = .ok (.iload_n 2, 1) := of_decide_eq_true (List.all_eq_true.mp dA_X6_goItem_0 (15, .iload_n 2, 1) (List.mem_of_getElem? (i := 9) rfl))
theorem dX6_goItem_16 : decode cX6_goItem 16 = .ok (.ifCond .lt 11, 3) := of_decide_eq_true (List.all_eq_true.mp dA_X6_goItem_0 (16, .ifCond .lt 11, 3) (List.mem_of_getElem? (i := 10) rfl))
theorem dX6_goItem_19 : decode cX6_goItem 19 = .ok (.aload_n 1, 1) := of_decide_eq_true (List.all_eq_true.mp dA_X6_goItem_0 (19, .aload_n 1, 1) (List.mem_of_getElem? (i := 11) rfl))
theorem dX6_goItem_20 : decode cX6_goItem 20 = .ok (.iload_n 2, 1) := of_decide_eq_true (List.all_eq_true.mp dA_X6_goItem_0 (20, .iload_n 2, 1) (List.mem_of_getElem? (i := 12) rfl))
theorem dX6_goItem_21 : decode cX6_goItem 21 = .ok (.invokevirtual 107, 3) := of_decide_eq_true (List.all_eq_true.mp dA_X6_goItem_0 (21, .invokevirtual 107, 3) (List.mem_of_getElem? (i := 13) rfl))
theorem dX6_goItem_24 : decode cX6_goItem 24 = .ok (.ifCond .ne 5, 3) := of_decide_eq_true (List.all_eq_true.mp dA_X6_goItem_0 (24, .ifCond .ne 5, 3) (List.mem_of_getElem? (i := 14) rfl))
theorem dX6_goItem_27 : decode cX6_goItem 27 = .ok (.iconst 0, 1) := of_decide_eq_true (List.all_eq_true.mp dA_X6_goItem_0 (27, .iconst 0, 1) (List.mem_of_getElem? (i := 15) rfl))
theorem dX6_goItem_28 : decode cX6_goItem 28 = .ok (.ireturn, 1) := of_decide_eq_true (List.all_eq_true.mp dA_X6_goItem_0 (28, .ireturn, 1) (List.mem_of_getElem? (i := 16) rfl))
theorem dX6_goItem_29 : decode cX6_goItem 29 = .ok (.aload_n 1, 1) := of_decide_eq_true (List.all_eq_true.mp dA_X6_goItem_0 (29, .aload_n 1, 1) (List.mem_of_getElem? (i := 17) rfl))
theorem dX6_goItem_30 : decode cX6_goItem 30 = .ok (.iload_n 2, 1) := of_decide_eq_true (List.all_eq_true.mp dA_X6_goItem_0 (30, .iload_n 2, 1) (List.mem_of_getElem? (i := 18) rfl))
theorem dX6_goItem_31 : decode cX6_goItem 31 = .ok (.invokevirtual 114, 3) := of_decide_eq_true (List.all_eq_true.mp dA_X6_goItem_0 (31, .invokevirtual 114, 3) (List.mem_of_getElem? (i := 19) rfl))
theorem dX6_goItem_34 : decode cX6_goItem 34 = .ok (.aload_n 0, 1) := of_decide_eq_true (List.all_eq_true.mp dA_X6_goItem_0 (34, .aload_n 0, 1) (List.mem_of_getElem? (i := 20) rfl))
theorem dX6_goItem_35 : decode cX6_goItem 35 = .ok (.invokestatic 76, 3) := of_decide_eq_true (List.all_eq_true.mp dA_X6_goItem_0 (35, .invokestatic 76, 3) (List.mem_of_getElem? (i := 21) rfl))
theorem dX6_goItem_38 : decode cX6_goItem 38 = .ok (.ireturn, 1) := of_decide_eq_true (List.all_eq_true.mp dA_X6_goItem_0 (38, .ireturn, 1) (List.mem_of_getElem? (i := 22) rfl))
set_option maxRecDepth 20000 in
theorem ggX6_letterItem_X6_numberWithin : GoodIn wsX6_letterItem wsX6_numberWithin := goodIn_r _ [4, 5, 6, 7, 8, 9, 10, 11, 12, 13, 14, 15, 16, 17, 18, 19, 20, 21, 22, 23, 24, 25, 26, 27, 28, 3, 29, 30, 31, 32, 59, 60, 61, 62, 63, 64] (by decide +kernel) (by decide +kernel)
set_option maxRecDepth 20000 in
theorem gX6_letterItem_X6_numberWithin : GoodIn wsX6_letterItem (va_wsS RX6 66 yX6_numberWithin wsX6_numberWithin) := goodIn_app (goodIn_of _ (by decide +kernel)) ggX6_letterItem_X6_numberWithin
set_option maxRecDepth 20000 in
theorem ggX6_letterItem_X5_put : GoodIn wsX6_letterItem wsX5_put := goodIn_r _ [37, 38, 39, 40, 55, 56, 57, 58] (by decide +kernel) (by decide +kernel)
set_option maxRecDepth 20000 in
theorem gX6_letterItem_X5_put : GoodIn wsX6_letterItem (wsV RX6 118 RX5 yX5_put wsX5_put) := goodIn_app (goodIn_of _ (by decide +kernel)) ggX6_letterItem_X5_put
set_option maxRecDepth 20000 in
theorem ggX6_letterItem_X6_stops : GoodIn wsX6_letterItem wsX6_stops := goodIn_r _ [43, 5, 6, 7, 8, 9, 10, 11, 12, 13, 14, 15, 16, 17, 18, 19, 20, 21, 22, 23, 24, 25, 26, 59, 60, 61, 62, 63, 64] (by decide +kernel) (by decide +kernel)
set_option maxRecDepth 20000 in
theorem gX6_letterItem_X6_stops : GoodIn wsX6_letterItem (va_wsS RX6 76 yX6_stops wsX6_stops) := goodIn_app (goodIn_of _ (by decide +kernel)) ggX6_letterItem_X6_stops
set_option maxRecDepth 20000 in
theorem dA_X6_letterItem_0 : (([(0, .aload_n 0, 1), (1, .iconst 0, 1), (2, .aload_n 1, 1), (3, .getfield 90, 3), (6, .getfield 104, 3), (9, .iconst 1, 1), (10, .isub, 1), (11, .invokestatic 66, 3), (14, .istore_n 2, 1), (15, .iload_n 2, 1), (16, .ifCond .ge 5, 3), (19, .iconst 0, 1), (20, .ireturn, 1), (21, .aload_n 0, 1), (22, .iconst 0, 1), (23, .bipush 9, 2), (25, .invokestatic 66, 3), (28, .istore_n 3, 1), (29, .iload_n 3, 1), (30, .ifCond .ge 5, 3), (33, .iconst 0, 1), (34, .ireturn, 1), (35, .aload_n 1, 1), (36, .getfield 90, 3), (39, .iload_n 2, 1), (40, .iconst 1, 1), (41, .iload_n 3, 1), (42, .invokevirtual 118, 3), (45, .aload_n 0, 1), (46, .invokestatic 76, 3), (49, .ireturn, 1)] : List (Nat × Instr × Nat)).all fun q => decide (decode cX6_letterItem q.1 = .ok (q.2.1, q.2.2))) = true := by decide +kernel
theorem dX6_letterItem_0 : decode cX6_letterItem 0 = .ok (.aload_n 0, 1) := of_decide_eq_true (List.all_eq_true.mp dA_X6_letterItem_0 (0, .aload_n 0, 1) (List.mem_of_getElem? (i := 0) rfl))
theorem dX6_letterItem_1 : decode cX6_letterItem 1 = .ok (.iconst 0, 1) := of_decide_eq_true (List.all_eq_true.mp dA_X6_letterItem_0 (1, .iconst 0, 1) (List.mem_of_getElem? (i := 1) rfl))
theorem dX6_letterItem_2 : decode cX6_letterItem 2 = .ok (.aload_n 1, 1) := of_decide_eq_true (List.all_eq_true.mp dA_X6_letterItem_0 (2, .aload_n 1, 1) (List.mem_of_getElem? (i := 2) rfl))
theorem dX6_letterItem_3 : decode cX6_letterItem 3 = .ok (.getfield 90, 3) := of_decide_eq_true (List.all_eq_true.mp dA_X6_letterItem_0 (3, .getfield 90, 3) (List.mem_of_getElem? (i := 3) rfl))
theorem dX6_letterItem_6 : decode cX6_letterItem 6 = .ok (.getfield 104, 3) := of_decide_eq_true (List.all_eq_true.mp dA_X6_letterItem_0 (6, .getfield 104, 3) (List.mem_of_getElem? (i := 4) rfl))
theorem dX6_letterItem_9 : decode cX6_letterItem 9 = .ok (.iconst 1, 1) := of_decide_eq_true (List.all_eq_true.mp dA_X6_letterItem_0 (9, .iconst 1, 1) (List.mem_of_getElem? (i := 5) rfl))
theorem dX6_letterItem_10 : decode cX6_letterItem 10 = .ok (.isub, 1) := of_decide_eq_true (List.all_eq_true.mp dA_X6_letterItem_0 (10, .isub, 1) (List.mem_of_getElem? (i := 6) rfl))
theorem dX6_letterItem_11 : decode cX6_letterItem 11 = .ok (.invokestatic 66, 3) := of_decide_eq_true (List.all_eq_true.mp dA_X6_letterItem_0 (11, .invokestatic 66, 3) (List.mem_of_getElem? (i := 7) rfl))
theorem dX6_letterItem_14 : decode cX6_letterItem 14 = .ok (.istore_n 2, 1) := of_decide_eq_true (List.all_eq_true.mp dA_X6_letterItem_0 (14, .istore_n 2, 1) (List.mem_of_getElem? (i := 8) rfl))
theorem dX6_letterItem_15 : decode cX6_letterItem 15 = .ok (.iload_n 2, 1) := of_decide_eq_true (List.all_eq_true.mp dA_X6_letterItem_0 (15, .iload_n 2, 1) (List.mem_of_getElem? (i := 9) rfl))
theorem dX6_letterItem_16 : decode cX6_letterItem 16 = .ok (.ifCond .ge 5, 3) := of_decide_eq_true (List.all_eq_true.mp dA_X6_letterItem_0 (16, .ifCond .ge 5, 3) (List.mem_of_getElem? (i := 10) rfl))
theorem dX6_letterItem_19 : decode cX6_letterItem 19 = .ok (.iconst 0, 1) := of_decide_eq_true (List.all_eq_true.mp dA_X6_letterItem_0 (19, .iconst 0, 1) (List.mem_of_getElem? (i := 11) rfl))
theorem dX6_letterItem_20 : decode cX6_letterItem 20 = .ok (.ireturn, 1) := of_decide_eq_true (List.all_eq_true.mp dA_X6_letterItem_0 (20, .ireturn, 1) (List.mem_of_getElem? (i := 12) rfl))
theorem dX6_letterItem_21 : decode cX6_letterItem 21 = .ok (.aload_n 0, 1) := of_decide_eq_true (List.all_eq_true.mp dA_X6_letterItem_0 (21, .aload_n 0, 1) (List.mem_of_getElem? (i := 13) rfl))
theorem dX6_letterItem_22 : decode cX6_letterItem 22 = .ok (.iconst 0, 1) := of_decide_eq_true (List.all_eq_true.mp dA_X6_letterItem_0 (22, .iconst 0, 1) (List.mem_of_getElem? (i := 14) rfl))
theorem dX6_letterItem_23 : decode cX6_letterItem 23 = .ok (.bipush 9, 2) := of_decide_eq_true (List.all_eq_true.mp dA_X6_letterItem_0 (23, .bipush 9, 2) (List.mem_of_getElem? (i := 15) rfl))
theorem dX6_letterItem_25 : decode cX6_letterItem 25 = .ok (.invokestatic 66, 3) := of_decide_eq_true (List.all_eq_true.mp dA_X6_letterItem_0 (25, .invokestatic 66, 3) (List.mem_of_getElem? (i := 16) rfl))
theorem dX6_letterItem_28 : decode cX6_letterItem 28 = .ok (.istore_n 3, 1) := of_decide_eq_true (List.all_eq_true.mp dA_X6_letterItem_0 (28, .istore_n 3, 1) (List.mem_of_getElem? (i := 17) rfl))
theorem dX6_letterItem_29 : decode cX6_letterItem 29 = .ok (.iload_n 3, 1) := of_decide_eq_true (List.all_eq_true.mp dA_X6_letterItem_0 (29, .iload_n 3, 1) (List.mem_of_getElem? (i := 18) rfl))
theorem dX6_letterItem_30 : decode cX6_letterItem 30 = .ok (.ifCond .ge 5, 3) := of_decide_eq_true (List.all_eq_true.mp dA_X6_letterItem_0 (30, .ifCond .ge 5, 3) (List.mem_of_getElem? (i := 19) rfl))
theorem dX6_letterItem_33 : decode cX6_letterItem 33 = .ok (.iconst 0, 1) := of_decide_eq_true (List.all_eq_true.mp dA_X6_letterItem_0 (33, .iconst 0, 1) (List.mem_of_getElem? (i := 20) rfl))
theorem dX6_letterItem_34 : decode cX6_letterItem 34 = .ok (.ireturn, 1) := of_decide_eq_true (List.all_eq_true.mp dA_X6_letterItem_0 (34, .ireturn, 1) (List.mem_of_getElem? (i := 21) rfl))
theorem dX6_letterItem_35 : decode cX6_letterItem 35 = .ok (.aload_n 1, 1) := of_decide_eq_true (List.all_eq_true.mp dA_X6_letterItem_0 (35, .aload_n 1, 1) (List.mem_of_getElem? (i := 22) rfl))
theorem dX6_letterItem_36 : decode cX6_letterItem 36 = .ok (.getfield 90, 3) := of_decide_eq_true (List.all_eq_true.mp dA_X6_letterItem_0 (36, .getfield 90, 3) (List.mem_of_getElem? (i := 23) rfl))
theorem dX6_letterItem_39 : decode cX6_letterItem 39 = .ok (.iload_n 2, 1) := of_decide_eq_true (List.all_eq_true.mp dA_X6_letterItem_0 (39, .iload_n 2, 1) (List.mem_of_getElem? (i := 24) rfl))
theorem dX6_letterItem_40 : decode cX6_letterItem 40 = .ok (.iconst 1, 1) := of_decide_eq_true (List.all_eq_true.mp dA_X6_letterItem_0 (40, .iconst 1, 1) (List.mem_of_getElem? (i := 25) rfl))
theorem dX6_letterItem_41 : decode cX6_letterItem 41 = .ok (.iload_n 3, 1) := of_decide_eq_true (List.all_eq_true.mp dA_X6_letterItem_0 (41, .iload_n 3, 1) (List.mem_of_getElem? (i := 26) rfl))
theorem dX6_letterItem_42 : decode cX6_letterItem 42 = .ok (.invokevirtual 118, 3) := of_decide_eq_true (List.all_eq_true.mp dA_X6_letterItem_0 (42, .invokevirtual 118, 3) (List.mem_of_getElem? (i := 27) rfl))
theorem dX6_letterItem_45 : decode cX6_letterItem 45 = .ok (.aload_n 0, 1) := of_decide_eq_true (List.all_eq_true.mp dA_X6_letterItem_0 (45, .aload_n 0, 1) (List.mem_of_getElem? (i := 28) rfl))
theorem dX6_letterItem_46 : decode cX6_letterItem 46 = .ok (.invokestatic 76, 3) := of_decide_eq_true (List.all_eq_true.mp dA_X6_letterItem_0 (46, .invokestatic 76, 3) (List.mem_of_getElem? (i := 29) rfl))
theorem dX6_letterItem_49 : decode cX6_letterItem 49 = .ok (.ireturn, 1) := of_decide_eq_true (List.all_eq_true.mp dA_X6_letterItem_0 (49, .ireturn, 1) (List.mem_of_getElem? (i := 30) rfl))
set_option maxRecDepth 20000 in
theorem ggX6_nightsItem_X6_numberWithin : GoodIn wsX6_nightsItem wsX6_numberWithin := goodIn_r _ [4, 5, 6, 7, 8, 9, 10, 11, 12, 13, 14, 15, 16, 17, 18, 19, 20, 21, 22, 23, 24, 25, 26, 27, 28, 3, 29, 30, 31, 32, 47, 48, 49, 50, 51, 52] (by decide +kernel) (by decide +kernel)
set_option maxRecDepth 20000 in
theorem gX6_nightsItem_X6_numberWithin : GoodIn wsX6_nightsItem (va_wsS RX6 66 yX6_numberWithin wsX6_numberWithin) := goodIn_app (goodIn_of _ (by decide +kernel)) ggX6_nightsItem_X6_numberWithin
set_option maxRecDepth 20000 in
theorem ggX6_nightsItem_X1_sleep : GoodIn wsX6_nightsItem wsX1_sleep := goodIn_r _ [37, 38, 39, 40, 41, 42, 43, 53, 54, 55, 56, 57, 58, 59, 60, 61, 62, 63] (by decide +kernel) (by decide +kernel)
set_option maxRecDepth 20000 in
theorem gX6_nightsItem_X1_sleep : GoodIn wsX6_nightsItem (wsV RX6 122 RX1 yX1_sleep wsX1_sleep) := goodIn_app (goodIn_of _ (by decide +kernel)) ggX6_nightsItem_X1_sleep
set_option maxRecDepth 20000 in
theorem ggX6_nightsItem_X6_stops : GoodIn wsX6_nightsItem wsX6_stops := goodIn_r _ [46, 5, 6, 7, 8, 9, 10, 11, 12, 13, 14, 15, 16, 17, 18, 19, 20, 21, 22, 23, 24, 25, 26, 47, 48, 49, 50, 51, 52] (by decide +kernel) (by decide +kernel)
set_option maxRecDepth 20000 in
theorem gX6_nightsItem_X6_stops : GoodIn wsX6_nightsItem (va_wsS RX6 76 yX6_stops wsX6_stops) := goodIn_app (goodIn_of _ (by decide +kernel)) ggX6_nightsItem_X6_stops
set_option maxRecDepth 20000 in
theorem dA_X6_nightsItem_0 : (([(0, .aload_n 0, 1), (1, .iconst 1, 1), (2, .bipush 99, 2), (4, .invokestatic 66, 3), (7, .istore_n 2, 1), (8, .iload_n 2, 1), (9, .ifCond .ge 5, 3), (12, .iconst 0, 1), (13, .ireturn, 1), (14, .aload_n 1, 1), (15, .iload_n 2, 1), (16, .invokevirtual 122, 3), (19, .aload_n 0, 1), (20, .invokestatic 76, 3), (23, .ireturn, 1)] : List (Nat × Instr × Nat)).all fun q => decide (decode cX6_nightsItem q.1 = .ok (q.2.1, q.2.2))) = true := by decide +kernel
theorem dX6_nightsItem_0 : decode cX6_nightsItem 0 = .ok (.aload_n 0, 1) := of_decide_eq_true (List.all_eq_true.mp dA_X6_nightsItem_0 (0, .aload_n 0, 1) (List.mem_of_getElem? (i := 0) rfl))
theorem dX6_nightsItem_1 : decode cX6_nightsItem 1 = .ok (.iconst 1, 1) := of_decide_eq_true (List.all_eq_true.mp dA_X6_nightsItem_0 (1, .iconst 1, 1) (List.mem_of_getElem? (i := 1) rfl))
theorem dX6_nightsItem_2 : decode cX6_nightsItem 2 = .ok (.bipush 99, 2) := of_decide_eq_true (List.all_eq_true.mp dA_X6_nightsItem_0 (2, .bipush 99, 2) (List.mem_of_getElem? (i := 2) rfl))
theorem dX6_nightsItem_4 : decode cX6_nightsItem 4 = .ok (.invokestatic 66, 3) := of_decide_eq_true (List.all_eq_true.mp dA_X6_nightsItem_0 (4, .invokestatic 66, 3) (List.mem_of_getElem? (i := 3) rfl))
theorem dX6_nightsItem_7 : decode cX6_nightsItem 7 = .ok (.istore_n 2, 1) := of_decide_eq_true (List.all_eq_true.mp dA_X6_nightsItem_0 (7, .istore_n 2, 1) (List.mem_of_getElem? (i := 4) rfl))
theorem dX6_nightsItem_8 : decode cX6_nightsItem 8 = .ok (.iload_n 2, 1) := of_decide_eq_true (List.all_eq_true.mp dA_X6_nightsItem_0 (8, .iload_n 2, 1) (List.mem_of_getElem? (i := 5) rfl))
theorem dX6_nightsItem_9 : decode cX6_nightsItem 9 = .ok (.ifCond .ge 5, 3) := of_decide_eq_true (List.all_eq_true.mp dA_X6_nightsItem_0 (9, .ifCond .ge 5, 3) (List.mem_of_getElem? (i := 6) rfl))
theorem dX6_nightsItem_12 : decode cX6_nightsItem 12 = .ok (.iconst 0, 1) := of_decide_eq_true (List.all_eq_true.mp dA_X6_nightsItem_0 (12, .iconst 0, 1) (List.mem_of_getElem? (i := 7) rfl))
theorem dX6_nightsItem_13 : decode cX6_nightsItem 13 = .ok (.ireturn, 1) := of_decide_eq_true (List.all_eq_true.mp dA_X6_nightsItem_0 (13, .ireturn, 1) (List.mem_of_getElem? (i := 8) rfl))
theorem dX6_nightsItem_14 : decode cX6_nightsItem 14 = .ok (.aload_n 1, 1) := of_decide_eq_true (List.all_eq_true.mp dA_X6_nightsItem_0 (14, .aload_n 1, 1) (List.mem_of_getElem? (i := 9) rfl))
theorem dX6_nightsItem_15 : decode cX6_nightsItem 15 = .ok (.iload_n 2, 1) := of_decide_eq_true (List.all_eq_true.mp dA_X6_nightsItem_0 (15, .iload_n 2, 1) (List.mem_of_getElem? (i := 10) rfl))
theorem dX6_nightsItem_16 : decode cX6_nightsItem 16 = .ok (.invokevirtual 122, 3) := of_decide_eq_true (List.all_eq_true.mp dA_X6_nightsItem_0 (16, .invokevirtual 122, 3) (List.mem_of_getElem? (i := 11) rfl))
theorem dX6_nightsItem_19 : decode cX6_nightsItem 19 = .ok (.aload_n 0, 1) := of_decide_eq_true (List.all_eq_true.mp dA_X6_nightsItem_0 (19, .aload_n 0, 1) (List.mem_of_getElem? (i := 12) rfl))
theorem dX6_nightsItem_20 : decode cX6_nightsItem 20 = .ok (.invokestatic 76, 3) := of_decide_eq_true (List.all_eq_true.mp dA_X6_nightsItem_0 (20, .invokestatic 76, 3) (List.mem_of_getElem? (i := 13) rfl))
theorem dX6_nightsItem_23 : decode cX6_nightsItem 23 = .ok (.ireturn, 1) := of_decide_eq_true (List.all_eq_true.mp dA_X6_nightsItem_0 (23, .ireturn, 1) (List.mem_of_getElem? (i := 14) rfl))
set_option maxRecDepth 20000 in
theorem ggX6_numberWithin_X4_advance : GoodIn wsX6_numberWithin wsX4_advance := goodIn_r _ [5, 6, 7, 8, 9, 10, 11, 12, 4, 13, 14, 15, 16, 17, 18, 19, 20, 21, 22, 30, 31, 32, 33, 34, 35] (by decide +kernel) (by decide +kernel)
set_option maxRecDepth 20000 in
theorem gX6_numberWithin_X4_advance : GoodIn wsX6_numberWithin (wsV RX6 20 RX4 yX4_advance wsX4_advance) := goodIn_app (goodIn_of _ (by decide +kernel)) ggX6_numberWithin_X4_advance
set_option maxRecDepth 20000 in
theorem ggX6_numberWithin_X6_isNumberWithin : GoodIn wsX6_numberWithin wsX6_isNumberWithin := goodIn_r _ [26, 27, 28, 29, 30, 31, 32, 33, 34, 35] (by decide +kernel) (by decide +kernel)
set_option maxRecDepth 20000 in
theorem gX6_numberWithin_X6_isNumberWithin : GoodIn wsX6_numberWithin (va_wsS RX6 80 yX6_isNumberWithin wsX6_isNumberWithin) := goodIn_app (goodIn_of _ (by decide +kernel)) ggX6_numberWithin_X6_isNumberWithin
set_option maxRecDepth 20000 in
theorem dA_X6_numberWithin_0 : (([(0, .aload_n 0, 1), (1, .invokevirtual 20, 3), (4, .aload_n 0, 1), (5, .iload_n 1, 1), (6, .iload_n 2, 1), (7, .invokestatic 80, 3), (10, .ifCond .eq 10, 3), (13, .aload_n 0, 1), (14, .getfield 84, 3), (17, .goto 4, 3), (20, .iconst (-1), 1), (21, .ireturn, 1)] : List (Nat × Instr × Nat)).all fun q => decide (decode cX6_numberWithin q.1 = .ok (q.2.1, q.2.2))) = true := by decide +kernel
theorem dX6_numberWithin_0 : decode cX6_numberWithin 0 = .ok (.aload_n 0, 1) := of_decide_eq_true (List.all_eq_true.mp dA_X6_numberWithin_0 (0, .aload_n 0, 1) (List.mem_of_getElem? (i := 0) rfl))
theorem dX6_numberWithin_1 : decode cX6_numberWithin 1 = .ok (.invokevirtual 20, 3) := of_decide_eq_true (List.all_eq_true.mp dA_X6_numberWithin_0 (1, .invokevirtual 20, 3) (List.mem_of_getElem? (i := 1) rfl))
theorem dX6_numberWithin_4 : decode cX6_numberWithin 4 = .ok (.aload_n 0, 1) := of_decide_eq_true (List.all_eq_true.mp dA_X6_numberWithin_0 (4, .aload_n 0, 1) (List.mem_of_getElem? (i := 2) rfl))
theorem dX6_numberWithin_5 : decode cX6_numberWithin 5 = .ok (.iload_n 1, 1) := of_decide_eq_true (List.all_eq_true.mp dA_X6_numberWithin_0 (5, .iload_n 1, 1) (List.mem_of_getElem? (i := 3) rfl))
theorem dX6_numberWithin_6 : decode cX6_numberWithin 6 = .ok (.iload_n 2, 1) := of_decide_eq_true (List.all_eq_true.mp dA_X6_numberWithin_0 (6, .iload_n 2, 1) (List.mem_of_getElem? (i := 4) rfl))
theorem dX6_numberWithin_7 : decode cX6_numberWithin 7 = .ok (.invokestatic 80, 3) := of_decide_eq_true (List.all_eq_true.mp dA_X6_numberWithin_0 (7, .invokestatic 80, 3) (List.mem_of_getElem? (i := 5) rfl))
theorem dX6_numberWithin_10 : decode cX6_numberWithin 10 = .ok (.ifCond .eq 10, 3) := of_decide_eq_true (List.all_eq_true.mp dA_X6_numberWithin_0 (10, .ifCond .eq 10, 3) (List.mem_of_getElem? (i := 6) rfl))
theorem dX6_numberWithin_13 : decode cX6_numberWithin 13 = .ok (.aload_n 0, 1) := of_decide_eq_true (List.all_eq_true.mp dA_X6_numberWithin_0 (13, .aload_n 0, 1) (List.mem_of_getElem? (i := 7) rfl))
theorem dX6_numberWithin_14 : decode cX6_numberWithin 14 = .ok (.getfield 84, 3) := of_decide_eq_true (List.all_eq_true.mp dA_X6_numberWithin_0 (14, .getfield 84, 3) (List.mem_of_getElem? (i := 8) rfl))
theorem dX6_numberWithin_17 : decode cX6_numberWithin 17 = .ok (.goto 4, 3) := of_decide_eq_true (List.all_eq_true.mp dA_X6_numberWithin_0 (17, .goto 4, 3) (List.mem_of_getElem? (i := 9) rfl))
theorem dX6_numberWithin_20 : decode cX6_numberWithin 20 = .ok (.iconst (-1), 1) := of_decide_eq_true (List.all_eq_true.mp dA_X6_numberWithin_0 (20, .iconst (-1), 1) (List.mem_of_getElem? (i := 10) rfl))
theorem dX6_numberWithin_21 : decode cX6_numberWithin 21 = .ok (.ireturn, 1) := of_decide_eq_true (List.all_eq_true.mp dA_X6_numberWithin_0 (21, .ireturn, 1) (List.mem_of_getElem? (i := 11) rfl))
set_option maxRecDepth 20000 in
theorem ggX6_isNumberWithin_X8_within : GoodIn wsX6_isNumberWithin wsX8_within := goodIn_r _ [3] (by decide +kernel) (by decide +kernel)
set_option maxRecDepth 20000 in
theorem gX6_isNumberWithin_X8_within_n125 : GoodIn wsX6_isNumberWithin (wsX8_within) := ggX6_isNumberWithin_X8_within
set_option maxRecDepth 20000 in
theorem dA_X6_isNumberWithin_0 : (([(0, .aload_n 0, 1), (1, .getfield 23, 3), (4, .iconst 2, 1), (5, .if_icmp .ne 19, 3), (8, .aload_n 0, 1), (9, .getfield 84, 3), (12, .iload_n 1, 1), (13, .iload_n 2, 1), (14, .invokestatic 125, 3), (17, .ifCond .eq 7, 3), (20, .iconst 1, 1), (21, .goto 4, 3), (24, .iconst 0, 1), (25, .ireturn, 1)] : List (Nat × Instr × Nat)).all fun q => decide (decode cX6_isNumberWithin q.1 = .ok (q.2.1, q.2.2))) = true := by decide +kernel
theorem dX6_isNumberWithin_0 : decode cX6_isNumberWithin 0 = .ok (.aload_n 0, 1) := of_decide_eq_true (List.all_eq_true.mp dA_X6_isNumberWithin_0 (0, .aload_n 0, 1) (List.mem_of_getElem? (i := 0) rfl))
theorem dX6_isNumberWithin_1 : decode cX6_isNumberWithin 1 = .ok (.getfield 23, 3) := of_decide_eq_true (List.all_eq_true.mp dA_X6_isNumberWithin_0 (1, .getfield 23, 3) (List.mem_of_getElem? (i := 1) rfl))
theorem dX6_isNumberWithin_4 : decode cX6_isNumberWithin 4 = .ok (.iconst 2, 1) := of_decide_eq_true (List.all_eq_true.mp dA_X6_isNumberWithin_0 (4, .iconst 2, 1) (List.mem_of_getElem? (i := 2) rfl))
theorem dX6_isNumberWithin_5 : decode cX6_isNumberWithin 5 = .ok (.if_icmp .ne 19, 3) := of_decide_eq_true (List.all_eq_true.mp dA_X6_isNumberWithin_0 (5, .if_icmp .ne 19, 3) (List.mem_of_getElem? (i := 3) rfl))
theorem dX6_isNumberWithin_8 : decode cX6_isNumberWithin 8 = .ok (.aload_n 0, 1) := of_decide_eq_true (List.all_eq_true.mp dA_X6_isNumberWithin_0 (8, .aload_n 0, 1) (List.mem_of_getElem? (i := 4) rfl))
theorem dX6_isNumberWithin_9 : decode cX6_isNumberWithin 9 = .ok (.getfield 84, 3) := of_decide_eq_true (List.all_eq_true.mp dA_X6_isNumberWithin_0 (9, .getfield 84, 3) (List.mem_of_getElem? (i := 5) rfl))
theorem dX6_isNumberWithin_12 : decode cX6_isNumberWithin 12 = .ok (.iload_n 1, 1) := of_decide_eq_true (List.all_eq_true.mp dA_X6_isNumberWithin_0 (12, .iload_n 1, 1) (List.mem_of_getElem? (i := 6) rfl))
theorem dX6_isNumberWithin_13 : decode cX6_isNumberWithin 13 = .ok (.iload_n 2, 1) := of_decide_eq_true (List.all_eq_true.mp dA_X6_isNumberWithin_0 (13, .iload_n 2, 1) (List.mem_of_getElem? (i := 7) rfl))
theorem dX6_isNumberWithin_14 : decode cX6_isNumberWithin 14 = .ok (.invokestatic 125, 3) := of_decide_eq_true (List.all_eq_true.mp dA_X6_isNumberWithin_0 (14, .invokestatic 125, 3) (List.mem_of_getElem? (i := 8) rfl))
theorem dX6_isNumberWithin_17 : decode cX6_isNumberWithin 17 = .ok (.ifCond .eq 7, 3) := of_decide_eq_true (List.all_eq_true.mp dA_X6_isNumberWithin_0 (17, .ifCond .eq 7, 3) (List.mem_of_getElem? (i := 9) rfl))
theorem dX6_isNumberWithin_20 : decode cX6_isNumberWithin 20 = .ok (.iconst 1, 1) := of_decide_eq_true (List.all_eq_true.mp dA_X6_isNumberWithin_0 (20, .iconst 1, 1) (List.mem_of_getElem? (i := 10) rfl))
theorem dX6_isNumberWithin_21 : decode cX6_isNumberWithin 21 = .ok (.goto 4, 3) := of_decide_eq_true (List.all_eq_true.mp dA_X6_isNumberWithin_0 (21, .goto 4, 3) (List.mem_of_getElem? (i := 11) rfl))
theorem dX6_isNumberWithin_24 : decode cX6_isNumberWithin 24 = .ok (.iconst 0, 1) := of_decide_eq_true (List.all_eq_true.mp dA_X6_isNumberWithin_0 (24, .iconst 0, 1) (List.mem_of_getElem? (i := 12) rfl))
theorem dX6_isNumberWithin_25 : decode cX6_isNumberWithin 25 = .ok (.ireturn, 1) := of_decide_eq_true (List.all_eq_true.mp dA_X6_isNumberWithin_0 (25, .ireturn, 1) (List.mem_of_getElem? (i := 13) rfl))
set_option maxRecDepth 20000 in
theorem ggX6_stops_X4_advance : GoodIn wsX6_stops wsX4_advance := goodIn_r _ [5, 6, 7, 8, 9, 10, 11, 12, 4, 13, 14, 15, 16, 17, 18, 19, 20, 21, 22, 23, 24, 25, 26, 27, 28] (by decide +kernel) (by decide +kernel)
set_option maxRecDepth 20000 in
theorem gX6_stops_X4_advance : GoodIn wsX6_stops (wsV RX6 20 RX4 yX4_advance wsX4_advance) := goodIn_app (goodIn_of _ (by decide +kernel)) ggX6_stops_X4_advance
set_option maxRecDepth 20000 in
theorem dA_X6_stops_0 : (([(0, .aload_n 0, 1), (1, .invokevirtual 20, 3), (4, .aload_n 0, 1), (5, .getfield 23, 3), (8, .iconst 3, 1), (9, .if_icmp .ne 7, 3), (12, .iconst 1, 1), (13, .goto 4, 3), (16, .iconst 0, 1), (17, .ireturn, 1)] : List (Nat × Instr × Nat)).all fun q => decide (decode cX6_stops q.1 = .ok (q.2.1, q.2.2))) = true := by decide +kernel
theorem dX6_stops_0 : decode cX6_stops 0 = .ok (.aload_n 0, 1) := of_decide_eq_true (List.all_eq_true.mp dA_X6_stops_0 (0, .aload_n 0, 1) (List.mem_of_getElem? (i := 0) rfl))
theorem dX6_stops_1 : decode cX6_stops 1 = .ok (.invokevirtual 20, 3) := of_decide_eq_true (List.all_eq_true.mp dA_X6_stops_0 (1, .invokevirtual 20, 3) (List.mem_of_getElem? (i := 1) rfl))
theorem dX6_stops_4 : decode cX6_stops 4 = .ok (.aload_n 0, 1) := of_decide_eq_true (List.all_eq_true.mp dA_X6_stops_0 (4, .aload_n 0, 1) (List.mem_of_getElem? (i := 2) rfl))
theorem dX6_stops_5 : decode cX6_stops 5 = .ok (.getfield 23, 3) := of_decide_eq_true (List.all_eq_true.mp dA_X6_stops_0 (5, .getfield 23, 3) (List.mem_of_getElem? (i := 3) rfl))
theorem dX6_stops_8 : decode cX6_stops 8 = .ok (.iconst 3, 1) := of_decide_eq_true (List.all_eq_true.mp dA_X6_stops_0 (8, .iconst 3, 1) (List.mem_of_getElem? (i := 4) rfl))
theorem dX6_stops_9 : decode cX6_stops 9 = .ok (.if_icmp .ne 7, 3) := of_decide_eq_true (List.all_eq_true.mp dA_X6_stops_0 (9, .if_icmp .ne 7, 3) (List.mem_of_getElem? (i := 5) rfl))
theorem dX6_stops_12 : decode cX6_stops 12 = .ok (.iconst 1, 1) := of_decide_eq_true (List.all_eq_true.mp dA_X6_stops_0 (12, .iconst 1, 1) (List.mem_of_getElem? (i := 6) rfl))
theorem dX6_stops_13 : decode cX6_stops 13 = .ok (.goto 4, 3) := of_decide_eq_true (List.all_eq_true.mp dA_X6_stops_0 (13, .goto 4, 3) (List.mem_of_getElem? (i := 7) rfl))
theorem dX6_stops_16 : decode cX6_stops 16 = .ok (.iconst 0, 1) := of_decide_eq_true (List.all_eq_true.mp dA_X6_stops_0 (16, .iconst 0, 1) (List.mem_of_getElem? (i := 8) rfl))
theorem dX6_stops_17 : decode cX6_stops 17 = .ok (.ireturn, 1) := of_decide_eq_true (List.all_eq_true.mp dA_X6_stops_0 (17, .ireturn, 1) (List.mem_of_getElem? (i := 9) rfl))
set_option maxRecDepth 20000 in
theorem dA_X7_init_0 : (([(0, .aload_n 0, 1), (1, .invokespecial 3, 3), (4, .aload_n 0, 1), (5, .bipush 6, 2), (7, .newarray .int, 2), (9, .putfield 9, 3), (12, .return_, 1)] : List (Nat × Instr × Nat)).all fun q => decide (decode cX7_init q.1 = .ok (q.2.1, q.2.2))) = true := by decide +kernel
theorem dX7_init_0 : decode cX7_init 0 = .ok (.aload_n 0, 1) := of_decide_eq_true (List.all_eq_true.mp dA_X7_init_0 (0, .aload_n 0, 1) (List.mem_of_getElem? (i := 0) rfl))
theorem dX7_init_1 : decode cX7_init 1 = .ok (.invokespecial 3, 3) := of_decide_eq_true (List.all_eq_true.mp dA_X7_init_0 (1, .invokespecial 3, 3) (List.mem_of_getElem? (i := 1) rfl))
theorem dX7_init_4 : decode cX7_init 4 = .ok (.aload_n 0, 1) := of_decide_eq_true (List.all_eq_true.mp dA_X7_init_0 (4, .aload_n 0, 1) (List.mem_of_getElem? (i := 2) rfl))
theorem dX7_init_5 : decode cX7_init 5 = .ok (.bipush 6, 2) := of_decide_eq_true (List.all_eq_true.mp dA_X7_init_0 (5, .bipush 6, 2) (List.mem_of_getElem? (i := 3) rfl))
theorem dX7_init_7 : decode cX7_init 7 = .ok (.newarray .int, 2) := of_decide_eq_true (List.all_eq_true.mp dA_X7_init_0 (7, .newarray .int, 2) (List.mem_of_getElem? (i := 4) rfl))
theorem dX7_init_9 : decode cX7_init 9 = .ok (.putfield 9, 3) := of_decide_eq_true (List.all_eq_true.mp dA_X7_init_0 (9, .putfield 9, 3) (List.mem_of_getElem? (i := 5) rfl))
theorem dX7_init_12 : decode cX7_init 12 = .ok (.return_, 1) := of_decide_eq_true (List.all_eq_true.mp dA_X7_init_0 (12, .return_, 1) (List.mem_of_getElem? (i := 6) rfl))
set_option maxRecDepth 20000 in
theorem ggX7_visitsThatFit_X7_fitsSights : GoodIn wsX7_visitsThatFit wsX7_fitsSights := goodIn_r _ [5, 6, 7, 8, 9, 10, 11, 12, 13, 14, 15, 16, 4, 17, 18, 19, 20, 21, 22, 23, 24, 25, 26, 27, 28, 29, 30, 31, 32, 33, 34, 35, 36, 37, 38, 39, 40, 41, 42, 43, 44, 45, 46, 47, 48, 49, 50, 51, 52, 53, 54, 55, 56] (by decide +kernel) (by decide +kernel)
set_option maxRecDepth 20000 in
theorem gX7_visitsThatFit_X7_fitsSights : GoodIn wsX7_visitsThatFit (wsV RX7 15 RX7 yX7_fitsSights wsX7_fitsSights) := goodIn_app (goodIn_of _ (by decide +kernel)) ggX7_visitsThatFit_X7_fitsSights
set_option maxRecDepth 20000 in
theorem dA_X7_visitsThatFit_0 : (([(0, .iconst 0, 1), (1, .istore_n 3, 1), (2, .iconst 0, 1), (3, .istore 4, 2), (5, .iload 4, 2), (7, .bipush 30, 2), (9, .if_icmp .gt 27, 3), (12, .aload_n 0, 1), (13, .aload_n 1, 1), (14, .iload_n 2, 1), (15, .iload 4, 2), (17, .invokevirtual 15, 3), (20, .ifCond .eq 10, 3), (23, .iload_n 3, 1), (24, .iconst 1, 1), (25, .iload 4, 2), (27, .ishl, 1), (28, .ior, 1), (29, .istore_n 3, 1), (30, .iinc 4 1, 3), (33, .goto (-28), 3), (36, .iload_n 3, 1), (37, .ireturn, 1)] : List (Nat × Instr × Nat)).all fun q => decide (decode cX7_visitsThatFit q.1 = .ok (q.2.1, q.2.2))) = true := by decide +kernel
theorem dX7_visitsThatFit_0 : decode cX7_visitsThatFit 0 = .ok (.iconst 0, 1) := of_decide_eq_true (List.all_eq_true.mp dA_X7_visitsThatFit_0 (0, .iconst 0, 1) (List.mem_of_getElem? (i := 0) rfl))
theorem dX7_visitsThatFit_1 : decode cX7_visitsThatFit 1 = .ok (.istore_n 3, 1) := of_decide_eq_true (List.all_eq_true.mp dA_X7_visitsThatFit_0 (1, .istore_n 3, 1) (List.mem_of_getElem? (i := 1) rfl))
theorem dX7_visitsThatFit_2 : decode cX7_visitsThatFit 2 = .ok (.iconst 0, 1) := of_decide_eq_true (List.all_eq_true.mp dA_X7_visitsThatFit_0 (2, .iconst 0, 1) (List.mem_of_getElem? (i := 2) rfl))
theorem dX7_visitsThatFit_3 : decode cX7_visitsThatFit 3 = .ok (.istore 4, 2) := of_decide_eq_true (List.all_eq_true.mp dA_X7_visitsThatFit_0 (3, .istore 4, 2) (List.mem_of_getElem? (i := 3) rfl))
theorem dX7_visitsThatFit_5 : decode cX7_visitsThatFit 5 = .ok (.iload 4, 2) := of_decide_eq_true (List.all_eq_true.mp dA_X7_visitsThatFit_0 (5, .iload 4, 2) (List.mem_of_getElem? (i := 4) rfl))
theorem dX7_visitsThatFit_7 : decode cX7_visitsThatFit 7 = .ok (.bipush 30, 2) := of_decide_eq_true (List.all_eq_true.mp dA_X7_visitsThatFit_0 (7, .bipush 30, 2) (List.mem_of_getElem? (i := 5) rfl))
theorem dX7_visitsThatFit_9 : decode cX7_visitsThatFit 9 = .ok (.if_icmp .gt 27, 3) := of_decide_eq_true (List.all_eq_true.mp dA_X7_visitsThatFit_0 (9, .if_icmp .gt 27, 3) (List.mem_of_getElem? (i := 6) rfl))
theorem dX7_visitsThatFit_12 : decode cX7_visitsThatFit 12 = .ok (.aload_n 0, 1) := of_decide_eq_true (List.all_eq_true.mp dA_X7_visitsThatFit_0 (12, .aload_n 0, 1) (List.mem_of_getElem? (i := 7) rfl))
theorem dX7_visitsThatFit_13 : decode cX7_visitsThatFit 13 = .ok (.aload_n 1, 1) := of_decide_eq_true (List.all_eq_true.mp dA_X7_visitsThatFit_0 (13, .aload_n 1, 1) (List.mem_of_getElem? (i := 8) rfl))
theorem dX7_visitsThatFit_14 : decode cX7_visitsThatFit 14 = .ok (.iload_n 2, 1) := of_decide_eq_true (List.all_eq_true.mp dA_X7_visitsThatFit_0 (14, .iload_n 2, 1) (List.mem_of_getElem? (i := 9) rfl))
theorem dX7_visitsThatFit_15 : decode cX7_visitsThatFit 15 = .ok (.iload 4, 2) := of_decide_eq_true (List.all_eq_true.mp dA_X7_visitsThatFit_0 (15, .iload 4, 2) (List.mem_of_getElem? (i := 10) rfl))
theorem dX7_visitsThatFit_17 : decode cX7_visitsThatFit 17 = .ok (.invokevirtual 15, 3) := of_decide_eq_true (List.all_eq_true.mp dA_X7_visitsThatFit_0 (17, .invokevirtual 15, 3) (List.mem_of_getElem? (i := 11) rfl))
theorem dX7_visitsThatFit_20 : decode cX7_visitsThatFit 20 = .ok (.ifCond .eq 10, 3) := of_decide_eq_true (List.all_eq_true.mp dA_X7_visitsThatFit_0 (20, .ifCond .eq 10, 3) (List.mem_of_getElem? (i := 12) rfl))
theorem dX7_visitsThatFit_23 : decode cX7_visitsThatFit 23 = .ok (.iload_n 3, 1) := of_decide_eq_true (List.all_eq_true.mp dA_X7_visitsThatFit_0 (23, .iload_n 3, 1) (List.mem_of_getElem? (i := 13) rfl))
theorem dX7_visitsThatFit_24 : decode cX7_visitsThatFit 24 = .ok (.iconst 1, 1) := of_decide_eq_true (List.all_eq_true.mp dA_X7_visitsThatFit_0 (24, .iconst 1, 1) (List.mem_of_getElem? (i := 14) rfl))
theorem dX7_visitsThatFit_25 : decode cX7_visitsThatFit 25 = .ok (.iload 4, 2) := of_decide_eq_true (List.all_eq_true.mp dA_X7_visitsThatFit_0 (25, .iload 4, 2) (List.mem_of_getElem? (i := 15) rfl))
theorem dX7_visitsThatFit_27 : decode cX7_visitsThatFit 27 = .ok (.ishl, 1) := of_decide_eq_true (List.all_eq_true.mp dA_X7_visitsThatFit_0 (27, .ishl, 1) (List.mem_of_getElem? (i := 16) rfl))
theorem dX7_visitsThatFit_28 : decode cX7_visitsThatFit 28 = .ok (.ior, 1) := of_decide_eq_true (List.all_eq_true.mp dA_X7_visitsThatFit_0 (28, .ior, 1) (List.mem_of_getElem? (i := 17) rfl))
theorem dX7_visitsThatFit_29 : decode cX7_visitsThatFit 29 = .ok (.istore_n 3, 1) := of_decide_eq_true (List.all_eq_true.mp dA_X7_visitsThatFit_0 (29, .istore_n 3, 1) (List.mem_of_getElem? (i := 18) rfl))
theorem dX7_visitsThatFit_30 : decode cX7_visitsThatFit 30 = .ok (.iinc 4 1, 3) := of_decide_eq_true (List.all_eq_true.mp dA_X7_visitsThatFit_0 (30, .iinc 4 1, 3) (List.mem_of_getElem? (i := 19) rfl))
theorem dX7_visitsThatFit_33 : decode cX7_visitsThatFit 33 = .ok (.goto (-28), 3) := of_decide_eq_true (List.all_eq_true.mp dA_X7_visitsThatFit_0 (33, .goto (-28), 3) (List.mem_of_getElem? (i := 20) rfl))
theorem dX7_visitsThatFit_36 : decode cX7_visitsThatFit 36 = .ok (.iload_n 3, 1) := of_decide_eq_true (List.all_eq_true.mp dA_X7_visitsThatFit_0 (36, .iload_n 3, 1) (List.mem_of_getElem? (i := 21) rfl))
theorem dX7_visitsThatFit_37 : decode cX7_visitsThatFit 37 = .ok (.ireturn, 1) := of_decide_eq_true (List.all_eq_true.mp dA_X7_visitsThatFit_0 (37, .ireturn, 1) (List.mem_of_getElem? (i := 22) rfl))
set_option maxRecDepth 20000 in
theorem dA_X7_least_0 : (([(0, .iconst 0, 1), (1, .istore_n 1, 1), (2, .iload_n 1, 1), (3, .bipush 30, 2), (5, .if_icmp .gt 20, 3), (8, .iload_n 0, 1), (9, .iload_n 1, 1), (10, .ishr, 1), (11, .iconst 1, 1), (12, .iand, 1), (13, .iconst 1, 1), (14, .if_icmp .ne 5, 3), (17, .iload_n 1, 1), (18, .ireturn, 1), (19, .iinc 1 1, 3), (22, .goto (-20), 3), (25, .iconst (-1), 1), (26, .ireturn, 1)] : List (Nat × Instr × Nat)).all fun q => decide (decode cX7_least q.1 = .ok (q.2.1, q.2.2))) = true := by decide +kernel
theorem dX7_least_0 : decode cX7_least 0 = .ok (.iconst 0, 1) := of_decide_eq_true (List.all_eq_true.mp dA_X7_least_0 (0, .iconst 0, 1) (List.mem_of_getElem? (i := 0) rfl))
theorem dX7_least_1 : decode cX7_least 1 = .ok (.istore_n 1, 1) := of_decide_eq_true (List.all_eq_true.mp dA_X7_least_0 (1, .istore_n 1, 1) (List.mem_of_getElem? (i := 1) rfl))
theorem dX7_least_2 : decode cX7_least 2 = .ok (.iload_n 1, 1) := of_decide_eq_true (List.all_eq_true.mp dA_X7_least_0 (2, .iload_n 1, 1) (List.mem_of_getElem? (i := 2) rfl))
theorem dX7_least_3 : decode cX7_least 3 = .ok (.bipush 30, 2) := of_decide_eq_true (List.all_eq_true.mp dA_X7_least_0 (3, .bipush 30, 2) (List.mem_of_getElem? (i := 3) rfl))
theorem dX7_least_5 : decode cX7_least 5 = .ok (.if_icmp .gt 20, 3) := of_decide_eq_true (List.all_eq_true.mp dA_X7_least_0 (5, .if_icmp .gt 20, 3) (List.mem_of_getElem? (i := 4) rfl))
theorem dX7_least_8 : decode cX7_least 8 = .ok (.iload_n 0, 1) := of_decide_eq_true (List.all_eq_true.mp dA_X7_least_0 (8, .iload_n 0, 1) (List.mem_of_getElem? (i := 5) rfl))
theorem dX7_least_9 : decode cX7_least 9 = .ok (.iload_n 1, 1) := of_decide_eq_true (List.all_eq_true.mp dA_X7_least_0 (9, .iload_n 1, 1) (List.mem_of_getElem? (i := 6) rfl))
theorem dX7_least_10 : decode cX7_least 10 = .ok (.ishr, 1) := of_decide_eq_true (List.all_eq_true.mp dA_X7_least_0 (10, .ishr, 1) (List.mem_of_getElem? (i := 7) rfl))
theorem dX7_least_11 : decode cX7_least 11 = .ok (.iconst 1, 1) := of_decide_eq_true (List.all_eq_true.mp dA_X7_least_0 (11, .iconst 1, 1) (List.mem_of_getElem? (i := 8) rfl))
theorem dX7_least_12 : decode cX7_least 12 = .ok (.iand, 1) := of_decide_eq_true (List.all_eq_true.mp dA_X7_least_0 (12, .iand, 1) (List.mem_of_getElem? (i := 9) rfl))
theorem dX7_least_13 : decode cX7_least 13 = .ok (.iconst 1, 1) := of_decide_eq_true (List.all_eq_true.mp dA_X7_least_0 (13, .iconst 1, 1) (List.mem_of_getElem? (i := 10) rfl))
theorem dX7_least_14 : decode cX7_least 14 = .ok (.if_icmp .ne 5, 3) := of_decide_eq_true (List.all_eq_true.mp dA_X7_least_0 (14, .if_icmp .ne 5, 3) (List.mem_of_getElem? (i := 11) rfl))
theorem dX7_least_17 : decode cX7_least 17 = .ok (.iload_n 1, 1) := of_decide_eq_true (List.all_eq_true.mp dA_X7_least_0 (17, .iload_n 1, 1) (List.mem_of_getElem? (i := 12) rfl))
theorem dX7_least_18 : decode cX7_least 18 = .ok (.ireturn, 1) := of_decide_eq_true (List.all_eq_true.mp dA_X7_least_0 (18, .ireturn, 1) (List.mem_of_getElem? (i := 13) rfl))
theorem dX7_least_19 : decode cX7_least 19 = .ok (.iinc 1 1, 3) := of_decide_eq_true (List.all_eq_true.mp dA_X7_least_0 (19, .iinc 1 1, 3) (List.mem_of_getElem? (i := 14) rfl))
theorem dX7_least_22 : decode cX7_least 22 = .ok (.goto (-20), 3) := of_decide_eq_true (List.all_eq_true.mp dA_X7_least_0 (22, .goto (-20), 3) (List.mem_of_getElem? (i := 15) rfl))
theorem dX7_least_25 : decode cX7_least 25 = .ok (.iconst (-1), 1) := of_decide_eq_true (List.all_eq_true.mp dA_X7_least_0 (25, .iconst (-1), 1) (List.mem_of_getElem? (i := 16) rfl))
theorem dX7_least_26 : decode cX7_least 26 = .ok (.ireturn, 1) := of_decide_eq_true (List.all_eq_true.mp dA_X7_least_0 (26, .ireturn, 1) (List.mem_of_getElem? (i := 17) rfl))
set_option maxRecDepth 20000 in
theorem dA_X7_greatest_0 : (([(0, .bipush 30, 2), (2, .istore_n 1, 1), (3, .iload_n 1, 1), (4, .ifCond .lt 20, 3), (7, .iload_n 0, 1), (8, .iload_n 1, 1), (9, .ishr, 1), (10, .iconst 1, 1), (11, .iand, 1), (12, .iconst 1, 1), (13, .if_icmp .ne 5, 3), (16, .iload_n 1, 1), (17, .ireturn, 1), (18, .iinc 1 (-1), 3), (21, .goto (-18), 3), (24, .iconst (-1), 1), (25, .ireturn, 1)] : List (Nat × Instr × Nat)).all fun q => decide (decode cX7_greatest q.1 = .ok (q.2.1, q.2.2))) = true := by decide +kernel
theorem dX7_greatest_0 : decode cX7_greatest 0 = .ok (.bipush 30, 2) := of_decide_eq_true (List.all_eq_true.mp dA_X7_greatest_0 (0, .bipush 30, 2) (List.mem_of_getElem? (i := 0) rfl))
theorem dX7_greatest_2 : decode cX7_greatest 2 = .ok (.istore_n 1, 1) := of_decide_eq_true (List.all_eq_true.mp dA_X7_greatest_0 (2, .istore_n 1, 1) (List.mem_of_getElem? (i := 1) rfl))
theorem dX7_greatest_3 : decode cX7_greatest 3 = .ok (.iload_n 1, 1) := of_decide_eq_true (List.all_eq_true.mp dA_X7_greatest_0 (3, .iload_n 1, 1) (List.mem_of_getElem? (i := 2) rfl))
theorem dX7_greatest_4 : decode cX7_greatest 4 = .ok (.ifCond .lt 20, 3) := of_decide_eq_true (List.all_eq_true.mp dA_X7_greatest_0 (4, .ifCond .lt 20, 3) (List.mem_of_getElem? (i := 3) rfl))
theorem dX7_greatest_7 : decode cX7_greatest 7 = .ok (.iload_n 0, 1) := of_decide_eq_true (List.all_eq_true.mp dA_X7_greatest_0 (7, .iload_n 0, 1) (List.mem_of_getElem? (i := 4) rfl))
theorem dX7_greatest_8 : decode cX7_greatest 8 = .ok (.iload_n 1, 1) := of_decide_eq_true (List.all_eq_true.mp dA_X7_greatest_0 (8, .iload_n 1, 1) (List.mem_of_getElem? (i := 5) rfl))
theorem dX7_greatest_9 : decode cX7_greatest 9 = .ok (.ishr, 1) := of_decide_eq_true (List.all_eq_true.mp dA_X7_greatest_0 (9, .ishr, 1) (List.mem_of_getElem? (i := 6) rfl))
theorem dX7_greatest_10 : decode cX7_greatest 10 = .ok (.iconst 1, 1) := of_decide_eq_true (List.all_eq_true.mp dA_X7_greatest_0 (10, .iconst 1, 1) (List.mem_of_getElem? (i := 7) rfl))
theorem dX7_greatest_11 : decode cX7_greatest 11 = .ok (.iand, 1) := of_decide_eq_true (List.all_eq_true.mp dA_X7_greatest_0 (11, .iand, 1) (List.mem_of_getElem? (i := 8) rfl))
theorem dX7_greatest_12 : decode cX7_greatest 12 = .ok (.iconst 1, 1) := of_decide_eq_true (List.all_eq_true.mp dA_X7_greatest_0 (12, .iconst 1, 1) (List.mem_of_getElem? (i := 9) rfl))
theorem dX7_greatest_13 : decode cX7_greatest 13 = .ok (.if_icmp .ne 5, 3) := of_decide_eq_true (List.all_eq_true.mp dA_X7_greatest_0 (13, .if_icmp .ne 5, 3) (List.mem_of_getElem? (i := 10) rfl))
theorem dX7_greatest_16 : decode cX7_greatest 16 = .ok (.iload_n 1, 1) := of_decide_eq_true (List.all_eq_true.mp dA_X7_greatest_0 (16, .iload_n 1, 1) (List.mem_of_getElem? (i := 11) rfl))
theorem dX7_greatest_17 : decode cX7_greatest 17 = .ok (.ireturn, 1) := of_decide_eq_true (List.all_eq_true.mp dA_X7_greatest_0 (17, .ireturn, 1) (List.mem_of_getElem? (i := 12) rfl))
theorem dX7_greatest_18 : decode cX7_greatest 18 = .ok (.iinc 1 (-1), 3) := of_decide_eq_true (List.all_eq_true.mp dA_X7_greatest_0 (18, .iinc 1 (-1), 3) (List.mem_of_getElem? (i := 13) rfl))
theorem dX7_greatest_21 : decode cX7_greatest 21 = .ok (.goto (-18), 3) := of_decide_eq_true (List.all_eq_true.mp dA_X7_greatest_0 (21, .goto (-18), 3) (List.mem_of_getElem? (i := 14) rfl))
theorem dX7_greatest_24 : decode cX7_greatest 24 = .ok (.iconst (-1), 1) := of_decide_eq_true (List.all_eq_true.mp dA_X7_greatest_0 (24, .iconst (-1), 1) (List.mem_of_getElem? (i := 15) rfl))
theorem dX7_greatest_25 : decode cX7_greatest 25 = .ok (.ireturn, 1) := of_decide_eq_true (List.all_eq_true.mp dA_X7_greatest_0 (25, .ireturn, 1) (List.mem_of_getElem? (i := 16) rfl))
set_option maxRecDepth 20000 in
theorem ggX7_bestNight_X7_visitsThatFit : GoodIn wsX7_bestNight wsX7_visitsThatFit := goodIn_r _ [9, 10, 11, 12, 8, 13, 14, 15, 16, 17, 18, 19, 20, 21, 22, 23, 24, 25, 26, 27, 28, 29, 30, 31, 32, 33, 34, 35, 36, 37, 38, 39, 40, 41, 42, 43, 44, 45, 46, 47, 48, 49, 61, 62, 63, 64, 65, 66, 67, 68, 69, 70, 71, 72, 73, 74, 75] (by decide +kernel) (by decide +kernel)
set_option maxRecDepth 20000 in
theorem gX7_bestNight_X7_visitsThatFit : GoodIn wsX7_bestNight (wsV RX7 19 RX7 yX7_visitsThatFit wsX7_visitsThatFit) := goodIn_app (goodIn_of _ (by decide +kernel)) ggX7_bestNight_X7_visitsThatFit
set_option maxRecDepth 20000 in
theorem ggX7_bestNight_J6_bitCount_0f7a4 : GoodIn wsX7_bestNight wsJ6_bitCount_0f7a4 := goodIn_r _ [53, 54, 55, 56] (by decide +kernel) (by decide +kernel)
set_option maxRecDepth 20000 in
theorem gX7_bestNight_J6_bitCount_0f7a4 : GoodIn wsX7_bestNight (va_wsS RX7 23 yJ6_bitCount_0f7a4 wsJ6_bitCount_0f7a4) := goodIn_app (goodIn_of _ (by decide +kernel)) ggX7_bestNight_J6_bitCount_0f7a4
set_option maxRecDepth 20000 in
theorem ggX7_bestNight_X7_howManyLetIn : GoodIn wsX7_bestNight wsX7_howManyLetIn := goodIn_r _ [60, 22, 23, 24, 8, 25, 26, 27, 28, 29, 30, 31, 32, 15, 16, 17, 18, 19, 20, 21, 33, 34, 35, 36, 37, 38, 39, 40, 41, 42, 43, 44, 45, 46, 47, 48, 49, 61, 62, 63, 64, 65, 66, 67, 68, 69, 70, 71, 72, 73, 74, 75] (by decide +kernel) (by decide +kernel)
set_option maxRecDepth 20000 in
theorem gX7_bestNight_X7_howManyLetIn : GoodIn wsX7_bestNight (wsV RX7 29 RX7 yX7_howManyLetIn wsX7_howManyLetIn) := goodIn_app (goodIn_of _ (by decide +kernel)) ggX7_bestNight_X7_howManyLetIn
set_option maxRecDepth 20000 in
theorem dA_X7_bestNight_0 : (([(0, .aload_n 0, 1), (1, .aload_n 1, 1), (2, .iload_n 2, 1), (3, .invokevirtual 19, 3), (6, .istore_n 3, 1), (7, .iload_n 3, 1), (8, .invokestatic 23, 3), (11, .istore 4, 2), (13, .iconst (-1), 1), (14, .istore 5, 2), (16, .iload 4, 2), (18, .iconst 1, 1), (19, .iadd, 1), (20, .istore 6, 2), (22, .iload 4, 2), (24, .ifCond .ne 5, 3), (27, .iconst (-1), 1), (28, .ireturn, 1), (29, .iconst 0, 1), (30, .istore 7, 2), (32, .iload 7, 2), (34, .bipush 14, 2), (36, .if_icmp .ge 71, 3), (39, .iconst 0, 1), (40, .istore 8, 2), (42, .iload 8, 2), (44, .bipush 9, 2), (46, .if_icmp .gt 55, 3), (49, .aload_n 0, 1), (50, .aload_n 1, 1), (51, .iload_n 2, 1), (52, .iload 8, 2), (54, .iload 7, 2), (56, .iload_n 3, 1), (57, .invokevirtual 29, 3)] : List (Nat × Instr × Nat)).all fun q => decide (decode cX7_bestNight q.1 = .ok (q.2.1, q.2.2))) = true := by decide +kernel
theorem dX7_bestNight_0 : decode cX7_bestNight 0 = .ok (.aload_n 0, 1) := of_decide_eq_true (List.all_eq_true.mp dA_X7_bestNight_0 (0, .aload_n 0, 1) (List.mem_of_getElem? (i := 0) rfl))
theorem dX7_bestNight_1 : decode cX7_bestNight 1 = .ok (.aload_n 1, 1) := of_decide_eq_true (List.all_eq_true.mp dA_X7_bestNight_0 (1, .aload_n 1, 1) (List.mem_of_getElem? (i := 1) rfl))
theorem dX7_bestNight_2 : decode cX7_bestNight 2 = .ok (.iload_n 2, 1) := of_decide_eq_true (List.all_eq_true.mp dA_X7_bestNight_0 (2, .iload_n 2, 1) (List.mem_of_getElem? (i := 2) rfl))
theorem dX7_bestNight_3 : decode cX7_bestNight 3 = .ok (.invokevirtual 19, 3) := of_decide_eq_true (List.all_eq_true.mp dA_X7_bestNight_0 (3, .invokevirtual 19, 3) (List.mem_of_getElem? (i := 3) rfl))
theorem dX7_bestNight_6 : decode cX7_bestNight 6 = .ok (.istore_n 3, 1) := of_decide_eq_true (List.all_eq_true.mp dA_X7_bestNight_0 (6, .istore_n 3, 1) (List.mem_of_getElem? (i := 4) rfl))
theorem dX7_bestNight_7 : decode cX7_bestNight 7 = .ok (.iload_n 3, 1) := of_decide_eq_true (List.all_eq_true.mp dA_X7_bestNight_0 (7, .iload_n 3, 1) (List.mem_of_getElem? (i := 5) rfl))
theorem dX7_bestNight_8 : decode cX7_bestNight 8 = .ok (.invokestatic 23, 3) := of_decide_eq_true (List.all_eq_true.mp dA_X7_bestNight_0 (8, .invokestatic 23, 3) (List.mem_of_getElem? (i := 6) rfl))
theorem dX7_bestNight_11 : decode cX7_bestNight 11 = .ok (.istore 4, 2) := of_decide_eq_true (List.all_eq_true.mp dA_X7_bestNight_0 (11, .istore 4, 2) (List.mem_of_getElem? (i := 7) rfl))
theorem dX7_bestNight_13 : decode cX7_bestNight 13 = .ok (.iconst (-1), 1) := of_decide_eq_true (List.all_eq_true.mp dA_X7_bestNight_0 (13, .iconst (-1), 1) (List.mem_of_getElem? (i := 8) rfl))
theorem dX7_bestNight_14 : decode cX7_bestNight 14 = .ok (.istore 5, 2) := of_decide_eq_true (List.all_eq_true.mp dA_X7_bestNight_0 (14, .istore 5, 2) (List.mem_of_getElem? (i := 9) rfl))
theorem dX7_bestNight_16 : decode cX7_bestNight 16 = .ok (.iload 4, 2) := of_decide_eq_true (List.all_eq_true.mp dA_X7_bestNight_0 (16, .iload 4, 2) (List.mem_of_getElem? (i := 10) rfl))
theorem dX7_bestNight_18 : decode cX7_bestNight 18 = .ok (.iconst 1, 1) := of_decide_eq_true (List.all_eq_true.mp dA_X7_bestNight_0 (18, .iconst 1, 1) (List.mem_of_getElem? (i := 11) rfl))
theorem dX7_bestNight_19 : decode cX7_bestNight 19 = .ok (.iadd, 1) := of_decide_eq_true (List.all_eq_true.mp dA_X7_bestNight_0 (19, .iadd, 1) (List.mem_of_getElem? (i := 12) rfl))
theorem dX7_bestNight_20 : decode cX7_bestNight 20 = .ok (.istore 6, 2) := of_decide_eq_true (List.all_eq_true.mp dA_X7_bestNight_0 (20, .istore 6, 2) (List.mem_of_getElem? (i := 13) rfl))
theorem dX7_bestNight_22 : decode cX7_bestNight 22 = .ok (.iload 4, 2) := of_decide_eq_true (List.all_eq_true.mp dA_X7_bestNight_0 (22, .iload 4, 2) (List.mem_of_getElem? (i := 14) rfl))
theorem dX7_bestNight_24 : decode cX7_bestNight 24 = .ok (.ifCond .ne 5, 3) := of_decide_eq_true (List.all_eq_true.mp dA_X7_bestNight_0 (24, .ifCond .ne 5, 3) (List.mem_of_getElem? (i := 15) rfl))
theorem dX7_bestNight_27 : decode cX7_bestNight 27 = .ok (.iconst (-1), 1) := of_decide_eq_true (List.all_eq_true.mp dA_X7_bestNight_0 (27, .iconst (-1), 1) (List.mem_of_getElem? (i := 16) rfl))
theorem dX7_bestNight_28 : decode cX7_bestNight 28 = .ok (.ireturn, 1) := of_decide_eq_true (List.all_eq_true.mp dA_X7_bestNight_0 (28, .ireturn, 1) (List.mem_of_getElem? (i := 17) rfl))
theorem dX7_bestNight_29 : decode cX7_bestNight 29 = .ok (.iconst 0, 1) := of_decide_eq_true (List.all_eq_true.mp dA_X7_bestNight_0 (29, .iconst 0, 1) (List.mem_of_getElem? (i := 18) rfl))
theorem dX7_bestNight_30 : decode cX7_bestNight 30 = .ok (.istore 7, 2) := of_decide_eq_true (List.all_eq_true.mp dA_X7_bestNight_0 (30, .istore 7, 2) (List.mem_of_getElem? (i := 19) rfl))
theorem dX7_bestNight_32 : decode cX7_bestNight 32 = .ok (.iload 7, 2) := of_decide_eq_true (List.all_eq_true.mp dA_X7_bestNight_0 (32, .iload 7, 2) (List.mem_of_getElem? (i := 20) rfl))
theorem dX7_bestNight_34 : decode cX7_bestNight 34 = .ok (.bipush 14, 2) := of_decide_eq_true (List.all_eq_true.mp dA_X7_bestNight_0 (34, .bipush 14, 2) (List.mem_of_getElem? (i := 21) rfl))
theorem dX7_bestNight_36 : decode cX7_bestNight 36 = .ok (.if_icmp .ge 71, 3) := of_decide_eq_true (List.all_eq_true.mp dA_X7_bestNight_0 (36, .if_icmp .ge 71, 3) (List.mem_of_getElem? (i := 22) rfl))
theorem dX7_bestNight_39 : decode cX7_bestNight 39 = .ok (.iconst 0, 1) := of_decide_eq_true (List.all_eq_true.mp dA_X7_bestNight_0 (39, .iconst 0, 1) (List.mem_of_getElem? (i := 23) rfl))
theorem dX7_bestNight_40 : decode cX7_bestNight 40 = .ok (.istore 8, 2) := of_decide_eq_true (List.all_eq_true.mp dA_X7_bestNight_0 (40, .istore 8, 2) (List.mem_of_getElem? (i := 24) rfl))
theorem dX7_bestNight_42 : decode cX7_bestNight 42 = .ok (.iload 8, 2) := of_decide_eq_true (List.all_eq_true.mp dA_X7_bestNight_0 (42, .iload 8, 2) (List.mem_of_getElem? (i := 25) rfl))
theorem dX7_bestNight_44 : decode cX7_bestNight 44 = .ok (.bipush 9, 2) := of_decide_eq_true (List.all_eq_true.mp dA_X7_bestNight_0 (44, .bipush 9, 2) (List.mem_of_getElem? (i := 26) rfl))
theorem dX7_bestNight_46 : decode cX7_bestNight 46 = .ok (.if_icmp .gt 55, 3) := of_decide_eq_true (List.all_eq_true.mp dA_X7_bestNight_0 (46, .if_icmp .gt 55, 3) (List.mem_of_getElem? (i := 27) rfl))
theorem dX7_bestNight_49 : decode cX7_bestNight 49 = .ok (.aload_n 0, 1) := of_decide_eq_true (List.all_eq_true.mp dA_X7_bestNight_0 (49, .aload_n 0, 1) (List.mem_of_getElem? (i := 28) rfl))
theorem dX7_bestNight_50 : decode cX7_bestNight 50 = .ok (.aload_n 1, 1) := of_decide_eq_true (List.all_eq_true.mp dA_X7_bestNight_0 (50, .aload_n 1, 1) (List.mem_of_getElem? (i := 29) rfl))
theorem dX7_bestNight_51 : decode cX7_bestNight 51 = .ok (.iload_n 2, 1) := of_decide_eq_true (List.all_eq_true.mp dA_X7_bestNight_0 (51, .iload_n 2, 1) (List.mem_of_getElem? (i := 30) rfl))
theorem dX7_bestNight_52 : decode cX7_bestNight 52 = .ok (.iload 8, 2) := of_decide_eq_true (List.all_eq_true.mp dA_X7_bestNight_0 (52, .iload 8, 2) (List.mem_of_getElem? (i := 31) rfl))
theorem dX7_bestNight_54 : decode cX7_bestNight 54 = .ok (.iload 7, 2) := of_decide_eq_true (List.all_eq_true.mp dA_X7_bestNight_0 (54, .iload 7, 2) (List.mem_of_getElem? (i := 32) rfl))
theorem dX7_bestNight_56 : decode cX7_bestNight 56 = .ok (.iload_n 3, 1) := of_decide_eq_true (List.all_eq_true.mp dA_X7_bestNight_0 (56, .iload_n 3, 1) (List.mem_of_getElem? (i := 33) rfl))
theorem dX7_bestNight_57 : decode cX7_bestNight 57 = .ok (.invokevirtual 29, 3) := of_decide_eq_true (List.all_eq_true.mp dA_X7_bestNight_0 (57, .invokevirtual 29, 3) (List.mem_of_getElem? (i := 34) rfl))
