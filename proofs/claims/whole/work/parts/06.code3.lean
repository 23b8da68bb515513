set_option maxRecDepth 20000 in
theorem dA_X8_counted_49 : (([(49, .getfield 10, 3), (52, .getfield 65, 3), (55, .getfield 69, 3), (58, .ireturn, 1), (59, .aload_n 0, 1), (60, .getfield 10, 3), (63, .invokevirtual 144, 3), (66, .ireturn, 1), (67, .aload_n 0, 1), (68, .getfield 10, 3), (71, .getfield 157, 3), (74, .ireturn, 1), (75, .aload_n 0, 1), (76, .getfield 10, 3), (79, .getfield 65, 3), (82, .iconst 2, 1), (83, .invokevirtual 304, 3), (86, .ireturn, 1), (87, .aload_n 0, 1), (88, .getfield 10, 3), (91, .getfield 204, 3), (94, .getfield 69, 3), (97, .ireturn, 1), (98, .aload_n 0, 1), (99, .getfield 10, 3), (102, .getfield 229, 3), (105, .getfield 69, 3), (108, .ireturn, 1), (109, .aload_n 0, 1), (110, .getfield 10, 3), (113, .getfield 232, 3), (116, .getfield 69, 3), (119, .ireturn, 1), (120, .aload_n 0, 1), (121, .getfield 10, 3), (124, .getfield 81, 3), (127, .getfield 69, 3), (130, .ireturn, 1), (131, .aload_n 0, 1), (132, .getfield 28, 3)] : List (Nat × Instr × Nat)).all fun q => decide (decode cX8_counted q.1 = .ok (q.2.1, q.2.2))) = true := by decide +kernel
theorem dX8_counted_49 : decode cX8_counted 49 = .ok (.getfield 10, 3) := of_decide_eq_true (List.all_eq_true.mp dA_X8_counted_49 (49, .getfield 10, 3) (List.mem_of_getElem? (i := 0) rfl))
theorem dX8_counted_52 : decode cX8_counted 52 = .ok (.getfield 65, 3) := of_decide_eq_true (List.all_eq_true.mp dA_X8_counted_49 (52, .getfield 65, 3) (List.mem_of_getElem? (i := 1) rfl))
theorem dX8_counted_55 : decode cX8_counted 55 = .ok (.getfield 69, 3) := of_decide_eq_true (List.all_eq_true.mp dA_X8_counted_49 (55, .getfield 69, 3) (List.mem_of_getElem? (i := 2) rfl))
theorem dX8_counted_58 : decode cX8_counted 58 = .ok (.ireturn, 1) := of_decide_eq_true (List.all_eq_true.mp dA_X8_counted_49 (58, .ireturn, 1) (List.mem_of_getElem? (i := 3) rfl))
theorem dX8_counted_59 : decode cX8_counted 59 = .ok (.aload_n 0, 1) := of_decide_eq_true (List.all_eq_true.mp dA_X8_counted_49 (59, .aload_n 0, 1) (List.mem_of_getElem? (i := 4) rfl))
theorem dX8_counted_60 : decode cX8_counted 60 = .ok (.getfield 10, 3) := of_decide_eq_true (List.all_eq_true.mp dA_X8_counted_49 (60, .getfield 10, 3) (List.mem_of_getElem? (i := 5) rfl))
theorem dX8_counted_63 : decode cX8_counted 63 = .ok (.invokevirtual 144, 3) := of_decide_eq_true (List.all_eq_true.mp dA_X8_counted_49 (63, .invokevirtual 144, 3) (List.mem_of_getElem? (i := 6) rfl))
theorem dX8_counted_66 : decode cX8_counted 66 = .ok (.ireturn, 1) := of_decide_eq_true (List.all_eq_true.mp dA_X8_counted_49 (66, .ireturn, 1) (List.mem_of_getElem? (i := 7) rfl))
theorem dX8_counted_67 : decode cX8_counted 67 = .ok (.aload_n 0, 1) := of_decide_eq_true (List.all_eq_true.mp dA_X8_counted_49 (67, .aload_n 0, 1) (List.mem_of_getElem? (i := 8) rfl))
theorem dX8_counted_68 : decode cX8_counted 68 = .ok (.getfield 10, 3) := of_decide_eq_true (List.all_eq_true.mp dA_X8_counted_49 (68, .getfield 10, 3) (List.mem_of_getElem? (i := 9) rfl))
theorem dX8_counted_71 : decode cX8_counted 71 = .ok (.getfield 157, 3) := of_decide_eq_true (List.all_eq_true.mp dA_X8_counted_49 (71, .getfield 157, 3) (List.mem_of_getElem? (i := 10) rfl))
theorem dX8_counted_74 : decode cX8_counted 74 = .ok (.ireturn, 1) := of_decide_eq_true (List.all_eq_true.mp dA_X8_counted_49 (74, .ireturn, 1) (List.mem_of_getElem? (i := 11) rfl))
theorem dX8_counted_75 : decode cX8_counted 75 = .ok (.aload_n 0, 1) := of_decide_eq_true (List.all_eq_true.mp dA_X8_counted_49 (75, .aload_n 0, 1) (List.mem_of_getElem? (i := 12) rfl))
theorem dX8_counted_76 : decode cX8_counted 76 = .ok (.getfield 10, 3) := of_decide_eq_true (List.all_eq_true.mp dA_X8_counted_49 (76, .getfield 10, 3) (List.mem_of_getElem? (i := 13) rfl))
theorem dX8_counted_79 : decode cX8_counted 79 = .ok (.getfield 65, 3) := of_decide_eq_true (List.all_eq_true.mp dA_X8_counted_49 (79, .getfield 65, 3) (List.mem_of_getElem? (i := 14) rfl))
theorem dX8_counted_82 : decode cX8_counted 82 = .ok (.iconst 2, 1) := of_decide_eq_true (List.all_eq_true.mp dA_X8_counted_49 (82, .iconst 2, 1) (List.mem_of_getElem? (i := 15) rfl))
theorem dX8_counted_83 : decode cX8_counted 83 = .ok (.invokevirtual 304, 3) := of_decide_eq_true (List.all_eq_true.mp dA_X8_counted_49 (83, .invokevirtual 304, 3) (List.mem_of_getElem? (i := 16) rfl))
theorem dX8_counted_86 : decode cX8_counted 86 = .ok (.ireturn, 1) := of_decide_eq_true (List.all_eq_true.mp dA_X8_counted_49 (86, .ireturn, 1) (List.mem_of_getElem? (i := 17) rfl))
theorem dX8_counted_87 : decode cX8_counted 87 = .ok (.aload_n 0, 1) := of_decide_eq_true (List.all_eq_true.mp dA_X8_counted_49 (87, .aload_n 0, 1) (List.mem_of_getElem? (i := 18) rfl))
theorem dX8_counted_88 : decode cX8_counted 88 = .ok (.getfield 10, 3) := of_decide_eq_true (List.all_eq_true.mp dA_X8_counted_49 (88, .getfield 10, 3) (List.mem_of_getElem? (i := 19) rfl))
theorem dX8_counted_91 : decode cX8_counted 91 = .ok (.getfield 204, 3) := of_decide_eq_true (List.all_eq_true.mp dA_X8_counted_49 (91, .getfield 204, 3) (List.mem_of_getElem? (i := 20) rfl))
theorem dX8_counted_94 : decode cX8_counted 94 = .ok (.getfield 69, 3) := of_decide_eq_true (List.all_eq_true.mp dA_X8_counted_49 (94, .getfield 69, 3) (List.mem_of_getElem? (i := 21) rfl))
theorem dX8_counted_97 : decode cX8_counted 97 = .ok (.ireturn, 1) := of_decide_eq_true (List.all_eq_true.mp dA_X8_counted_49 (97, .ireturn, 1) (List.mem_of_getElem? (i := 22) rfl))
theorem dX8_counted_98 : decode cX8_counted 98 = .ok (.aload_n 0, 1) := of_decide_eq_true (List.all_eq_true.mp dA_X8_counted_49 (98, .aload_n 0, 1) (List.mem_of_getElem? (i := 23) rfl))
theorem dX8_counted_99 : decode cX8_counted 99 = .ok (.getfield 10, 3) := of_decide_eq_true (List.all_eq_true.mp dA_X8_counted_49 (99, .getfield 10, 3) (List.mem_of_getElem? (i := 24) rfl))
theorem dX8_counted_102 : decode cX8_counted 102 = .ok (.getfield 229, 3) := of_decide_eq_true (List.all_eq_true.mp dA_X8_counted_49 (102, .getfield 229, 3) (List.mem_of_getElem? (i := 25) rfl))
theorem dX8_counted_105 : decode cX8_counted 105 = .ok (.getfield 69, 3) := of_decide_eq_true (List.all_eq_true.mp dA_X8_counted_49 (105, .getfield 69, 3) (List.mem_of_getElem? (i := 26) rfl))
theorem dX8_counted_108 : decode cX8_counted 108 = .ok (.ireturn, 1) := of_decide_eq_true (List.all_eq_true.mp dA_X8_counted_49 (108, .ireturn, 1) (List.mem_of_getElem? (i := 27) rfl))
theorem dX8_counted_109 : decode cX8_counted 109 = .ok (.aload_n 0, 1) := of_decide_eq_true (List.all_eq_true.mp dA_X8_counted_49 (109, .aload_n 0, 1) (List.mem_of_getElem? (i := 28) rfl))
theorem dX8_counted_110 : decode cX8_counted 110 = .ok (.getfield 10, 3) := of_decide_eq_true (List.all_eq_true.mp dA_X8_counted_49 (110, .getfield 10, 3) (List.mem_of_getElem? (i := 29) rfl))
theorem dX8_counted_113 : decode cX8_counted 113 = .ok (.getfield 232, 3) := of_decide_eq_true (List.all_eq_true.mp dA_X8_counted_49 (113, .getfield 232, 3) (List.mem_of_getElem? (i := 30) rfl))
theorem dX8_counted_116 : decode cX8_counted 116 = .ok (.getfield 69, 3) := of_decide_eq_true (List.all_eq_true.mp dA_X8_counted_49 (116, .getfield 69, 3) (List.mem_of_getElem? (i := 31) rfl))
theorem dX8_counted_119 : decode cX8_counted 119 = .ok (.ireturn, 1) := of_decide_eq_true (List.all_eq_true.mp dA_X8_counted_49 (119, .ireturn, 1) (List.mem_of_getElem? (i := 32) rfl))
theorem dX8_counted_120 : decode cX8_counted 120 = .ok (.aload_n 0, 1) := of_decide_eq_true (List.all_eq_true.mp dA_X8_counted_49 (120, .aload_n 0, 1) (List.mem_of_getElem? (i := 33) rfl))
theorem dX8_counted_121 : decode cX8_counted 121 = .ok (.getfield 10, 3) := of_decide_eq_true (List.all_eq_true.mp dA_X8_counted_49 (121, .getfield 10, 3) (List.mem_of_getElem? (i := 34) rfl))
theorem dX8_counted_124 : decode cX8_counted 124 = .ok (.getfield 81, 3) := of_decide_eq_true (List.all_eq_true.mp dA_X8_counted_49 (124, .getfield 81, 3) (List.mem_of_getElem? (i := 35) rfl))
theorem dX8_counted_127 : decode cX8_counted 127 = .ok (.getfield 69, 3) := of_decide_eq_true (List.all_eq_true.mp dA_X8_counted_49 (127, .getfield 69, 3) (List.mem_of_getElem? (i := 36) rfl))
theorem dX8_counted_130 : decode cX8_counted 130 = .ok (.ireturn, 1) := of_decide_eq_true (List.all_eq_true.mp dA_X8_counted_49 (130, .ireturn, 1) (List.mem_of_getElem? (i := 37) rfl))
theorem dX8_counted_131 : decode cX8_counted 131 = .ok (.aload_n 0, 1) := of_decide_eq_true (List.all_eq_true.mp dA_X8_counted_49 (131, .aload_n 0, 1) (List.mem_of_getElem? (i := 38) rfl))
theorem dX8_counted_132 : decode cX8_counted 132 = .ok (.getfield 28, 3) := of_decide_eq_true (List.all_eq_true.mp dA_X8_counted_49 (132, .getfield 28, 3) (List.mem_of_getElem? (i := 39) rfl))
set_option maxRecDepth 20000 in
theorem dA_X8_counted_135 : (([(135, .getfield 113, 3), (138, .ireturn, 1)] : List (Nat × Instr × Nat)).all fun q => decide (decode cX8_counted q.1 = .ok (q.2.1, q.2.2))) = true := by decide +kernel
theorem dX8_counted_135 : decode cX8_counted 135 = .ok (.getfield 113, 3) := of_decide_eq_true (List.all_eq_true.mp dA_X8_counted_135 (135, .getfield 113, 3) (List.mem_of_getElem? (i := 0) rfl))
theorem dX8_counted_138 : decode cX8_counted 138 = .ok (.ireturn, 1) := of_decide_eq_true (List.all_eq_true.mp dA_X8_counted_135 (138, .ireturn, 1) (List.mem_of_getElem? (i := 1) rfl))
set_option maxRecDepth 20000 in
theorem ggX8_written_X5_isFull : GoodIn wsX8_written wsX5_isFull := goodIn_r _ [5, 6, 7, 26, 27, 28, 29] (by decide +kernel) (by decide +kernel)
set_option maxRecDepth 20000 in
theorem gX8_written_X5_isFull : GoodIn wsX8_written (wsV RX8 97 RX5 yX5_isFull wsX5_isFull) := goodIn_app (goodIn_of _ (by decide +kernel)) ggX8_written_X5_isFull
set_option maxRecDepth 20000 in
theorem ggX8_written_X8_full : GoodIn wsX8_written wsX8_full := goodIn_r _ [12, 13, 30, 31, 32, 33, 34, 35, 36, 37, 38, 39, 40, 41, 42, 43] (by decide +kernel) (by decide +kernel)
set_option maxRecDepth 20000 in
theorem gX8_written_X8_full : GoodIn wsX8_written (wsV RX8 101 RX8 yX8_full wsX8_full) := goodIn_app (goodIn_of _ (by decide +kernel)) ggX8_written_X8_full
set_option maxRecDepth 20000 in
theorem ggX8_written_X5_append : GoodIn wsX8_written wsX5_append := goodIn_r _ [17, 6, 18, 19, 2, 3, 4, 5, 7, 20, 21, 22, 23, 24, 26, 27, 28, 29] (by decide +kernel) (by decide +kernel)
set_option maxRecDepth 20000 in
theorem gX8_written_X5_append : GoodIn wsX8_written (wsV RX8 307 RX5 yX5_append wsX5_append) := goodIn_app (goodIn_of _ (by decide +kernel)) ggX8_written_X5_append
set_option maxRecDepth 20000 in
theorem ggX8_written_X5_put : GoodIn wsX8_written wsX5_put := goodIn_r _ [23, 6, 18, 24, 26, 27, 28, 29] (by decide +kernel) (by decide +kernel)
set_option maxRecDepth 20000 in
theorem gX8_written_X5_put : GoodIn wsX8_written (wsV RX8 150 RX5 yX5_put wsX5_put) := goodIn_app (goodIn_of _ (by decide +kernel)) ggX8_written_X5_put
set_option maxRecDepth 20000 in
theorem dA_X8_written_0 : (([(0, .aload_n 1, 1), (1, .invokevirtual 97, 3), (4, .ifCond .eq 8, 3), (7, .aload_n 0, 1), (8, .invokevirtual 101, 3), (11, .ireturn, 1), (12, .aload_n 1, 1), (13, .invokevirtual 307, 3), (16, .istore 7, 2), (18, .aload_n 1, 1), (19, .iload 7, 2), (21, .iconst 0, 1), (22, .iload_n 2, 1), (23, .invokevirtual 150, 3), (26, .aload_n 1, 1), (27, .iload 7, 2), (29, .iconst 1, 1), (30, .iload_n 3, 1), (31, .invokevirtual 150, 3), (34, .aload_n 1, 1), (35, .iload 7, 2), (37, .iconst 2, 1), (38, .iload 4, 2), (40, .invokevirtual 150, 3), (43, .aload_n 1, 1), (44, .iload 7, 2), (46, .iconst 3, 1), (47, .iload 5, 2), (49, .invokevirtual 150, 3), (52, .aload_n 1, 1), (53, .iload 7, 2), (55, .iconst 4, 1), (56, .iload 6, 2), (58, .invokevirtual 150, 3), (61, .aload_n 1, 1), (62, .getfield 69, 3), (65, .ireturn, 1)] : List (Nat × Instr × Nat)).all fun q => decide (decode cX8_written q.1 = .ok (q.2.1, q.2.2))) = true := by decide +kernel
theorem dX8_written_0 : decode cX8_written 0 = .ok (.aload_n 1, 1) := of_decide_eq_true (List.all_eq_true.mp dA_X8_written_0 (0, .aload_n 1, 1) (List.mem_of_getElem? (i := 0) rfl))
theorem dX8_written_1 : decode cX8_written 1 = .ok (.invokevirtual 97, 3) := of_decide_eq_true (List.all_eq_true.mp dA_X8_written_0 (1, .invokevirtual 97, 3) (List.mem_of_getElem? (i := 1) rfl))
theorem dX8_written_4 : decode cX8_written 4 = .ok (.ifCond .eq 8, 3) := of_decide_eq_true (List.all_eq_true.mp dA_X8_written_0 (4, .ifCond .eq 8, 3) (List.mem_of_getElem? (i := 2) rfl))
theorem dX8_written_7 : decode cX8_written 7 = .ok (.aload_n 0, 1) := of_decide_eq_true (List.all_eq_true.mp dA_X8_written_0 (7, .aload_n 0, 1) (List.mem_of_getElem? (i := 3) rfl))
theorem dX8_written_8 : decode cX8_written 8 = .ok (.invokevirtual 101, 3) := of_decide_eq_true (List.all_eq_true.mp dA_X8_written_0 (8, .invokevirtual 101, 3) (List.mem_of_getElem? (i := 4) rfl))
theorem dX8_written_11 : decode cX8_written 11 = .ok (.ireturn, 1) := of_decide_eq_true (List.all_eq_true.mp dA_X8_written_0 (11, .ireturn, 1) (List.mem_of_getElem? (i := 5) rfl))
theorem dX8_written_12 : decode cX8_written 12 = .ok (.aload_n 1, 1) := of_decide_eq_true (List.all_eq_true.mp dA_X8_written_0 (12, .aload_n 1, 1) (List.mem_of_getElem? (i := 6) rfl))
theorem dX8_written_13 : decode cX8_written 13 = .ok (.invokevirtual 307, 3) := of_decide_eq_true (List.all_eq_true.mp dA_X8_written_0 (13, .invokevirtual 307, 3) (List.mem_of_getElem? (i := 7) rfl))
theorem dX8_written_16 : decode cX8_written 16 = .ok (.istore 7, 2) := of_decide_eq_true (List.all_eq_true.mp dA_X8_written_0 (16, .istore 7, 2) (List.mem_of_getElem? (i := 8) rfl))
theorem dX8_written_18 : decode cX8_written 18 = .ok (.aload_n 1, 1) := of_decide_eq_true (List.all_eq_true.mp dA_X8_written_0 (18, .aload_n 1, 1) (List.mem_of_getElem? (i := 9) rfl))
theorem dX8_written_19 : decode cX8_written 19 = .ok (.iload 7, 2) := of_decide_eq_true (List.all_eq_true.mp dA_X8_written_0 (19, .iload 7, 2) (List.mem_of_getElem? (i := 10) rfl))
theorem dX8_written_21 : decode cX8_written 21 = .ok (.iconst 0, 1) := of_decide_eq_true (List.all_eq_true.mp dA_X8_written_0 (21, .iconst 0, 1) (List.mem_of_getElem? (i := 11) rfl))
theorem dX8_written_22 : decode cX8_written 22 = .ok (.iload_n 2, 1) := of_decide_eq_true (List.all_eq_true.mp dA_X8_written_0 (22, .iload_n 2, 1) (List.mem_of_getElem? (i := 12) rfl))
theorem dX8_written_23 : decode cX8_written 23 = .ok (.invokevirtual 150, 3) := of_decide_eq_true (List.all_eq_true.mp dA_X8_written_0 (23, .invokevirtual 150, 3) (List.mem_of_getElem? (i := 13) rfl))
theorem dX8_written_26 : decode cX8_written 26 = .ok (.aload_n 1, 1) := of_decide_eq_true (List.all_eq_true.mp dA_X8_written_0 (26, .aload_n 1, 1) (List.mem_of_getElem? (i := 14) rfl))
theorem dX8_written_27 : decode cX8_written 27 = .ok (.iload 7, 2) := of_decide_eq_true (List.all_eq_true.mp dA_X8_written_0 (27, .iload 7, 2) (List.mem_of_getElem? (i := 15) rfl))
theorem dX8_written_29 : decode cX8_written 29 = .ok (.iconst 1, 1) := of_decide_eq_true (List.all_eq_true.mp dA_X8_written_0 (29, .iconst 1, 1) (List.mem_of_getElem? (i := 16) rfl))
theorem dX8_written_30 : decode cX8_written 30 = .ok (.iload_n 3, 1) := of_decide_eq_true (List.all_eq_true.mp dA_X8_written_0 (30, .iload_n 3, 1) (List.mem_of_getElem? (i := 17) rfl))
theorem dX8_written_31 : decode cX8_written 31 = .ok (.invokevirtual 150, 3) := of_decide_eq_true (List.all_eq_true.mp dA_X8_written_0 (31, .invokevirtual 150, 3) (List.mem_of_getElem? (i := 18) rfl))
theorem dX8_written_34 : decode cX8_written 34 = .ok (.aload_n 1, 1) := of_decide_eq_true (List.all_eq_true.mp dA_X8_written_0 (34, .aload_n 1, 1) (List.mem_of_getElem? (i := 19) rfl))
theorem dX8_written_35 : decode cX8_written 35 = .ok (.iload 7, 2) := of_decide_eq_true (List.all_eq_true.mp dA_X8_written_0 (35, .iload 7, 2) (List.mem_of_getElem? (i := 20) rfl))
theorem dX8_written_37 : decode cX8_written 37 = .ok (.iconst 2, 1) := of_decide_eq_true (List.all_eq_true.mp dA_X8_written_0 (37, .iconst 2, 1) (List.mem_of_getElem? (i := 21) rfl))
theorem dX8_written_38 : decode cX8_written 38 = .ok (.iload 4, 2) := of_decide_eq_true (List.all_eq_true.mp dA_X8_written_0 (38, .iload 4, 2) (List.mem_of_getElem? (i := 22) rfl))
theorem dX8_written_40 : decode cX8_written 40 = .ok (.invokevirtual 150, 3) := of_decide_eq_true (List.all_eq_true.mp dA_X8_written_0 (40, .invokevirtual 150, 3) (List.mem_of_getElem? (i := 23) rfl))
theorem dX8_written_43 : decode cX8_written 43 = .ok (.aload_n 1, 1) := of_decide_eq_true (List.all_eq_true.mp dA_X8_written_0 (43, .aload_n 1, 1) (List.mem_of_getElem? (i := 24) rfl))
theorem dX8_written_44 : decode cX8_written 44 = .ok (.iload 7, 2) := of_decide_eq_true (List.all_eq_true.mp dA_X8_written_0 (44, .iload 7, 2) (List.mem_of_getElem? (i := 25) rfl))
theorem dX8_written_46 : decode cX8_written 46 = .ok (.iconst 3, 1) := of_decide_eq_true (List.all_eq_true.mp dA_X8_written_0 (46, .iconst 3, 1) (List.mem_of_getElem? (i := 26) rfl))
theorem dX8_written_47 : decode cX8_written 47 = .ok (.iload 5, 2) := of_decide_eq_true (List.all_eq_true.mp dA_X8_written_0 (47, .iload 5, 2) (List.mem_of_getElem? (i := 27) rfl))
theorem dX8_written_49 : decode cX8_written 49 = .ok (.invokevirtual 150, 3) := of_decide_eq_true (List.all_eq_true.mp dA_X8_written_0 (49, .invokevirtual 150, 3) (List.mem_of_getElem? (i := 28) rfl))
theorem dX8_written_52 : decode cX8_written 52 = .ok (.aload_n 1, 1) := of_decide_eq_true (List.all_eq_true.mp dA_X8_written_0 (52, .aload_n 1, 1) (List.mem_of_getElem? (i := 29) rfl))
theorem dX8_written_53 : decode cX8_written 53 = .ok (.iload 7, 2) := of_decide_eq_true (List.all_eq_true.mp dA_X8_written_0 (53, .iload 7, 2) (List.mem_of_getElem? (i := 30) rfl))
theorem dX8_written_55 : decode cX8_written 55 = .ok (.iconst 4, 1) := of_decide_eq_true (List.all_eq_true.mp dA_X8_written_0 (55, .iconst 4, 1) (List.mem_of_getElem? (i := 31) rfl))
theorem dX8_written_56 : decode cX8_written 56 = .ok (.iload 6, 2) := of_decide_eq_true (List.all_eq_true.mp dA_X8_written_0 (56, .iload 6, 2) (List.mem_of_getElem? (i := 32) rfl))
theorem dX8_written_58 : decode cX8_written 58 = .ok (.invokevirtual 150, 3) := of_decide_eq_true (List.all_eq_true.mp dA_X8_written_0 (58, .invokevirtual 150, 3) (List.mem_of_getElem? (i := 33) rfl))
theorem dX8_written_61 : decode cX8_written 61 = .ok (.aload_n 1, 1) := of_decide_eq_true (List.all_eq_true.mp dA_X8_written_0 (61, .aload_n 1, 1) (List.mem_of_getElem? (i := 34) rfl))
theorem dX8_written_62 : decode cX8_written 62 = .ok (.getfield 69, 3) := of_decide_eq_true (List.all_eq_true.mp dA_X8_written_0 (62, .getfield 69, 3) (List.mem_of_getElem? (i := 35) rfl))
theorem dX8_written_65 : decode cX8_written 65 = .ok (.ireturn, 1) := of_decide_eq_true (List.all_eq_true.mp dA_X8_written_0 (65, .ireturn, 1) (List.mem_of_getElem? (i := 36) rfl))
set_option maxRecDepth 20000 in
theorem dA_X8_setTenths_0 : (([(0, .bipush 10, 2), (2, .istore_n 2, 1), (3, .iload_n 2, 1), (4, .iconst 1, 1), (5, .if_icmp .lt 38, 3), (8, .iload_n 1, 1), (9, .iload_n 2, 1), (10, .irem, 1), (11, .ifCond .ne 26, 3), (14, .bipush 10, 2), (16, .iload_n 2, 1), (17, .irem, 1), (18, .ifCond .ne 19, 3), (21, .aload_n 0, 1), (22, .iload_n 1, 1), (23, .iload_n 2, 1), (24, .idiv, 1), (25, .putfield 46, 3), (28, .aload_n 0, 1), (29, .bipush 10, 2), (31, .iload_n 2, 1), (32, .idiv, 1), (33, .putfield 50, 3), (36, .return_, 1), (37, .iinc 2 (-1), 3), (40, .goto (-37), 3), (43, .return_, 1)] : List (Nat × Instr × Nat)).all fun q => decide (decode cX8_setTenths q.1 = .ok (q.2.1, q.2.2))) = true := by decide +kernel
theorem dX8_setTenths_0 : decode cX8_setTenths 0 = .ok (.bipush 10, 2) := of_decide_eq_true (List.all_eq_true.mp dA_X8_setTenths_0 (0, .bipush 10, 2) (List.mem_of_getElem? (i := 0) rfl))
theorem dX8_setTenths_2 : decode cX8_setTenths 2 = .ok (.istore_n 2, 1) := of_decide_eq_true (List.all_eq_true.mp dA_X8_setTenths_0 (2, .istore_n 2, 1) (List.mem_of_getElem? (i := 1) rfl))
theorem dX8_setTenths_3 : decode cX8_setTenths 3 = .ok (.iload_n 2, 1) := of_decide_eq_true (List.all_eq_true.mp dA_X8_setTenths_0 (3, .iload_n 2, 1) (List.mem_of_getElem? (i := 2) rfl))
theorem dX8_setTenths_4 : decode cX8_setTenths 4 = .ok (.iconst 1, 1) := of_decide_eq_true (List.all_eq_true.mp dA_X8_setTenths_0 (4, .iconst 1, 1) (List.mem_of_getElem? (i := 3) rfl))
theorem dX8_setTenths_5 : decode cX8_setTenths 5 = .ok (.if_icmp .lt 38, 3) := of_decide_eq_true (List.all_eq_true.mp dA_X8_setTenths_0 (5, .if_icmp .lt 38, 3) (List.mem_of_getElem? (i := 4) rfl))
theorem dX8_setTenths_8 : decode cX8_setTenths 8 = .ok (.iload_n 1, 1) := of_decide_eq_true (List.all_eq_true.mp dA_X8_setTenths_0 (8, .iload_n 1, 1) (List.mem_of_getElem? (i := 5) rfl))
theorem dX8_setTenths_9 : decode cX8_setTenths 9 = .ok (.iload_n 2, 1) := of_decide_eq_true (List.all_eq_true.mp dA_X8_setTenths_0 (9, .iload_n 2, 1) (List.mem_of_getElem? (i := 6) rfl))
theorem dX8_setTenths_10 : decode cX8_setTenths 10 = .ok (.irem, 1) := of_decide_eq_true (List.all_eq_true.mp dA_X8_setTenths_0 (10, .irem, 1) (List.mem_of_getElem? (i := 7) rfl))
theorem dX8_setTenths_11 : decode cX8_setTenths 11 = .ok (.ifCond .ne 26, 3) := of_decide_eq_true (List.all_eq_true.mp dA_X8_setTenths_0 (11, .ifCond .ne 26, 3) (List.mem_of_getElem? (i := 8) rfl))
theorem dX8_setTenths_14 : decode cX8_setTenths 14 = .ok (.bipush 10, 2) := of_decide_eq_true (List.all_eq_true.mp dA_X8_setTenths_0 (14, .bipush 10, 2) (List.mem_of_getElem? (i := 9) rfl))
theorem dX8_setTenths_16 : decode cX8_setTenths 16 = .ok (.iload_n 2, 1) := of_decide_eq_true (List.all_eq_true.mp dA_X8_setTenths_0 (16, .iload_n 2, 1) (List.mem_of_getElem? (i := 10) rfl))
theorem dX8_setTenths_17 : decode cX8_setTenths 17 = .ok (.irem, 1) := of_decide_eq_true (List.all_eq_true.mp dA_X8_setTenths_0 (17, .irem, 1) (List.mem_of_getElem? (i := 11) rfl))
theorem dX8_setTenths_18 : decode cX8_setTenths 18 = .ok (.ifCond .ne 19, 3) := of_decide_eq_true (List.all_eq_true.mp dA_X8_setTenths_0 (18, .ifCond .ne 19, 3) (List.mem_of_getElem? (i := 12) rfl))
theorem dX8_setTenths_21 : decode cX8_setTenths 21 = .ok (.aload_n 0, 1) := of_decide_eq_true (List.all_eq_true.mp dA_X8_setTenths_0 (21, .aload_n 0, 1) (List.mem_of_getElem? (i := 13) rfl))
theorem dX8_setTenths_22 : decode cX8_setTenths 22 = .ok (.iload_n 1, 1) := of_decide_eq_true (List.all_eq_true.mp dA_X8_setTenths_0 (22, .iload_n 1, 1) (List.mem_of_getElem? (i := 14) rfl))
theorem dX8_setTenths_23 : decode cX8_setTenths 23 = .ok (.iload_n 2, 1) := of_decide_eq_true (List.all_eq_true.mp dA_X8_setTenths_0 (23, .iload_n 2, 1) (List.mem_of_getElem? (i := 15) rfl))
theorem dX8_setTenths_24 : decode cX8_setTenths 24 = .ok (.idiv, 1) := of_decide_eq_true (List.all_eq_true.mp dA_X8_setTenths_0 (24, .idiv, 1) (List.mem_of_getElem? (i := 16) rfl))
theorem dX8_setTenths_25 : decode cX8_setTenths 25 = .ok (.putfield 46, 3) := of_decide_eq_true (List.all_eq_true.mp dA_X8_setTenths_0 (25, .putfield 46, 3) (List.mem_of_getElem? (i := 17) rfl))
theorem dX8_setTenths_28 : decode cX8_setTenths 28 = .ok (.aload_n 0, 1) := of_decide_eq_true (List.all_eq_true.mp dA_X8_setTenths_0 (28, .aload_n 0, 1) (List.mem_of_getElem? (i := 18) rfl))
theorem dX8_setTenths_29 : decode cX8_setTenths 29 = .ok (.bipush 10, 2) := of_decide_eq_true (List.all_eq_true.mp dA_X8_setTenths_0 (29, .bipush 10, 2) (List.mem_of_getElem? (i := 19) rfl))
theorem dX8_setTenths_31 : decode cX8_setTenths 31 = .ok (.iload_n 2, 1) := of_decide_eq_true (List.all_eq_true.mp dA_X8_setTenths_0 (31, .iload_n 2, 1) (List.mem_of_getElem? (i := 20) rfl))
theorem dX8_setTenths_32 : decode cX8_setTenths 32 = .ok (.idiv, 1) := of_decide_eq_true (List.all_eq_true.mp dA_X8_setTenths_0 (32, .idiv, 1) (List.mem_of_getElem? (i := 21) rfl))
theorem dX8_setTenths_33 : decode cX8_setTenths 33 = .ok (.putfield 50, 3) := of_decide_eq_true (List.all_eq_true.mp dA_X8_setTenths_0 (33, .putfield 50, 3) (List.mem_of_getElem? (i := 22) rfl))
theorem dX8_setTenths_36 : decode cX8_setTenths 36 = .ok (.return_, 1) := of_decide_eq_true (List.all_eq_true.mp dA_X8_setTenths_0 (36, .return_, 1) (List.mem_of_getElem? (i := 23) rfl))
theorem dX8_setTenths_37 : decode cX8_setTenths 37 = .ok (.iinc 2 (-1), 3) := of_decide_eq_true (List.all_eq_true.mp dA_X8_setTenths_0 (37, .iinc 2 (-1), 3) (List.mem_of_getElem? (i := 24) rfl))
theorem dX8_setTenths_40 : decode cX8_setTenths 40 = .ok (.goto (-37), 3) := of_decide_eq_true (List.all_eq_true.mp dA_X8_setTenths_0 (40, .goto (-37), 3) (List.mem_of_getElem? (i := 25) rfl))
theorem dX8_setTenths_43 : decode cX8_setTenths 43 = .ok (.return_, 1) := of_decide_eq_true (List.all_eq_true.mp dA_X8_setTenths_0 (43, .return_, 1) (List.mem_of_getElem? (i := 26) rfl))
set_option maxRecDepth 20000 in
theorem dA_X8_within_0 : (([(0, .iload_n 0, 1), (1, .iload_n 1, 1), (2, .if_icmp .lt 12, 3), (5, .iload_n 0, 1), (6, .iload_n 2, 1), (7, .if_icmp .gt 7, 3), (10, .iconst 1, 1), (11, .goto 4, 3), (14, .iconst 0, 1), (15, .ireturn, 1)] : List (Nat × Instr × Nat)).all fun q => decide (decode cX8_within q.1 = .ok (q.2.1, q.2.2))) = true := by decide +kernel
theorem dX8_within_0 : decode cX8_within 0 = .ok (.iload_n 0, 1) := of_decide_eq_true (List.all_eq_true.mp dA_X8_within_0 (0, .iload_n 0, 1) (List.mem_of_getElem? (i := 0) rfl))
theorem dX8_within_1 : decode cX8_within 1 = .ok (.iload_n 1, 1) := of_decide_eq_true (List.all_eq_true.mp dA_X8_within_0 (1, .iload_n 1, 1) (List.mem_of_getElem? (i := 1) rfl))
theorem dX8_within_2 : decode cX8_within 2 = .ok (.if_icmp .lt 12, 3) := of_decide_eq_true (List.all_eq_true.mp dA_X8_within_0 (2, .if_icmp .lt 12, 3) (List.mem_of_getElem? (i := 2) rfl))
theorem dX8_within_5 : decode cX8_within 5 = .ok (.iload_n 0, 1) := of_decide_eq_true (List.all_eq_true.mp dA_X8_within_0 (5, .iload_n 0, 1) (List.mem_of_getElem? (i := 3) rfl))
theorem dX8_within_6 : decode cX8_within 6 = .ok (.iload_n 2, 1) := of_decide_eq_true (List.all_eq_true.mp dA_X8_within_0 (6, .iload_n 2, 1) (List.mem_of_getElem? (i := 4) rfl))
theorem dX8_within_7 : decode cX8_within 7 = .ok (.if_icmp .gt 7, 3) := of_decide_eq_true (List.all_eq_true.mp dA_X8_within_0 (7, .if_icmp .gt 7, 3) (List.mem_of_getElem? (i := 5) rfl))
theorem dX8_within_10 : decode cX8_within 10 = .ok (.iconst 1, 1) := of_decide_eq_true (List.all_eq_true.mp dA_X8_within_0 (10, .iconst 1, 1) (List.mem_of_getElem? (i := 6) rfl))
theorem dX8_within_11 : decode cX8_within 11 = .ok (.goto 4, 3) := of_decide_eq_true (List.all_eq_true.mp dA_X8_within_0 (11, .goto 4, 3) (List.mem_of_getElem? (i := 7) rfl))
theorem dX8_within_14 : decode cX8_within 14 = .ok (.iconst 0, 1) := of_decide_eq_true (List.all_eq_true.mp dA_X8_within_0 (14, .iconst 0, 1) (List.mem_of_getElem? (i := 8) rfl))
theorem dX8_within_15 : decode cX8_within 15 = .ok (.ireturn, 1) := of_decide_eq_true (List.all_eq_true.mp dA_X8_within_0 (15, .ireturn, 1) (List.mem_of_getElem? (i := 9) rfl))
set_option maxRecDepth 20000 in
theorem ggX8_isKind_X8_within : GoodIn wsX8_isKind wsX8_within := goodIn_r _ [4] (by decide +kernel) (by decide +kernel)
set_option maxRecDepth 20000 in
theorem gX8_isKind_X8_within : GoodIn wsX8_isKind (va_wsS RX8 57 yX8_within wsX8_within) := goodIn_app (goodIn_of _ (by decide +kernel)) ggX8_isKind_X8_within
set_option maxRecDepth 20000 in
theorem dA_X8_isKind_0 : (([(0, .iload_n 0, 1), (1, .iconst 0, 1), (2, .iconst 5, 1), (3, .invokestatic 57, 3), (6, .ireturn, 1)] : List (Nat × Instr × Nat)).all fun q => decide (decode cX8_isKind q.1 = .ok (q.2.1, q.2.2))) = true := by decide +kernel
theorem dX8_isKind_0 : decode cX8_isKind 0 = .ok (.iload_n 0, 1) := of_decide_eq_true (List.all_eq_true.mp dA_X8_isKind_0 (0, .iload_n 0, 1) (List.mem_of_getElem? (i := 0) rfl))
theorem dX8_isKind_1 : decode cX8_isKind 1 = .ok (.iconst 0, 1) := of_decide_eq_true (List.all_eq_true.mp dA_X8_isKind_0 (1, .iconst 0, 1) (List.mem_of_getElem? (i := 1) rfl))
theorem dX8_isKind_2 : decode cX8_isKind 2 = .ok (.iconst 5, 1) := of_decide_eq_true (List.all_eq_true.mp dA_X8_isKind_0 (2, .iconst 5, 1) (List.mem_of_getElem? (i := 2) rfl))
theorem dX8_isKind_3 : decode cX8_isKind 3 = .ok (.invokestatic 57, 3) := of_decide_eq_true (List.all_eq_true.mp dA_X8_isKind_0 (3, .invokestatic 57, 3) (List.mem_of_getElem? (i := 3) rfl))
theorem dX8_isKind_6 : decode cX8_isKind 6 = .ok (.ireturn, 1) := of_decide_eq_true (List.all_eq_true.mp dA_X8_isKind_0 (6, .ireturn, 1) (List.mem_of_getElem? (i := 4) rfl))
set_option maxRecDepth 20000 in
theorem ggX8_isWord_X8_within : GoodIn wsX8_isWord wsX8_within := goodIn_r _ [4] (by decide +kernel) (by decide +kernel)
set_option maxRecDepth 20000 in
theorem gX8_isWord_X8_within : GoodIn wsX8_isWord (va_wsS RX8 57 yX8_within wsX8_within) := goodIn_app (goodIn_of _ (by decide +kernel)) ggX8_isWord_X8_within
set_option maxRecDepth 20000 in
theorem dA_X8_isWord_0 : (([(0, .iload_n 0, 1), (1, .iconst 0, 1), (2, .bipush 9, 2), (4, .invokestatic 57, 3), (7, .ireturn, 1)] : List (Nat × Instr × Nat)).all fun q => decide (decode cX8_isWord q.1 = .ok (q.2.1, q.2.2))) = true := by decide +kernel
theorem dX8_isWord_0 : decode cX8_isWord 0 = .ok (.iload_n 0, 1) := of_decide_eq_true (List.all_eq_true.mp dA_X8_isWord_0 (0, .iload_n 0, 1) (List.mem_of_getElem? (i := 0) rfl))
theorem dX8_isWord_1 : decode cX8_isWord 1 = .ok (.iconst 0, 1) := of_decide_eq_true (List.all_eq_true.mp dA_X8_isWord_0 (1, .iconst 0, 1) (List.mem_of_getElem? (i := 1) rfl))
theorem dX8_isWord_2 : decode cX8_isWord 2 = .ok (.bipush 9, 2) := of_decide_eq_true (List.all_eq_true.mp dA_X8_isWord_0 (2, .bipush 9, 2) (List.mem_of_getElem? (i := 2) rfl))
theorem dX8_isWord_4 : decode cX8_isWord 4 = .ok (.invokestatic 57, 3) := of_decide_eq_true (List.all_eq_true.mp dA_X8_isWord_0 (4, .invokestatic 57, 3) (List.mem_of_getElem? (i := 3) rfl))
theorem dX8_isWord_7 : decode cX8_isWord 7 = .ok (.ireturn, 1) := of_decide_eq_true (List.all_eq_true.mp dA_X8_isWord_0 (7, .ireturn, 1) (List.mem_of_getElem? (i := 4) rfl))
set_option maxRecDepth 20000 in
theorem ggX9_init_X9_begin : GoodIn wsX9_init wsX9_begin := goodIn_r _ [22] (by decide +kernel) (by decide +kernel)
set_option maxRecDepth 20000 in
theorem gX9_init_X9_begin : GoodIn wsX9_init (va_wsS RX9 51 yX9_begin wsX9_begin) := goodIn_app (goodIn_of _ (by decide +kernel)) ggX9_init_X9_begin
set_option maxRecDepth 20000 in
theorem dA_X9_init_0 : (([(0, .aload_n 0, 1), (1, .invokespecial 1, 3), (4, .aload_n 0, 1), (5, .sipush 250, 3), (8, .newarray .int, 2), (10, .putfield 7, 3), (13, .aload_n 0, 1), (14, .sipush 500, 3), (17, .newarray .int, 2), (19, .putfield 13, 3), (22, .aload_n 0, 1), (23, .iconst 2, 1), (24, .newarray .boolean, 2), (26, .putfield 16, 3), (29, .aload_n 0, 1), (30, .iconst 3, 1), (31, .newarray .int, 2), (33, .putfield 20, 3), (36, .aload_n 0, 1), (37, .lconst 1, 1), (38, .putfield 23, 3), (41, .aload_n 0, 1), (42, .bipush 38, 2), (44, .newarray .int, 2), (46, .putfield 27, 3), (49, .aload_n 0, 1), (50, .bipush 7, 2), (52, .newarray .int, 2), (54, .putfield 30, 3), (57, .aload_n 0, 1), (58, .bipush 7, 2), (60, .newarray .int, 2), (62, .putfield 33, 3), (65, .aload_n 0, 1), (66, .bipush 7, 2), (68, .newarray .int, 2), (70, .putfield 36, 3), (73, .aload_n 0, 1), (74, .bipush 6, 2), (76, .newarray .int, 2)] : List (Nat × Instr × Nat)).all fun q => decide (decode cX9_init q.1 = .ok (q.2.1, q.2.2))) = true := by decide +kernel
theorem dX9_init_0 : decode cX9_init 0 = .ok (.aload_n 0, 1) := of_decide_eq_true (List.all_eq_true.mp dA_X9_init_0 (0, .aload_n 0, 1) (List.mem_of_getElem? (i := 0) rfl))
theorem dX9_init_1 : decode cX9_init 1 = .ok (.invokespecial 1, 3) := of_decide_eq_true (List.all_eq_true.mp dA_X9_init_0 (1, .invokespecial 1, 3) (List.mem_of_getElem? (i := 1) rfl))
theorem dX9_init_4 : decode cX9_init 4 = .ok (.aload_n 0, 1) := of_decide_eq_true (List.all_eq_true.mp dA_X9_init_0 (4, .aload_n 0, 1) (List.mem_of_getElem? (i := 2) rfl))
theorem dX9_init_5 : decode cX9_init 5 = .ok (.sipush 250, 3) := of_decide_eq_true (List.all_eq_true.mp dA_X9_init_0 (5, .sipush 250, 3) (List.mem_of_getElem? (i := 3) rfl))
theorem dX9_init_8 : decode cX9_init 8 = .ok (.newarray .int, 2) := of_decide_eq_true (List.all_eq_true.mp dA_X9_init_0 (8, .newarray .int, 2) (List.mem_of_getElem? (i := 4) rfl))
theorem dX9_init_10 : decode cX9_init 10 = .ok (.putfield 7, 3) := of_decide_eq_true (List.all_eq_true.mp dA_X9_init_0 (10, .putfield 7, 3) (List.mem_of_getElem? (i := 5) rfl))
theorem dX9_init_13 : decode cX9_init 13 = .ok (.aload_n 0, 1) := of_decide_eq_true (List.all_eq_true.mp dA_X9_init_0 (13, .aload_n 0, 1) (List.mem_of_getElem? (i := 6) rfl))
theorem dX9_init_14 : decode cX9_init 14 = .ok (.sipush 500, 3) := of_decide_eq_true (List.all_eq_true.mp dA_X9_init_0 (14, .sipush 500, 3) (List.mem_of_getElem? (i := 7) rfl))
theorem dX9_init_17 : decode cX9_init 17 = .ok (.newarray .int, 2) := of_decide_eq_true (List.all_eq_true.mp dA_X9_init_0 (17, .newarray .int, 2) (List.mem_of_getElem? (i := 8) rfl))
theorem dX9_init_19 : decode cX9_init 19 = .ok (.putfield 13, 3) := of_decide_eq_true (List.all_eq_true.mp dA_X9_init_0 (19, .putfield 13, 3) (List.mem_of_getElem? (i := 9) rfl))
theorem dX9_init_22 : decode cX9_init 22 = .ok (.aload_n 0, 1) := of_decide_eq_true (List.all_eq_true.mp dA_X9_init_0 (22, .aload_n 0, 1) (List.mem_of_getElem? (i := 10) rfl))
theorem dX9_init_23 : decode cX9_init 23 = .ok (.iconst 2, 1) := of_decide_eq_true (List.all_eq_true.mp dA_X9_init_0 (23, .iconst 2, 1) (List.mem_of_getElem? (i := 11) rfl))
theorem dX9_init_24 : decode cX9_init 24 = .ok (.newarray .boolean, 2) := of_decide_eq_true (List.all_eq_true.mp dA_X9_init_0 (24, .newarray .boolean, 2) (List.mem_of_getElem? (i := 12) rfl))
theorem dX9_init_26 : decode cX9_init 26 = .ok (.putfield 16, 3) := of_decide_eq_true (List.all_eq_true.mp dA_X9_init_0 (26, .putfield 16, 3) (List.mem_of_getElem? (i := 13) rfl))
theorem dX9_init_29 : decode cX9_init 29 = .ok (.aload_n 0, 1) := of_decide_eq_true (List.all_eq_true.mp dA_X9_init_0 (29, .aload_n 0, 1) (List.mem_of_getElem? (i := 14) rfl))
theorem dX9_init_30 : decode cX9_init 30 = .ok (.iconst 3, 1) := of_decide_eq_true (List.all_eq_true.mp dA_X9_init_0 (30, .iconst 3, 1) (List.mem_of_getElem? (i := 15) rfl))
theorem dX9_init_31 : decode cX9_init 31 = .ok (.newarray .int, 2) := of_decide_eq_true (List.all_eq_true.mp dA_X9_init_0 (31, .newarray .int, 2) (List.mem_of_getElem? (i := 16) rfl))
theorem dX9_init_33 : decode cX9_init 33 = .ok (.putfield 20, 3) := of_decide_eq_true (List.all_eq_true.mp dA_X9_init_0 (33, .putfield 20, 3) (List.mem_of_getElem? (i := 17) rfl))
theorem dX9_init_36 : decode cX9_init 36 = .ok (.aload_n 0, 1) := of_decide_eq_true (List.all_eq_true.mp dA_X9_init_0 (36, .aload_n 0, 1) (List.mem_of_getElem? (i := 18) rfl))
theorem dX9_init_37 : decode cX9_init 37 = .ok (.lconst 1, 1) := of_decide_eq_true (List.all_eq_true.mp dA_X9_init_0 (37, .lconst 1, 1) (List.mem_of_getElem? (i := 19) rfl))
theorem dX9_init_38 : decode cX9_init 38 = .ok (.putfield 23, 3) := of_decide_eq_true (List.all_eq_true.mp dA_X9_init_0 (38, .putfield 23, 3) (List.mem_of_getElem? (i := 20) rfl))
theorem dX9_init_41 : decode cX9_init 41 = .ok (.aload_n 0, 1) := of_decide_eq_true (List.all_eq_true.mp dA_X9_init_0 (41, .aload_n 0, 1) (List.mem_of_getElem? (i := 21) rfl))
theorem dX9_init_42 : decode cX9_init 42 = .ok (.bipush 38, 2) := of_decide_eq_true (List.all_eq_true.mp dA_X9_init_0 (42, .bipush 38, 2) (List.mem_of_getElem? (i := 22) rfl))
theorem dX9_init_44 : decode cX9_init 44 = .ok (.newarray .int, 2) := of_decide_eq_true (List.all_eq_true.mp dA_X9_init_0 (44, .newarray .int, 2) (List.mem_of_getElem? (i := 23) rfl))
theorem dX9_init_46 : decode cX9_init 46 = .ok (.putfield 27, 3) := of_decide_eq_true (List.all_eq_true.mp dA_X9_init_0 (46, .putfield 27, 3) (List.mem_of_getElem? (i := 24) rfl))
theorem dX9_init_49 : decode cX9_init 49 = .ok (.aload_n 0, 1) := of_decide_eq_true (List.all_eq_true.mp dA_X9_init_0 (49, .aload_n 0, 1) (List.mem_of_getElem? (i := 25) rfl))
theorem dX9_init_50 : decode cX9_init 50 = .ok (.bipush 7, 2) := of_decide_eq_true (List.all_eq_true.mp dA_X9_init_0 (50, .bipush 7, 2) (List.mem_of_getElem? (i := 26) rfl))
theorem dX9_init_52 : decode cX9_init 52 = .ok (.newarray .int, 2) := of_decide_eq_true (List.all_eq_true.mp dA_X9_init_0 (52, .newarray .int, 2) (List.mem_of_getElem? (i := 27) rfl))
theorem dX9_init_54 : decode cX9_init 54 = .ok (.putfield 30, 3) := of_decide_eq_true (List.all_eq_true.mp dA_X9_init_0 (54, .putfield 30, 3) (List.mem_of_getElem? (i := 28) rfl))
theorem dX9_init_57 : decode cX9_init 57 = .ok (.aload_n 0, 1) := of_decide_eq_true (List.all_eq_true.mp dA_X9_init_0 (57, .aload_n 0, 1) (List.mem_of_getElem? (i := 29) rfl))
theorem dX9_init_58 : decode cX9_init 58 = .ok (.bipush 7, 2) := of_decide_eq_true (List.all_eq_true.mp dA_X9_init_0 (58, .bipush 7, 2) (List.mem_of_getElem? (i := 30) rfl))
theorem dX9_init_60 : decode cX9_init 60 = .ok (.newarray .int, 2) := of_decide_eq_true (List.all_eq_true.mp dA_X9_init_0 (60, .newarray .int, 2) (List.mem_of_getElem? (i := 31) rfl))
theorem dX9_init_62 : decode cX9_init 62 = .ok (.putfield 33, 3) := of_decide_eq_true (List.all_eq_true.mp dA_X9_init_0 (62, .putfield 33, 3) (List.mem_of_getElem? (i := 32) rfl))
theorem dX9_init_65 : decode cX9_init 65 = .ok (.aload_n 0, 1) := of_decide_eq_true (List.all_eq_true.mp dA_X9_init_0 (65, .aload_n 0, 1) (List.mem_of_getElem? (i := 33) rfl))
theorem dX9_init_66 : decode cX9_init 66 = .ok (.bipush 7, 2) := of_decide_eq_true (List.all_eq_true.mp dA_X9_init_0 (66, .bipush 7, 2) (List.mem_of_getElem? (i := 34) rfl))
theorem dX9_init_68 : decode cX9_init 68 = .ok (.newarray .int, 2) := of_decide_eq_true (List.all_eq_true.mp dA_X9_init_0 (68, .newarray .int, 2) (List.mem_of_getElem? (i := 35) rfl))
theorem dX9_init_70 : decode cX9_init 70 = .ok (.putfield 36, 3) := of_decide_eq_true (List.all_eq_true.mp dA_X9_init_0 (70, .putfield 36, 3) (List.mem_of_getElem? (i := 36) rfl))
theorem dX9_init_73 : decode cX9_init 73 = .ok (.aload_n 0, 1) := of_decide_eq_true (List.all_eq_true.mp dA_X9_init_0 (73, .aload_n 0, 1) (List.mem_of_getElem? (i := 37) rfl))
theorem dX9_init_74 : decode cX9_init 74 = .ok (.bipush 6, 2) := of_decide_eq_true (List.all_eq_true.mp dA_X9_init_0 (74, .bipush 6, 2) (List.mem_of_getElem? (i := 38) rfl))
theorem dX9_init_76 : decode cX9_init 76 = .ok (.newarray .int, 2) := of_decide_eq_true (List.all_eq_true.mp dA_X9_init_0 (76, .newarray .int, 2) (List.mem_of_getElem? (i := 39) rfl))
set_option maxRecDepth 20000 in
theorem dA_X9_init_78 : (([(78, .putfield 39, 3), (81, .aload_n 0, 1), (82, .sipush 150, 3), (85, .newarray .int, 2), (87, .putfield 42, 3), (90, .aload_n 0, 1), (91, .bipush 106, 2), (93, .newarray .int, 2), (95, .putfield 45, 3), (98, .aload_n 0, 1), (99, .iconst 2, 1), (100, .newarray .int, 2), (102, .putfield 48, 3), (105, .aload_n 0, 1), (106, .getfield 7, 3), (109, .iconst 0, 1), (110, .iconst 3, 1), (111, .invokestatic 51, 3), (114, .return_, 1)] : List (Nat × Instr × Nat)).all fun q => decide (decode cX9_init q.1 = .ok (q.2.1, q.2.2))) = true := by decide +kernel
theorem dX9_init_78 : decode cX9_init 78 = .ok (.putfield 39, 3) := of_decide_eq_true (List.all_eq_true.mp dA_X9_init_78 (78, .putfield 39, 3) (List.mem_of_getElem? (i := 0) rfl))
theorem dX9_init_81 : decode cX9_init 81 = .ok (.aload_n 0, 1) := of_decide_eq_true (List.all_eq_true.mp dA_X9_init_78 (81, .aload_n 0, 1) (List.mem_of_getElem? (i := 1) rfl))
theorem dX9_init_82 : decode cX9_init 82 = .ok (.sipush 150, 3) := of_decide_eq_true (List.all_eq_true.mp dA_X9_init_78 (82, .sipush 150, 3) (List.mem_of_getElem? (i := 2) rfl))
theorem dX9_init_85 : decode cX9_init 85 = .ok (.newarray .int, 2) := of_decide_eq_true (List.all_eq_true.mp dA_X9_init_78 (85, .newarray .int, 2) (List.mem_of_getElem? (i := 3) rfl))
theorem dX9_init_87 : decode cX9_init 87 = .ok (.putfield 42, 3) := of_decide_eq_true (List.all_eq_true.mp dA_X9_init_78 (87, .putfield 42, 3) (List.mem_of_getElem? (i := 4) rfl))
theorem dX9_init_90 : decode cX9_init 90 = .ok (.aload_n 0, 1) := of_decide_eq_true (List.all_eq_true.mp dA_X9_init_78 (90, .aload_n 0, 1) (List.mem_of_getElem? (i := 5) rfl))
theorem dX9_init_91 : decode cX9_init 91 = .ok (.bipush 106, 2) := of_decide_eq_true (List.all_eq_true.mp dA_X9_init_78 (91, .bipush 106, 2) (List.mem_of_getElem? (i := 6) rfl))
theorem dX9_init_93 : decode cX9_init 93 = .ok (.newarray .int, 2) := of_decide_eq_true (List.all_eq_true.mp dA_X9_init_78 (93, .newarray .int, 2) (List.mem_of_getElem? (i := 7) rfl))
theorem dX9_init_95 : decode cX9_init 95 = .ok (.putfield 45, 3) := of_decide_eq_true (List.all_eq_true.mp dA_X9_init_78 (95, .putfield 45, 3) (List.mem_of_getElem? (i := 8) rfl))
theorem dX9_init_98 : decode cX9_init 98 = .ok (.aload_n 0, 1) := of_decide_eq_true (List.all_eq_true.mp dA_X9_init_78 (98, .aload_n 0, 1) (List.mem_of_getElem? (i := 9) rfl))
theorem dX9_init_99 : decode cX9_init 99 = .ok (.iconst 2, 1) := of_decide_eq_true (List.all_eq_true.mp dA_X9_init_78 (99, .iconst 2, 1) (List.mem_of_getElem? (i := 10) rfl))
theorem dX9_init_100 : decode cX9_init 100 = .ok (.newarray .int, 2) := of_decide_eq_true (List.all_eq_true.mp dA_X9_init_78 (100, .newarray .int, 2) (List.mem_of_getElem? (i := 11) rfl))
theorem dX9_init_102 : decode cX9_init 102 = .ok (.putfield 48, 3) := of_decide_eq_true (List.all_eq_true.mp dA_X9_init_78 (102, .putfield 48, 3) (List.mem_of_getElem? (i := 12) rfl))
theorem dX9_init_105 : decode cX9_init 105 = .ok (.aload_n 0, 1) := of_decide_eq_true (List.all_eq_true.mp dA_X9_init_78 (105, .aload_n 0, 1) (List.mem_of_getElem? (i := 13) rfl))
theorem dX9_init_106 : decode cX9_init 106 = .ok (.getfield 7, 3) := of_decide_eq_true (List.all_eq_true.mp dA_X9_init_78 (106, .getfield 7, 3) (List.mem_of_getElem? (i := 14) rfl))
theorem dX9_init_109 : decode cX9_init 109 = .ok (.iconst 0, 1) := of_decide_eq_true (List.all_eq_true.mp dA_X9_init_78 (109, .iconst 0, 1) (List.mem_of_getElem? (i := 15) rfl))
theorem dX9_init_110 : decode cX9_init 110 = .ok (.iconst 3, 1) := of_decide_eq_true (List.all_eq_true.mp dA_X9_init_78 (110, .iconst 3, 1) (List.mem_of_getElem? (i := 16) rfl))
theorem dX9_init_111 : decode cX9_init 111 = .ok (.invokestatic 51, 3) := of_decide_eq_true (List.all_eq_true.mp dA_X9_init_78 (111, .invokestatic 51, 3) (List.mem_of_getElem? (i := 17) rfl))
theorem dX9_init_114 : decode cX9_init 114 = .ok (.return_, 1) := of_decide_eq_true (List.all_eq_true.mp dA_X9_init_78 (114, .return_, 1) (List.mem_of_getElem? (i := 18) rfl))
set_option maxRecDepth 20000 in
theorem dA_X9_in_0 : (([(0, .lload_n 0, 1), (1, .lload_n 2, 1), (2, .lcmp, 1), (3, .ifCond .lt 14, 3), (6, .lload_n 0, 1), (7, .lload 4, 2), (9, .lcmp, 1), (10, .ifCond .gt 7, 3), (13, .iconst 1, 1), (14, .goto 4, 3), (17, .iconst 0, 1), (18, .ireturn, 1)] : List (Nat × Instr × Nat)).all fun q => decide (decode cX9_in q.1 = .ok (q.2.1, q.2.2))) = true := by decide +kernel
theorem dX9_in_0 : decode cX9_in 0 = .ok (.lload_n 0, 1) := of_decide_eq_true (List.all_eq_true.mp dA_X9_in_0 (0, .lload_n 0, 1) (List.mem_of_getElem? (i := 0) rfl))
theorem dX9_in_1 : decode cX9_in 1 = .ok (.lload_n 2, 1) := of_decide_eq_true (List.all_eq_true.mp dA_X9_in_0 (1, .lload_n 2, 1) (List.mem_of_getElem? (i := 1) rfl))
theorem dX9_in_2 : decode cX9_in 2 = .ok (.lcmp, 1) := of_decide_eq_true (List.all_eq_true.mp dA_X9_in_0 (2, .lcmp, 1) (List.mem_of_getElem? (i := 2) rfl))
theorem dX9_in_3 : decode cX9_in 3 = .ok (.ifCond .lt 14, 3) := of_decide_eq_true (List.all_eq_true.mp dA_X9_in_0 (3, .ifCond .lt 14, 3) (List.mem_of_getElem? (i := 3) rfl))
theorem dX9_in_6 : decode cX9_in 6 = .ok (.lload_n 0, 1) := of_decide_eq_true (List.all_eq_true.mp dA_X9_in_0 (6, .lload_n 0, 1) (List.mem_of_getElem? (i := 4) rfl))
theorem dX9_in_7 : decode cX9_in 7 = .ok (.lload 4, 2) := of_decide_eq_true (List.all_eq_true.mp dA_X9_in_0 (7, .lload 4, 2) (List.mem_of_getElem? (i := 5) rfl))
theorem dX9_in_9 : decode cX9_in 9 = .ok (.lcmp, 1) := of_decide_eq_true (List.all_eq_true.mp dA_X9_in_0 (9, .lcmp, 1) (List.mem_of_getElem? (i := 6) rfl))
theorem dX9_in_10 : decode cX9_in 10 = .ok (.ifCond .gt 7, 3) := of_decide_eq_true (List.all_eq_true.mp dA_X9_in_0 (10, .ifCond .gt 7, 3) (List.mem_of_getElem? (i := 7) rfl))
theorem dX9_in_13 : decode cX9_in 13 = .ok (.iconst 1, 1) := of_decide_eq_true (List.all_eq_true.mp dA_X9_in_0 (13, .iconst 1, 1) (List.mem_of_getElem? (i := 8) rfl))
theorem dX9_in_14 : decode cX9_in 14 = .ok (.goto 4, 3) := of_decide_eq_true (List.all_eq_true.mp dA_X9_in_0 (14, .goto 4, 3) (List.mem_of_getElem? (i := 9) rfl))
theorem dX9_in_17 : decode cX9_in 17 = .ok (.iconst 0, 1) := of_decide_eq_true (List.all_eq_true.mp dA_X9_in_0 (17, .iconst 0, 1) (List.mem_of_getElem? (i := 10) rfl))
theorem dX9_in_18 : decode cX9_in 18 = .ok (.ireturn, 1) := of_decide_eq_true (List.all_eq_true.mp dA_X9_in_0 (18, .ireturn, 1) (List.mem_of_getElem? (i := 11) rfl))
set_option maxRecDepth 20000 in
theorem dA_X9_bad_0 : (([(0, .aload_n 0, 1), (1, .getfield 20, 3), (4, .iconst 0, 1), (5, .dup2, 1), (6, .iaload, 1), (7, .iconst 1, 1), (8, .iadd, 1), (9, .iastore, 1), (10, .iload_n 1, 1), (11, .ireturn, 1)] : List (Nat × Instr × Nat)).all fun q => decide (decode cX9_bad q.1 = .ok (q.2.1, q.2.2))) = true := by decide +kernel
theorem dX9_bad_0 : decode cX9_bad 0 = .ok (.aload_n 0, 1) := of_decide_eq_true (List.all_eq_true.mp dA_X9_bad_0 (0, .aload_n 0, 1) (List.mem_of_getElem? (i := 0) rfl))
theorem dX9_bad_1 : decode cX9_bad 1 = .ok (.getfield 20, 3) := of_decide_eq_true (List.all_eq_true.mp dA_X9_bad_0 (1, .getfield 20, 3) (List.mem_of_getElem? (i := 1) rfl))
theorem dX9_bad_4 : decode cX9_bad 4 = .ok (.iconst 0, 1) := of_decide_eq_true (List.all_eq_true.mp dA_X9_bad_0 (4, .iconst 0, 1) (List.mem_of_getElem? (i := 2) rfl))
theorem dX9_bad_5 : decode cX9_bad 5 = .ok (.dup2, 1) := of_decide_eq_true (List.all_eq_true.mp dA_X9_bad_0 (5, .dup2, 1) (List.mem_of_getElem? (i := 3) rfl))
theorem dX9_bad_6 : decode cX9_bad 6 = .ok (.iaload, 1) := of_decide_eq_true (List.all_eq_true.mp dA_X9_bad_0 (6, .iaload, 1) (List.mem_of_getElem? (i := 4) rfl))
theorem dX9_bad_7 : decode cX9_bad 7 = .ok (.iconst 1, 1) := of_decide_eq_true (List.all_eq_true.mp dA_X9_bad_0 (7, .iconst 1, 1) (List.mem_of_getElem? (i := 5) rfl))
theorem dX9_bad_8 : decode cX9_bad 8 = .ok (.iadd, 1) := of_decide_eq_true (List.all_eq_true.mp dA_X9_bad_0 (8, .iadd, 1) (List.mem_of_getElem? (i := 6) rfl))
theorem dX9_bad_9 : decode cX9_bad 9 = .ok (.iastore, 1) := of_decide_eq_true (List.all_eq_true.mp dA_X9_bad_0 (9, .iastore, 1) (List.mem_of_getElem? (i := 7) rfl))
theorem dX9_bad_10 : decode cX9_bad 10 = .ok (.iload_n 1, 1) := of_decide_eq_true (List.all_eq_true.mp dA_X9_bad_0 (10, .iload_n 1, 1) (List.mem_of_getElem? (i := 8) rfl))
theorem dX9_bad_11 : decode cX9_bad 11 = .ok (.ireturn, 1) := of_decide_eq_true (List.all_eq_true.mp dA_X9_bad_0 (11, .ireturn, 1) (List.mem_of_getElem? (i := 9) rfl))
set_option maxRecDepth 20000 in
theorem dA_X9_no_0 : (([(0, .aload_n 0, 1), (1, .getfield 20, 3), (4, .iconst 1, 1), (5, .dup2, 1), (6, .iaload, 1), (7, .iconst 1, 1), (8, .iadd, 1), (9, .iastore, 1), (10, .bipush (-3), 2), (12, .ireturn, 1)] : List (Nat × Instr × Nat)).all fun q => decide (decode cX9_no q.1 = .ok (q.2.1, q.2.2))) = true := by decide +kernel
theorem dX9_no_0 : decode cX9_no 0 = .ok (.aload_n 0, 1) := of_decide_eq_true (List.all_eq_true.mp dA_X9_no_0 (0, .aload_n 0, 1) (List.mem_of_getElem? (i := 0) rfl))
theorem dX9_no_1 : decode cX9_no 1 = .ok (.getfield 20, 3) := of_decide_eq_true (List.all_eq_true.mp dA_X9_no_0 (1, .getfield 20, 3) (List.mem_of_getElem? (i := 1) rfl))
theorem dX9_no_4 : decode cX9_no 4 = .ok (.iconst 1, 1) := of_decide_eq_true (List.all_eq_true.mp dA_X9_no_0 (4, .iconst 1, 1) (List.mem_of_getElem? (i := 2) rfl))
theorem dX9_no_5 : decode cX9_no 5 = .ok (.dup2, 1) := of_decide_eq_true (List.all_eq_true.mp dA_X9_no_0 (5, .dup2, 1) (List.mem_of_getElem? (i := 3) rfl))
theorem dX9_no_6 : decode cX9_no 6 = .ok (.iaload, 1) := of_decide_eq_true (List.all_eq_true.mp dA_X9_no_0 (6, .iaload, 1) (List.mem_of_getElem? (i := 4) rfl))
theorem dX9_no_7 : decode cX9_no 7 = .ok (.iconst 1, 1) := of_decide_eq_true (List.all_eq_true.mp dA_X9_no_0 (7, .iconst 1, 1) (List.mem_of_getElem? (i := 5) rfl))
theorem dX9_no_8 : decode cX9_no 8 = .ok (.iadd, 1) := of_decide_eq_true (List.all_eq_true.mp dA_X9_no_0 (8, .iadd, 1) (List.mem_of_getElem? (i := 6) rfl))
theorem dX9_no_9 : decode cX9_no 9 = .ok (.iastore, 1) := of_decide_eq_true (List.all_eq_true.mp dA_X9_no_0 (9, .iastore, 1) (List.mem_of_getElem? (i := 7) rfl))
theorem dX9_no_10 : decode cX9_no 10 = .ok (.bipush (-3), 2) := of_decide_eq_true (List.all_eq_true.mp dA_X9_no_0 (10, .bipush (-3), 2) (List.mem_of_getElem? (i := 8) rfl))
theorem dX9_no_12 : decode cX9_no 12 = .ok (.ireturn, 1) := of_decide_eq_true (List.all_eq_true.mp dA_X9_no_0 (12, .ireturn, 1) (List.mem_of_getElem? (i := 9) rfl))
set_option maxRecDepth 20000 in
theorem dA_X9_full_0 : (([(0, .aload_n 0, 1), (1, .getfield 20, 3), (4, .iconst 2, 1), (5, .dup2, 1), (6, .iaload, 1), (7, .iconst 1, 1), (8, .iadd, 1), (9, .iastore, 1), (10, .bipush (-4), 2), (12, .ireturn, 1)] : List (Nat × Instr × Nat)).all fun q => decide (decode cX9_full q.1 = .ok (q.2.1, q.2.2))) = true := by decide +kernel
theorem dX9_full_0 : decode cX9_full 0 = .ok (.aload_n 0, 1) := of_decide_eq_true (List.all_eq_true.mp dA_X9_full_0 (0, .aload_n 0, 1) (List.mem_of_getElem? (i := 0) rfl))
theorem dX9_full_1 : decode cX9_full 1 = .ok (.getfield 20, 3) := of_decide_eq_true (List.all_eq_true.mp dA_X9_full_0 (1, .getfield 20, 3) (List.mem_of_getElem? (i := 1) rfl))
theorem dX9_full_4 : decode cX9_full 4 = .ok (.iconst 2, 1) := of_decide_eq_true (List.all_eq_true.mp dA_X9_full_0 (4, .iconst 2, 1) (List.mem_of_getElem? (i := 2) rfl))
theorem dX9_full_5 : decode cX9_full 5 = .ok (.dup2, 1) := of_decide_eq_true (List.all_eq_true.mp dA_X9_full_0 (5, .dup2, 1) (List.mem_of_getElem? (i := 3) rfl))
theorem dX9_full_6 : decode cX9_full 6 = .ok (.iaload, 1) := of_decide_eq_true (List.all_eq_true.mp dA_X9_full_0 (6, .iaload, 1) (List.mem_of_getElem? (i := 4) rfl))
theorem dX9_full_7 : decode cX9_full 7 = .ok (.iconst 1, 1) := of_decide_eq_true (List.all_eq_true.mp dA_X9_full_0 (7, .iconst 1, 1) (List.mem_of_getElem? (i := 5) rfl))
theorem dX9_full_8 : decode cX9_full 8 = .ok (.iadd, 1) := of_decide_eq_true (List.all_eq_true.mp dA_X9_full_0 (8, .iadd, 1) (List.mem_of_getElem? (i := 6) rfl))
theorem dX9_full_9 : decode cX9_full 9 = .ok (.iastore, 1) := of_decide_eq_true (List.all_eq_true.mp dA_X9_full_0 (9, .iastore, 1) (List.mem_of_getElem? (i := 7) rfl))
theorem dX9_full_10 : decode cX9_full 10 = .ok (.bipush (-4), 2) := of_decide_eq_true (List.all_eq_true.mp dA_X9_full_0 (10, .bipush (-4), 2) (List.mem_of_getElem? (i := 8) rfl))
theorem dX9_full_12 : decode cX9_full 12 = .ok (.ireturn, 1) := of_decide_eq_true (List.all_eq_true.mp dA_X9_full_0 (12, .ireturn, 1) (List.mem_of_getElem? (i := 9) rfl))
set_option maxRecDepth 20000 in
theorem dA_X9_has_0 : (([(0, .iload_n 0, 1), (1, .iload_n 1, 1), (2, .ishr, 1), (3, .iconst 1, 1), (4, .iand, 1), (5, .iconst 1, 1), (6, .if_icmp .ne 7, 3), (9, .iconst 1, 1), (10, .goto 4, 3), (13, .iconst 0, 1), (14, .ireturn, 1)] : List (Nat × Instr × Nat)).all fun q => decide (decode cX9_has q.1 = .ok (q.2.1, q.2.2))) = true := by decide +kernel
theorem dX9_has_0 : decode cX9_has 0 = .ok (.iload_n 0, 1) := of_decide_eq_true (List.all_eq_true.mp dA_X9_has_0 (0, .iload_n 0, 1) (List.mem_of_getElem? (i := 0) rfl))
theorem dX9_has_1 : decode cX9_has 1 = .ok (.iload_n 1, 1) := of_decide_eq_true (List.all_eq_true.mp dA_X9_has_0 (1, .iload_n 1, 1) (List.mem_of_getElem? (i := 1) rfl))
theorem dX9_has_2 : decode cX9_has 2 = .ok (.ishr, 1) := of_decide_eq_true (List.all_eq_true.mp dA_X9_has_0 (2, .ishr, 1) (List.mem_of_getElem? (i := 2) rfl))
theorem dX9_has_3 : decode cX9_has 3 = .ok (.iconst 1, 1) := of_decide_eq_true (List.all_eq_true.mp dA_X9_has_0 (3, .iconst 1, 1) (List.mem_of_getElem? (i := 3) rfl))
theorem dX9_has_4 : decode cX9_has 4 = .ok (.iand, 1) := of_decide_eq_true (List.all_eq_true.mp dA_X9_has_0 (4, .iand, 1) (List.mem_of_getElem? (i := 4) rfl))
theorem dX9_has_5 : decode cX9_has 5 = .ok (.iconst 1, 1) := of_decide_eq_true (List.all_eq_true.mp dA_X9_has_0 (5, .iconst 1, 1) (List.mem_of_getElem? (i := 5) rfl))
theorem dX9_has_6 : decode cX9_has 6 = .ok (.if_icmp .ne 7, 3) := of_decide_eq_true (List.all_eq_true.mp dA_X9_has_0 (6, .if_icmp .ne 7, 3) (List.mem_of_getElem? (i := 6) rfl))
theorem dX9_has_9 : decode cX9_has 9 = .ok (.iconst 1, 1) := of_decide_eq_true (List.all_eq_true.mp dA_X9_has_0 (9, .iconst 1, 1) (List.mem_of_getElem? (i := 7) rfl))
theorem dX9_has_10 : decode cX9_has 10 = .ok (.goto 4, 3) := of_decide_eq_true (List.all_eq_true.mp dA_X9_has_0 (10, .goto 4, 3) (List.mem_of_getElem? (i := 8) rfl))
theorem dX9_has_13 : decode cX9_has 13 = .ok (.iconst 0, 1) := of_decide_eq_true (List.all_eq_true.mp dA_X9_has_0 (13, .iconst 0, 1) (List.mem_of_getElem? (i := 9) rfl))
theorem dX9_has_14 : decode cX9_has 14 = .ok (.ireturn, 1) := of_decide_eq_true (List.all_eq_true.mp dA_X9_has_0 (14, .ireturn, 1) (List.mem_of_getElem? (i := 10) rfl))
set_option maxRecDepth 20000 in
theorem dA_X9_bits_0 : (([(0, .iconst 0, 1), (1, .istore_n 1, 1), (2, .iload_n 0, 1), (3, .istore_n 2, 1), (4, .iload_n 2, 1), (5, .ifCond .le 16, 3), (8, .iload_n 1, 1), (9, .iload_n 2, 1), (10, .iconst 1, 1), (11, .iand, 1), (12, .iadd, 1), (13, .istore_n 1, 1), (14, .iload_n 2, 1), (15, .iconst 1, 1), (16, .ishr, 1), (17, .istore_n 2, 1), (18, .goto (-14), 3), (21, .iload_n 1, 1), (22, .ireturn, 1)] : List (Nat × Instr × Nat)).all fun q => decide (decode cX9_bits q.1 = .ok (q.2.1, q.2.2))) = true := by decide +kernel
theorem dX9_bits_0 : decode cX9_bits 0 = .ok (.iconst 0, 1) := of_decide_eq_true (List.all_eq_true.mp dA_X9_bits_0 (0, .iconst 0, 1) (List.mem_of_getElem? (i := 0) rfl))
theorem dX9_bits_1 : decode cX9_bits 1 = .ok (.istore_n 1, 1) := of_decide_eq_true (List.all_eq_true.mp dA_X9_bits_0 (1, .istore_n 1, 1) (List.mem_of_getElem? (i := 1) rfl))
theorem dX9_bits_2 : decode cX9_bits 2 = .ok (.iload_n 0, 1) := of_decide_eq_true (List.all_eq_true.mp dA_X9_bits_0 (2, .iload_n 0, 1) (List.mem_of_getElem? (i := 2) rfl))
theorem dX9_bits_3 : decode cX9_bits 3 = .ok (.istore_n 2, 1) := of_decide_eq_true (List.all_eq_true.mp dA_X9_bits_0 (3, .istore_n 2, 1) (List.mem_of_getElem? (i := 3) rfl))
theorem dX9_bits_4 : decode cX9_bits 4 = .ok (.iload_n 2, 1) := of_decide_eq_true (List.all_eq_true.mp dA_X9_bits_0 (4, .iload_n 2, 1) (List.mem_of_getElem? (i := 4) rfl))
theorem dX9_bits_5 : decode cX9_bits 5 = .ok (.ifCond .le 16, 3) := of_decide_eq_true (List.all_eq_true.mp dA_X9_bits_0 (5, .ifCond .le 16, 3) (List.mem_of_getElem? (i := 5) rfl))
theorem dX9_bits_8 : decode cX9_bits 8 = .ok (.iload_n 1, 1) := of_decide_eq_true (List.all_eq_true.mp dA_X9_bits_0 (8, .iload_n 1, 1) (List.mem_of_getElem? (i := 6) rfl))
theorem dX9_bits_9 : decode cX9_bits 9 = .ok (.iload_n 2, 1) := of_decide_eq_true (List.all_eq_true.mp dA_X9_bits_0 (9, .iload_n 2, 1) (List.mem_of_getElem? (i := 7) rfl))
theorem dX9_bits_10 : decode cX9_bits 10 = .ok (.iconst 1, 1) := of_decide_eq_true (List.all_eq_true.mp dA_X9_bits_0 (10, .iconst 1, 1) (List.mem_of_getElem? (i := 8) rfl))
theorem dX9_bits_11 : decode cX9_bits 11 = .ok (.iand, 1) := of_decide_eq_true (List.all_eq_true.mp dA_X9_bits_0 (11, .iand, 1) (List.mem_of_getElem? (i := 9) rfl))
theorem dX9_bits_12 : decode cX9_bits 12 = .ok (.iadd, 1) := of_decide_eq_true (List.all_eq_true.mp dA_X9_bits_0 (12, .iadd, 1) (List.mem_of_getElem? (i := 10) rfl))
theorem dX9_bits_13 : decode cX9_bits 13 = .ok (.istore_n 1, 1) := of_decide_eq_true (List.all_eq_true.mp dA_X9_bits_0 (13, .istore_n 1, 1) (List.mem_of_getElem? (i := 11) rfl))
theorem dX9_bits_14 : decode cX9_bits 14 = .ok (.iload_n 2, 1) := of_decide_eq_true (List.all_eq_true.mp dA_X9_bits_0 (14, .iload_n 2, 1) (List.mem_of_getElem? (i := 12) rfl))
theorem dX9_bits_15 : decode cX9_bits 15 = .ok (.iconst 1, 1) := of_decide_eq_true (List.all_eq_true.mp dA_X9_bits_0 (15, .iconst 1, 1) (List.mem_of_getElem? (i := 13) rfl))
theorem dX9_bits_16 : decode cX9_bits 16 = .ok (.ishr, 1) := of_decide_eq_true (List.all_eq_true.mp dA_X9_bits_0 (16, .ishr, 1) (List.mem_of_getElem? (i := 14) rfl))
theorem dX9_bits_17 : decode cX9_bits 17 = .ok (.istore_n 2, 1) := of_decide_eq_true (List.all_eq_true.mp dA_X9_bits_0 (17, .istore_n 2, 1) (List.mem_of_getElem? (i := 15) rfl))
theorem dX9_bits_18 : decode cX9_bits 18 = .ok (.goto (-14), 3) := of_decide_eq_true (List.all_eq_true.mp dA_X9_bits_0 (18, .goto (-14), 3) (List.mem_of_getElem? (i := 16) rfl))
theorem dX9_bits_21 : decode cX9_bits 21 = .ok (.iload_n 1, 1) := of_decide_eq_true (List.all_eq_true.mp dA_X9_bits_0 (21, .iload_n 1, 1) (List.mem_of_getElem? (i := 17) rfl))
theorem dX9_bits_22 : decode cX9_bits 22 = .ok (.ireturn, 1) := of_decide_eq_true (List.all_eq_true.mp dA_X9_bits_0 (22, .ireturn, 1) (List.mem_of_getElem? (i := 18) rfl))
set_option maxRecDepth 20000 in
theorem dA_X9_begin_0 : (([(0, .iconst 0, 1), (1, .istore_n 3, 1), (2, .iload_n 3, 1), (3, .bipush 106, 2), (5, .if_icmp .ge 13, 3), (8, .aload_n 0, 1), (9, .iload_n 3, 1), (10, .iconst 0, 1), (11, .iastore, 1), (12, .iinc 3 1, 3), (15, .goto (-13), 3), (18, .aload_n 0, 1), (19, .bipush 23, 2), (21, .iload_n 1, 1), (22, .iastore, 1), (23, .aload_n 0, 1), (24, .bipush 24, 2), (26, .iload_n 2, 1), (27, .iastore, 1), (28, .return_, 1)] : List (Nat × Instr × Nat)).all fun q => decide (decode cX9_begin q.1 = .ok (q.2.1, q.2.2))) = true := by decide +kernel
theorem dX9_begin_0 : decode cX9_begin 0 = .ok (.iconst 0, 1) := of_decide_eq_true (List.all_eq_true.mp dA_X9_begin_0 (0, .iconst 0, 1) (List.mem_of_getElem? (i := 0) rfl))
theorem dX9_begin_1 : decode cX9_begin 1 = .ok (.istore_n 3, 1) := of_decide_eq_true (List.all_eq_true.mp dA_X9_begin_0 (1, .istore_n 3, 1) (List.mem_of_getElem? (i := 1) rfl))
theorem dX9_begin_2 : decode cX9_begin 2 = .ok (.iload_n 3, 1) := of_decide_eq_true (List.all_eq_true.mp dA_X9_begin_0 (2, .iload_n 3, 1) (List.mem_of_getElem? (i := 2) rfl))
theorem dX9_begin_3 : decode cX9_begin 3 = .ok (.bipush 106, 2) := of_decide_eq_true (List.all_eq_true.mp dA_X9_begin_0 (3, .bipush 106, 2) (List.mem_of_getElem? (i := 3) rfl))
theorem dX9_begin_5 : decode cX9_begin 5 = .ok (.if_icmp .ge 13, 3) := of_decide_eq_true (List.all_eq_true.mp dA_X9_begin_0 (5, .if_icmp .ge 13, 3) (List.mem_of_getElem? (i := 4) rfl))
theorem dX9_begin_8 : decode cX9_begin 8 = .ok (.aload_n 0, 1) := of_decide_eq_true (List.all_eq_true.mp dA_X9_begin_0 (8, .aload_n 0, 1) (List.mem_of_getElem? (i := 5) rfl))
theorem dX9_begin_9 : decode cX9_begin 9 = .ok (.iload_n 3, 1) := of_decide_eq_true (List.all_eq_true.mp dA_X9_begin_0 (9, .iload_n 3, 1) (List.mem_of_getElem? (i := 6) rfl))
theorem dX9_begin_10 : decode cX9_begin 10 = .ok (.iconst 0, 1) := of_decide_eq_true (List.all_eq_true.mp dA_X9_begin_0 (10, .iconst 0, 1) (List.mem_of_getElem? (i := 7) rfl))
theorem dX9_begin_11 : decode cX9_begin 11 = .ok (.iastore, 1) := of_decide_eq_true (List.all_eq_true.mp dA_X9_begin_0 (11, .iastore, 1) (List.mem_of_getElem? (i := 8) rfl))
theorem dX9_begin_12 : decode cX9_begin 12 = .ok (.iinc 3 1, 3) := of_decide_eq_true (List.all_eq_true.mp dA_X9_begin_0 (12, .iinc 3 1, 3) (List.mem_of_getElem? (i := 9) rfl))
theorem dX9_begin_15 : decode cX9_begin 15 = .ok (.goto (-13), 3) := of_decide_eq_true (List.all_eq_true.mp dA_X9_begin_0 (15, .goto (-13), 3) (List.mem_of_getElem? (i := 10) rfl))
theorem dX9_begin_18 : decode cX9_begin 18 = .ok (.aload_n 0, 1) := of_decide_eq_true (List.all_eq_true.mp dA_X9_begin_0 (18, .aload_n 0, 1) (List.mem_of_getElem? (i := 11) rfl))
theorem dX9_begin_19 : decode cX9_begin 19 = .ok (.bipush 23, 2) := of_decide_eq_true (List.all_eq_true.mp dA_X9_begin_0 (19, .bipush 23, 2) (List.mem_of_getElem? (i := 12) rfl))
theorem dX9_begin_21 : decode cX9_begin 21 = .ok (.iload_n 1, 1) := of_decide_eq_true (List.all_eq_true.mp dA_X9_begin_0 (21, .iload_n 1, 1) (List.mem_of_getElem? (i := 13) rfl))
theorem dX9_begin_22 : decode cX9_begin 22 = .ok (.iastore, 1) := of_decide_eq_true (List.all_eq_true.mp dA_X9_begin_0 (22, .iastore, 1) (List.mem_of_getElem? (i := 14) rfl))
theorem dX9_begin_23 : decode cX9_begin 23 = .ok (.aload_n 0, 1) := of_decide_eq_true (List.all_eq_true.mp dA_X9_begin_0 (23, .aload_n 0, 1) (List.mem_of_getElem? (i := 15) rfl))
theorem dX9_begin_24 : decode cX9_begin 24 = .ok (.bipush 24, 2) := of_decide_eq_true (List.all_eq_true.mp dA_X9_begin_0 (24, .bipush 24, 2) (List.mem_of_getElem? (i := 16) rfl))
theorem dX9_begin_26 : decode cX9_begin 26 = .ok (.iload_n 2, 1) := of_decide_eq_true (List.all_eq_true.mp dA_X9_begin_0 (26, .iload_n 2, 1) (List.mem_of_getElem? (i := 17) rfl))
theorem dX9_begin_27 : decode cX9_begin 27 = .ok (.iastore, 1) := of_decide_eq_true (List.all_eq_true.mp dA_X9_begin_0 (27, .iastore, 1) (List.mem_of_getElem? (i := 18) rfl))
theorem dX9_begin_28 : decode cX9_begin 28 = .ok (.return_, 1) := of_decide_eq_true (List.all_eq_true.mp dA_X9_begin_0 (28, .return_, 1) (List.mem_of_getElem? (i := 19) rfl))
set_option maxRecDepth 20000 in
theorem dA_X9_many_0 : (([(0, .aload_n 0, 1), (1, .getfield 7, 3), (4, .iconst 0, 1), (5, .iaload, 1), (6, .ireturn, 1)] : List (Nat × Instr × Nat)).all fun q => decide (decode cX9_many q.1 = .ok (q.2.1, q.2.2))) = true := by decide +kernel
theorem dX9_many_0 : decode cX9_many 0 = .ok (.aload_n 0, 1) := of_decide_eq_true (List.all_eq_true.mp dA_X9_many_0 (0, .aload_n 0, 1) (List.mem_of_getElem? (i := 0) rfl))
theorem dX9_many_1 : decode cX9_many 1 = .ok (.getfield 7, 3) := of_decide_eq_true (List.all_eq_true.mp dA_X9_many_0 (1, .getfield 7, 3) (List.mem_of_getElem? (i := 1) rfl))
theorem dX9_many_4 : decode cX9_many 4 = .ok (.iconst 0, 1) := of_decide_eq_true (List.all_eq_true.mp dA_X9_many_0 (4, .iconst 0, 1) (List.mem_of_getElem? (i := 2) rfl))
theorem dX9_many_5 : decode cX9_many 5 = .ok (.iaload, 1) := of_decide_eq_true (List.all_eq_true.mp dA_X9_many_0 (5, .iaload, 1) (List.mem_of_getElem? (i := 3) rfl))
theorem dX9_many_6 : decode cX9_many 6 = .ok (.ireturn, 1) := of_decide_eq_true (List.all_eq_true.mp dA_X9_many_0 (6, .ireturn, 1) (List.mem_of_getElem? (i := 4) rfl))
set_option maxRecDepth 20000 in
theorem ggX9_isOne_X9_many : GoodIn wsX9_isOne wsX9_many := goodIn_r _ [5, 6, 10, 11, 12, 13, 14, 15, 16, 17, 18, 19, 20, 21, 22, 23, 24, 25, 26, 27, 28] (by decide +kernel) (by decide +kernel)
set_option maxRecDepth 20000 in
theorem gX9_isOne_X9_many : GoodIn wsX9_isOne (wsV RX9 55 RX9 yX9_many wsX9_many) := goodIn_app (goodIn_of _ (by decide +kernel)) ggX9_isOne_X9_many
set_option maxRecDepth 20000 in
theorem ggX9_isOne_X9_in : GoodIn wsX9_isOne wsX9_in := goodIn_r _ [9] (by decide +kernel) (by decide +kernel)
set_option maxRecDepth 20000 in
theorem gX9_isOne_X9_in : GoodIn wsX9_isOne (va_wsS RX9 59 yX9_in wsX9_in) := goodIn_app (goodIn_of _ (by decide +kernel)) ggX9_isOne_X9_in
set_option maxRecDepth 20000 in
theorem dA_X9_isOne_0 : (([(0, .iload_n 1, 1), (1, .i2l, 1), (2, .lconst 0, 1), (3, .aload_n 0, 1), (4, .invokevirtual 55, 3), (7, .iconst 1, 1), (8, .isub, 1), (9, .i2l, 1), (10, .invokestatic 59, 3), (13, .ireturn, 1)] : List (Nat × Instr × Nat)).all fun q => decide (decode cX9_isOne q.1 = .ok (q.2.1, q.2.2))) = true := by decide +kernel
theorem dX9_isOne_0 : decode cX9_isOne 0 = .ok (.iload_n 1, 1) := of_decide_eq_true (List.all_eq_true.mp dA_X9_isOne_0 (0, .iload_n 1, 1) (List.mem_of_getElem? (i := 0) rfl))
theorem dX9_isOne_1 : decode cX9_isOne 1 = .ok (.i2l, 1) := of_decide_eq_true (List.all_eq_true.mp dA_X9_isOne_0 (1, .i2l, 1) (List.mem_of_getElem? (i := 1) rfl))
theorem dX9_isOne_2 : decode cX9_isOne 2 = .ok (.lconst 0, 1) := of_decide_eq_true (List.all_eq_true.mp dA_X9_isOne_0 (2, .lconst 0, 1) (List.mem_of_getElem? (i := 2) rfl))
theorem dX9_isOne_3 : decode cX9_isOne 3 = .ok (.aload_n 0, 1) := of_decide_eq_true (List.all_eq_true.mp dA_X9_isOne_0 (3, .aload_n 0, 1) (List.mem_of_getElem? (i := 3) rfl))
theorem dX9_isOne_4 : decode cX9_isOne 4 = .ok (.invokevirtual 55, 3) := of_decide_eq_true (List.all_eq_true.mp dA_X9_isOne_0 (4, .invokevirtual 55, 3) (List.mem_of_getElem? (i := 4) rfl))
theorem dX9_isOne_7 : decode cX9_isOne 7 = .ok (.iconst 1, 1) := of_decide_eq_true (List.all_eq_true.mp dA_X9_isOne_0 (7, .iconst 1, 1) (List.mem_of_getElem? (i := 5) rfl))
theorem dX9_isOne_8 : decode cX9_isOne 8 = .ok (.isub, 1) := of_decide_eq_true (List.all_eq_true.mp dA_X9_isOne_0 (8, .isub, 1) (List.mem_of_getElem? (i := 6) rfl))
theorem dX9_isOne_9 : decode cX9_isOne 9 = .ok (.i2l, 1) := of_decide_eq_true (List.all_eq_true.mp dA_X9_isOne_0 (9, .i2l, 1) (List.mem_of_getElem? (i := 7) rfl))
theorem dX9_isOne_10 : decode cX9_isOne 10 = .ok (.invokestatic 59, 3) := of_decide_eq_true (List.all_eq_true.mp dA_X9_isOne_0 (10, .invokestatic 59, 3) (List.mem_of_getElem? (i := 8) rfl))
theorem dX9_isOne_13 : decode cX9_isOne 13 = .ok (.ireturn, 1) := of_decide_eq_true (List.all_eq_true.mp dA_X9_isOne_0 (13, .ireturn, 1) (List.mem_of_getElem? (i := 9) rfl))
set_option maxRecDepth 20000 in
theorem ggX9_isKind_X9_in : GoodIn wsX9_isKind wsX9_in := goodIn_r _ [5] (by decide +kernel) (by decide +kernel)
set_option maxRecDepth 20000 in
theorem gX9_isKind_X9_in : GoodIn wsX9_isKind (va_wsS RX9 59 yX9_in wsX9_in) := goodIn_app (goodIn_of _ (by decide +kernel)) ggX9_isKind_X9_in
set_option maxRecDepth 20000 in
theorem dA_X9_isKind_0 : (([(0, .iload_n 0, 1), (1, .i2l, 1), (2, .lconst 0, 1), (3, .ldc2_w 63, 3), (6, .invokestatic 59, 3), (9, .ireturn, 1)] : List (Nat × Instr × Nat)).all fun q => decide (decode cX9_isKind q.1 = .ok (q.2.1, q.2.2))) = true := by decide +kernel
theorem dX9_isKind_0 : decode cX9_isKind 0 = .ok (.iload_n 0, 1) := of_decide_eq_true (List.all_eq_true.mp dA_X9_isKind_0 (0, .iload_n 0, 1) (List.mem_of_getElem? (i := 0) rfl))
theorem dX9_isKind_1 : decode cX9_isKind 1 = .ok (.i2l, 1) := of_decide_eq_true (List.all_eq_true.mp dA_X9_isKind_0 (1, .i2l, 1) (List.mem_of_getElem? (i := 1) rfl))
theorem dX9_isKind_2 : decode cX9_isKind 2 = .ok (.lconst 0, 1) := of_decide_eq_true (List.all_eq_true.mp dA_X9_isKind_0 (2, .lconst 0, 1) (List.mem_of_getElem? (i := 2) rfl))
theorem dX9_isKind_3 : decode cX9_isKind 3 = .ok (.ldc2_w 63, 3) := of_decide_eq_true (List.all_eq_true.mp dA_X9_isKind_0 (3, .ldc2_w 63, 3) (List.mem_of_getElem? (i := 3) rfl))
theorem dX9_isKind_6 : decode cX9_isKind 6 = .ok (.invokestatic 59, 3) := of_decide_eq_true (List.all_eq_true.mp dA_X9_isKind_0 (6, .invokestatic 59, 3) (List.mem_of_getElem? (i := 4) rfl))
theorem dX9_isKind_9 : decode cX9_isKind 9 = .ok (.ireturn, 1) := of_decide_eq_true (List.all_eq_true.mp dA_X9_isKind_0 (9, .ireturn, 1) (List.mem_of_getElem? (i := 5) rfl))
set_option maxRecDepth 20000 in
theorem ggX9_isWord_X9_in : GoodIn wsX9_isWord wsX9_in := goodIn_r _ [5] (by decide +kernel) (by decide +kernel)
set_option maxRecDepth 20000 in
theorem gX9_isWord_X9_in : GoodIn wsX9_isWord (va_wsS RX9 59 yX9_in wsX9_in) := goodIn_app (goodIn_of _ (by decide +kernel)) ggX9_isWord_X9_in
set_option maxRecDepth 20000 in
theorem dA_X9_isWord_0 : (([(0, .iload_n 0, 1), (1, .i2l, 1), (2, .lconst 0, 1), (3, .ldc2_w 65, 3), (6, .invokestatic 59, 3), (9, .ireturn, 1)] : List (Nat × Instr × Nat)).all fun q => decide (decode cX9_isWord q.1 = .ok (q.2.1, q.2.2))) = true := by decide +kernel
theorem dX9_isWord_0 : decode cX9_isWord 0 = .ok (.iload_n 0, 1) := of_decide_eq_true (List.all_eq_true.mp dA_X9_isWord_0 (0, .iload_n 0, 1) (List.mem_of_getElem? (i := 0) rfl))
theorem dX9_isWord_1 : decode cX9_isWord 1 = .ok (.i2l, 1) := of_decide_eq_true (List.all_eq_true.mp dA_X9_isWord_0 (1, .i2l, 1) (List.mem_of_getElem? (i := 1) rfl))
theorem dX9_isWord_2 : decode cX9_isWord 2 = .ok (.lconst 0, 1) := of_decide_eq_true (List.all_eq_true.mp dA_X9_isWord_0 (2, .lconst 0, 1) (List.mem_of_getElem? (i := 2) rfl))
theorem dX9_isWord_3 : decode cX9_isWord 3 = .ok (.ldc2_w 65, 3) := of_decide_eq_true (List.all_eq_true.mp dA_X9_isWord_0 (3, .ldc2_w 65, 3) (List.mem_of_getElem? (i := 3) rfl))
theorem dX9_isWord_6 : decode cX9_isWord 6 = .ok (.invokestatic 59, 3) := of_decide_eq_true (List.all_eq_true.mp dA_X9_isWord_0 (6, .invokestatic 59, 3) (List.mem_of_getElem? (i := 4) rfl))
theorem dX9_isWord_9 : decode cX9_isWord 9 = .ok (.ireturn, 1) := of_decide_eq_true (List.all_eq_true.mp dA_X9_isWord_0 (9, .ireturn, 1) (List.mem_of_getElem? (i := 5) rfl))
set_option maxRecDepth 20000 in
theorem ggX9_isWet_X9_in : GoodIn wsX9_isWet wsX9_in := goodIn_r _ [5] (by decide +kernel) (by decide +kernel)
set_option maxRecDepth 20000 in
theorem gX9_isWet_X9_in : GoodIn wsX9_isWet (va_wsS RX9 59 yX9_in wsX9_in) := goodIn_app (goodIn_of _ (by decide +kernel)) ggX9_isWet_X9_in
set_option maxRecDepth 20000 in
theorem dA_X9_isWet_0 : (([(0, .iload_n 0, 1), (1, .i2l, 1), (2, .lconst 0, 1), (3, .ldc2_w 67, 3), (6, .invokestatic 59, 3), (9, .ireturn, 1)] : List (Nat × Instr × Nat)).all fun q => decide (decode cX9_isWet q.1 = .ok (q.2.1, q.2.2))) = true := by decide +kernel
theorem dX9_isWet_0 : decode cX9_isWet 0 = .ok (.iload_n 0, 1) := of_decide_eq_true (List.all_eq_true.mp dA_X9_isWet_0 (0, .iload_n 0, 1) (List.mem_of_getElem? (i := 0) rfl))
theorem dX9_isWet_1 : decode cX9_isWet 1 = .ok (.i2l, 1) := of_decide_eq_true (List.all_eq_true.mp dA_X9_isWet_0 (1, .i2l, 1) (List.mem_of_getElem? (i := 1) rfl))
theorem dX9_isWet_2 : decode cX9_isWet 2 = .ok (.lconst 0, 1) := of_decide_eq_true (List.all_eq_true.mp dA_X9_isWet_0 (2, .lconst 0, 1) (List.mem_of_getElem? (i := 2) rfl))
theorem dX9_isWet_3 : decode cX9_isWet 3 = .ok (.ldc2_w 67, 3) := of_decide_eq_true (List.all_eq_true.mp dA_X9_isWet_0 (3, .ldc2_w 67, 3) (List.mem_of_getElem? (i := 3) rfl))
theorem dX9_isWet_6 : decode cX9_isWet 6 = .ok (.invokestatic 59, 3) := of_decide_eq_true (List.all_eq_true.mp dA_X9_isWet_0 (6, .invokestatic 59, 3) (List.mem_of_getElem? (i := 4) rfl))
theorem dX9_isWet_9 : decode cX9_isWet 9 = .ok (.ireturn, 1) := of_decide_eq_true (List.all_eq_true.mp dA_X9_isWet_0 (9, .ireturn, 1) (List.mem_of_getElem? (i := 5) rfl))
set_option maxRecDepth 20000 in
theorem ggX9_inn_X9_isKind : GoodIn wsX9_inn wsX9_isKind := goodIn_r _ [6, 7, 8, 9, 5, 10] (by decide +kernel) (by decide +kernel)
set_option maxRecDepth 20000 in
theorem gX9_inn_X9_isKind : GoodIn wsX9_inn (va_wsS RX9 69 yX9_isKind wsX9_isKind) := goodIn_app (goodIn_of _ (by decide +kernel)) ggX9_inn_X9_isKind
set_option maxRecDepth 20000 in
theorem ggX9_inn_X9_in : GoodIn wsX9_inn wsX9_in := goodIn_r _ [10] (by decide +kernel) (by decide +kernel)
set_option maxRecDepth 20000 in
theorem gX9_inn_X9_in : GoodIn wsX9_inn (va_wsS RX9 59 yX9_in wsX9_in) := goodIn_app (goodIn_of _ (by decide +kernel)) ggX9_inn_X9_in
set_option maxRecDepth 20000 in
theorem ggX9_inn_X9_bad : GoodIn wsX9_inn wsX9_bad := goodIn_r _ [14, 15, 23, 24, 25, 26, 27, 28, 29, 30, 31, 32, 33, 34, 35, 36, 37, 38, 39, 40, 41] (by decide +kernel) (by decide +kernel)
set_option maxRecDepth 20000 in
theorem gX9_inn_X9_bad : GoodIn wsX9_inn (wsV RX9 75 RX9 yX9_bad wsX9_bad) := goodIn_app (goodIn_of _ (by decide +kernel)) ggX9_inn_X9_bad
set_option maxRecDepth 20000 in
theorem ggX9_inn_X9_many : GoodIn wsX9_inn wsX9_many := goodIn_r _ [19, 2, 23, 24, 25, 26, 27, 28, 29, 30, 31, 32, 33, 34, 35, 36, 37, 38, 39, 40, 41] (by decide +kernel) (by decide +kernel)
set_option maxRecDepth 20000 in
theorem gX9_inn_X9_many : GoodIn wsX9_inn (wsV RX9 55 RX9 yX9_many wsX9_many) := goodIn_app (goodIn_of _ (by decide +kernel)) ggX9_inn_X9_many
set_option maxRecDepth 20000 in
theorem ggX9_inn_X9_begin : GoodIn wsX9_inn wsX9_begin := goodIn_r _ [22] (by decide +kernel) (by decide +kernel)
set_option maxRecDepth 20000 in
theorem gX9_inn_X9_begin : GoodIn wsX9_inn (va_wsS RX9 51 yX9_begin wsX9_begin) := goodIn_app (goodIn_of _ (by decide +kernel)) ggX9_inn_X9_begin
set_option maxRecDepth 20000 in
theorem dA_X9_inn_0 : (([(0, .iload_n 1, 1), (1, .invokestatic 69, 3), (4, .ifCond .eq 15, 3), (7, .iload_n 2, 1), (8, .i2l, 1), (9, .lconst 0, 1), (10, .ldc2_w 73, 3), (13, .invokestatic 59, 3), (16, .ifCond .ne 10, 3), (19, .aload_n 0, 1), (20, .bipush (-2), 2), (22, .invokevirtual 75, 3), (25, .ireturn, 1), (26, .aload_n 0, 1), (27, .invokevirtual 55, 3), (30, .istore_n 3, 1), (31, .aload_n 0, 1), (32, .getfield 7, 3), (35, .iload_n 1, 1), (36, .iload_n 2, 1), (37, .invokestatic 51, 3), (40, .iload_n 3, 1), (41, .ireturn, 1)] : List (Nat × Instr × Nat)).all fun q => decide (decode cX9_inn q.1 = .ok (q.2.1, q.2.2))) = true := by decide +kernel
theorem dX9_inn_0 : decode cX9_inn 0 = .ok (.iload_n 1, 1) := of_decide_eq_true (List.all_eq_true.mp dA_X9_inn_0 (0, .iload_n 1, 1) (List.mem_of_getElem? (i := 0) rfl))
theorem dX9_inn_1 : decode cX9_inn 1 = .ok (.invokestatic 69, 3) := of_decide_eq_true (List.all_eq_true.mp dA_X9_inn_0 (1, .invokestatic 69, 3) (List.mem_of_getElem? (i := 1) rfl))
theorem dX9_inn_4 : decode cX9_inn 4 = .ok (.ifCond .eq 15, 3) := of_decide_eq_true (List.all_eq_true.mp dA_X9_inn_0 (4, .ifCond .eq 15, 3) (List.mem_of_getElem? (i := 2) rfl))
theorem dX9_inn_7 : decode cX9_inn 7 = .ok (.iload_n 2, 1) := of_decide_eq_true (List.all_eq_true.mp dA_X9_inn_0 (7, .iload_n 2, 1) (List.mem_of_getElem? (i := 3) rfl))
theorem dX9_inn_8 : decode cX9_inn 8 = .ok (.i2l, 1) := of_decide_eq_true (List.all_eq_true.mp dA_X9_inn_0 (8, .i2l, 1) (List.mem_of_getElem? (i := 4) rfl))
theorem dX9_inn_9 : decode cX9_inn 9 = .ok (.lconst 0, 1) := of_decide_eq_true (List.all_eq_true.mp dA_X9_inn_0 (9, .lconst 0, 1) (List.mem_of_getElem? (i := 5) rfl))
theorem dX9_inn_10 : decode cX9_inn 10 = .ok (.ldc2_w 73, 3) := of_decide_eq_true (List.all_eq_true.mp dA_X9_inn_0 (10, .ldc2_w 73, 3) (List.mem_of_getElem? (i := 6) rfl))
theorem dX9_inn_13 : decode cX9_inn 13 = .ok (.invokestatic 59, 3) := of_decide_eq_true (List.all_eq_true.mp dA_X9_inn_0 (13, .invokestatic 59, 3) (List.mem_of_getElem? (i := 7) rfl))
theorem dX9_inn_16 : decode cX9_inn 16 = .ok (.ifCond .ne 10, 3) := of_decide_eq_true (List.all_eq_true.mp dA_X9_inn_0 (16, .ifCond .ne 10, 3) (List.mem_of_getElem? (i := 8) rfl))
theorem dX9_inn_19 : decode cX9_inn 19 = .ok (.aload_n 0, 1) := of_decide_eq_true (List.all_eq_true.mp dA_X9_inn_0 (19, .aload_n 0, 1) (List.mem_of_getElem? (i := 9) rfl))
theorem dX9_inn_20 : decode cX9_inn 20 = .ok (.bipush (-2), 2) := of_decide_eq_true (List.all_eq_true.mp dA_X9_inn_0 (20, .bipush (-2), 2) (List.mem_of_getElem? (i := 10) rfl))
theorem dX9_inn_22 : decode cX9_inn 22 = .ok (.invokevirtual 75, 3) := of_decide_eq_true (List.all_eq_true.mp dA_X9_inn_0 (22, .invokevirtual 75, 3) (List.mem_of_getElem? (i := 11) rfl))
theorem dX9_inn_25 : decode cX9_inn 25 = .ok (.ireturn, 1) := of_decide_eq_true (List.all_eq_true.mp dA_X9_inn_0 (25, .ireturn, 1) (List.mem_of_getElem? (i := 12) rfl))
theorem dX9_inn_26 : decode cX9_inn 26 = .ok (.aload_n 0, 1) := of_decide_eq_true (List.all_eq_true.mp dA_X9_inn_0 (26, .aload_n 0, 1) (List.mem_of_getElem? (i := 13) rfl))
theorem dX9_inn_27 : decode cX9_inn 27 = .ok (.invokevirtual 55, 3) := of_decide_eq_true (List.all_eq_true.mp dA_X9_inn_0 (27, .invokevirtual 55, 3) (List.mem_of_getElem? (i := 14) rfl))
theorem dX9_inn_30 : decode cX9_inn 30 = .ok (.istore_n 3, 1) := of_decide_eq_true (List.all_eq_true.mp dA_X9_inn_0 (30, .istore_n 3, 1) (List.mem_of_getElem? (i := 15) rfl))
theorem dX9_inn_31 : decode cX9_inn 31 = .ok (.aload_n 0, 1) := of_decide_eq_true (List.all_eq_true.mp dA_X9_inn_0 (31, .aload_n 0, 1) (List.mem_of_getElem? (i := 16) rfl))
theorem dX9_inn_32 : decode cX9_inn 32 = .ok (.getfield 7, 3) := of_decide_eq_true (List.all_eq_true.mp dA_X9_inn_0 (32, .getfield 7, 3) (List.mem_of_getElem? (i := 17) rfl))
theorem dX9_inn_35 : decode cX9_inn 35 = .ok (.iload_n 1, 1) := of_decide_eq_true (List.all_eq_true.mp dA_X9_inn_0 (35, .iload_n 1, 1) (List.mem_of_getElem? (i := 18) rfl))
theorem dX9_inn_36 : decode cX9_inn 36 = .ok (.iload_n 2, 1) := of_decide_eq_true (List.all_eq_true.mp dA_X9_inn_0 (36, .iload_n 2, 1) (List.mem_of_getElem? (i := 19) rfl))
theorem dX9_inn_37 : decode cX9_inn 37 = .ok (.invokestatic 51, 3) := of_decide_eq_true (List.all_eq_true.mp dA_X9_inn_0 (37, .invokestatic 51, 3) (List.mem_of_getElem? (i := 20) rfl))
theorem dX9_inn_40 : decode cX9_inn 40 = .ok (.iload_n 3, 1) := of_decide_eq_true (List.all_eq_true.mp dA_X9_inn_0 (40, .iload_n 3, 1) (List.mem_of_getElem? (i := 21) rfl))
theorem dX9_inn_41 : decode cX9_inn 41 = .ok (.ireturn, 1) := of_decide_eq_true (List.all_eq_true.mp dA_X9_inn_0 (41, .ireturn, 1) (List.mem_of_getElem? (i := 22) rfl))
set_option maxRecDepth 20000 in
theorem ggX9_landlord_X9_isKind : GoodIn wsX9_landlord wsX9_isKind := goodIn_r _ [5, 6, 7, 8, 4, 9] (by decide +kernel) (by decide +kernel)
set_option maxRecDepth 20000 in
theorem gX9_landlord_X9_isKind : GoodIn wsX9_landlord (va_wsS RX9 69 yX9_isKind wsX9_isKind) := goodIn_app (goodIn_of _ (by decide +kernel)) ggX9_landlord_X9_isKind
set_option maxRecDepth 20000 in
theorem ggX9_landlord_X9_bad : GoodIn wsX9_landlord wsX9_bad := goodIn_r _ [13, 14, 15, 16, 17, 18, 19, 20, 21, 22, 23, 24, 25, 26, 27, 28, 29, 30, 31, 32, 33] (by decide +kernel) (by decide +kernel)
set_option maxRecDepth 20000 in
theorem gX9_landlord_X9_bad : GoodIn wsX9_landlord (wsV RX9 75 RX9 yX9_bad wsX9_bad) := goodIn_app (goodIn_of _ (by decide +kernel)) ggX9_landlord_X9_bad
set_option maxRecDepth 20000 in
theorem dA_X9_landlord_0 : (([(0, .iload_n 1, 1), (1, .invokestatic 69, 3), (4, .ifCond .ne 10, 3), (7, .aload_n 0, 1), (8, .bipush (-2), 2), (10, .invokevirtual 75, 3), (13, .ireturn, 1), (14, .aload_n 0, 1), (15, .getfield 7, 3), (18, .bipush 23, 2), (20, .iaload, 1), (21, .istore_n 2, 1), (22, .aload_n 0, 1), (23, .getfield 7, 3), (26, .bipush 23, 2), (28, .iload_n 1, 1), (29, .iastore, 1), (30, .aload_n 0, 1), (31, .getfield 7, 3), (34, .iconst 4, 1), (35, .iconst 0, 1), (36, .iastore, 1), (37, .iload_n 2, 1), (38, .ireturn, 1)] : List (Nat × Instr × Nat)).all fun q => decide (decode cX9_landlord q.1 = .ok (q.2.1, q.2.2))) = true := by decide +kernel
theorem dX9_landlord_0 : decode cX9_landlord 0 = .ok (.iload_n 1, 1) := of_decide_eq_true (List.all_eq_true.mp dA_X9_landlord_0 (0, .iload_n 1, 1) (List.mem_of_getElem? (i := 0) rfl))
theorem dX9_landlord_1 : decode cX9_landlord 1 = .ok (.invokestatic 69, 3) := of_decide_eq_true (List.all_eq_true.mp dA_X9_landlord_0 (1, .invokestatic 69, 3) (List.mem_of_getElem? (i := 1) rfl))
theorem dX9_landlord_4 : decode cX9_landlord 4 = .ok (.ifCond .ne 10, 3) := of_decide_eq_true (List.all_eq_true.mp dA_X9_landlord_0 (4, .ifCond .ne 10, 3) (List.mem_of_getElem? (i := 2) rfl))
theorem dX9_landlord_7 : decode cX9_landlord 7 = .ok (.aload_n 0, 1) := of_decide_eq_true (List.all_eq_true.mp dA_X9_landlord_0 (7, .aload_n 0, 1) (List.mem_of_getElem? (i := 3) rfl))
theorem dX9_landlord_8 : decode cX9_landlord 8 = .ok (.bipush (-2), 2) := of_decide_eq_true (List.all_eq_true.mp dA_X9_landlord_0 (8, .bipush (-2), 2) (List.mem_of_getElem? (i := 4) rfl))
theorem dX9_landlord_10 : decode cX9_landlord 10 = .ok (.invokevirtual 75, 3) := of_decide_eq_true (List.all_eq_true.mp dA_X9_landlord_0 (10, .invokevirtual 75, 3) (List.mem_of_getElem? (i := 5) rfl))
theorem dX9_landlord_13 : decode cX9_landlord 13 = .ok (.ireturn, 1) := of_decide_eq_true (List.all_eq_true.mp dA_X9_landlord_0 (13, .ireturn, 1) (List.mem_of_getElem? (i := 6) rfl))
theorem dX9_landlord_14 : decode cX9_landlord 14 = .ok (.aload_n 0, 1) := of_decide_eq_true (List.all_eq_true.mp dA_X9_landlord_0 (14, .aload_n 0, 1) (List.mem_of_getElem? (i := 7) rfl))
theorem dX9_landlord_15 : decode cX9_landlord 15 = .ok (.getfield 7, 3) := of_decide_eq_true (List.all_eq_true.mp dA_X9_landlord_0 (15, .getfield 7, 3) (List.mem_of_getElem? (i := 8) rfl))
theorem dX9_landlord_18 : decode cX9_landlord 18 = .ok (.bipush 23, 2) := of_decide_eq_true (List.all_eq_true.mp dA_X9_landlord_0 (18, .bipush 23, 2) (List.mem_of_getElem? (i := 9) rfl))
theorem dX9_landlord_20 : decode cX9_landlord 20 = .ok (.iaload, 1) := of_decide_eq_true (List.all_eq_true.mp dA_X9_landlord_0 (20, .iaload, 1) (List.mem_of_getElem? (i := 10) rfl))
theorem dX9_landlord_21 : decode cX9_landlord 21 = .ok (.istore_n 2, 1) := of_decide_eq_true (List.all_eq_true.mp dA_X9_landlord_0 (21, .istore_n 2, 1) (List.mem_of_getElem? (i := 11) rfl))
theorem dX9_landlord_22 : decode cX9_landlord 22 = .ok (.aload_n 0, 1) := of_decide_eq_true (List.all_eq_true.mp dA_X9_landlord_0 (22, .aload_n 0, 1) (List.mem_of_getElem? (i := 12) rfl))
theorem dX9_landlord_23 : decode cX9_landlord 23 = .ok (.getfield 7, 3) := of_decide_eq_true (List.all_eq_true.mp dA_X9_landlord_0 (23, .getfield 7, 3) (List.mem_of_getElem? (i := 13) rfl))
theorem dX9_landlord_26 : decode cX9_landlord 26 = .ok (.bipush 23, 2) := of_decide_eq_true (List.all_eq_true.mp dA_X9_landlord_0 (26, .bipush 23, 2) (List.mem_of_getElem? (i := 14) rfl))
theorem dX9_landlord_28 : decode cX9_landlord 28 = .ok (.iload_n 1, 1) := of_decide_eq_true (List.all_eq_true.mp dA_X9_landlord_0 (28, .iload_n 1, 1) (List.mem_of_getElem? (i := 15) rfl))
theorem dX9_landlord_29 : decode cX9_landlord 29 = .ok (.iastore, 1) := of_decide_eq_true (List.all_eq_true.mp dA_X9_landlord_0 (29, .iastore, 1) (List.mem_of_getElem? (i := 16) rfl))
theorem dX9_landlord_30 : decode cX9_landlord 30 = .ok (.aload_n 0, 1) := of_decide_eq_true (List.all_eq_true.mp dA_X9_landlord_0 (30, .aload_n 0, 1) (List.mem_of_getElem? (i := 17) rfl))
theorem dX9_landlord_31 : decode cX9_landlord 31 = .ok (.getfield 7, 3) := of_decide_eq_true (List.all_eq_true.mp dA_X9_landlord_0 (31, .getfield 7, 3) (List.mem_of_getElem? (i := 18) rfl))
theorem dX9_landlord_34 : decode cX9_landlord 34 = .ok (.iconst 4, 1) := of_decide_eq_true (List.all_eq_true.mp dA_X9_landlord_0 (34, .iconst 4, 1) (List.mem_of_getElem? (i := 19) rfl))
theorem dX9_landlord_35 : decode cX9_landlord 35 = .ok (.iconst 0, 1) := of_decide_eq_true (List.all_eq_true.mp dA_X9_landlord_0 (35, .iconst 0, 1) (List.mem_of_getElem? (i := 20) rfl))
theorem dX9_landlord_36 : decode cX9_landlord 36 = .ok (.iastore, 1) := of_decide_eq_true (List.all_eq_true.mp dA_X9_landlord_0 (36, .iastore, 1) (List.mem_of_getElem? (i := 21) rfl))
theorem dX9_landlord_37 : decode cX9_landlord 37 = .ok (.iload_n 2, 1) := of_decide_eq_true (List.all_eq_true.mp dA_X9_landlord_0 (37, .iload_n 2, 1) (List.mem_of_getElem? (i := 22) rfl))
theorem dX9_landlord_38 : decode cX9_landlord 38 = .ok (.ireturn, 1) := of_decide_eq_true (List.all_eq_true.mp dA_X9_landlord_0 (38, .ireturn, 1) (List.mem_of_getElem? (i := 23) rfl))
set_option maxRecDepth 20000 in
theorem ggX9_wet_X9_in : GoodIn wsX9_wet wsX9_in := goodIn_r _ [6] (by decide +kernel) (by decide +kernel)
set_option maxRecDepth 20000 in
theorem gX9_wet_X9_in : GoodIn wsX9_wet (va_wsS RX9 59 yX9_in wsX9_in) := goodIn_app (goodIn_of _ (by decide +kernel)) ggX9_wet_X9_in
set_option maxRecDepth 20000 in
theorem ggX9_wet_X9_isWet : GoodIn wsX9_wet wsX9_isWet := goodIn_r _ [9, 10, 3, 4, 5, 6] (by decide +kernel) (by decide +kernel)
set_option maxRecDepth 20000 in
theorem gX9_wet_X9_isWet : GoodIn wsX9_wet (va_wsS RX9 79 yX9_isWet wsX9_isWet) := goodIn_app (goodIn_of _ (by decide +kernel)) ggX9_wet_X9_isWet
set_option maxRecDepth 20000 in
theorem ggX9_wet_X9_bad : GoodIn wsX9_wet wsX9_bad := goodIn_r _ [14, 15, 16, 17, 18, 19, 20, 21, 22, 23, 24, 25, 26, 27, 28, 29, 30, 31, 32, 33, 34] (by decide +kernel) (by decide +kernel)
set_option maxRecDepth 20000 in
theorem gX9_wet_X9_bad : GoodIn wsX9_wet (wsV RX9 75 RX9 yX9_bad wsX9_bad) := goodIn_app (goodIn_of _ (by decide +kernel)) ggX9_wet_X9_bad
set_option maxRecDepth 20000 in
theorem dA_X9_wet_0 : (([(0, .iload_n 1, 1), (1, .i2l, 1), (2, .lconst 0, 1), (3, .ldc2_w 63, 3), (6, .invokestatic 59, 3), (9, .ifCond .eq 10, 3), (12, .iload_n 2, 1), (13, .invokestatic 79, 3), (16, .ifCond .ne 10, 3), (19, .aload_n 0, 1), (20, .bipush (-2), 2), (22, .invokevirtual 75, 3), (25, .ireturn, 1), (26, .aload_n 0, 1), (27, .getfield 7, 3), (30, .bipush 25, 2), (32, .iload_n 1, 1), (33, .iadd, 1), (34, .iaload, 1), (35, .istore_n 3, 1), (36, .aload_n 0, 1), (37, .getfield 7, 3), (40, .bipush 25, 2), (42, .iload_n 1, 1), (43, .iadd, 1), (44, .iload_n 2, 1), (45, .iastore, 1), (46, .aload_n 0, 1), (47, .getfield 7, 3), (50, .iconst 4, 1), (51, .iconst 0, 1), (52, .iastore, 1), (53, .iload_n 3, 1), (54, .ireturn, 1)] : List (Nat × Instr × Nat)).all fun q => decide (decode cX9_wet q.1 = .ok (q.2.1, q.2.2))) = true := by decide +kernel
theorem dX9_wet_0 : decode cX9_wet 0 = .ok (.iload_n 1, 1) := of_decide_eq_true (List.all_eq_true.mp dA_X9_wet_0 (0, .iload_n 1, 1) (List.mem_of_getElem? (i := 0) rfl))
theorem dX9_wet_1 : decode cX9_wet 1 = .ok (.i2l, 1) := of_decide_eq_true (List.all_eq_true.mp dA_X9_wet_0 (1, .i2l, 1) (List.mem_of_getElem? (i := 1) rfl))
theorem dX9_wet_2 : decode cX9_wet 2 = .ok (.lconst 0, 1) := of_decide_eq_true (List.all_eq_true.mp dA_X9_wet_0 (2, .lconst 0, 1) (List.mem_of_getElem? (i := 2) rfl))
theorem dX9_wet_3 : decode cX9_wet 3 = .ok (.ldc2_w 63, 3) := of_decide_eq_true (List.all_eq_true.mp dA_X9_wet_0 (3, .ldc2_w 63, 3) (List.mem_of_getElem? (i := 3) rfl))
theorem dX9_wet_6 : decode cX9_wet 6 = .ok (.invokestatic 59, 3) := of_decide_eq_true (List.all_eq_true.mp dA_X9_wet_0 (6, .invokestatic 59, 3) (List.mem_of_getElem? (i := 4) rfl))
theorem dX9_wet_9 : decode cX9_wet 9 = .ok (.ifCond .eq 10, 3) := of_decide_eq_true (List.all_eq_true.mp dA_X9_wet_0 (9, .ifCond .eq 10, 3) (List.mem_of_getElem? (i := 5) rfl))
theorem dX9_wet_12 : decode cX9_wet 12 = .ok (.iload_n 2, 1) := of_decide_eq_true (List.all_eq_true.mp dA_X9_wet_0 (12, .iload_n 2, 1) (List.mem_of_getElem? (i := 6) rfl))
theorem dX9_wet_13 : decode cX9_wet 13 = .ok (.invokestatic 79, 3) := of_decide_eq_true (List.all_eq_true.mp dA_X9_wet_0 (13, .invokestatic 79, 3) (List.mem_of_getElem? (i := 7) rfl))
theorem dX9_wet_16 : decode cX9_wet 16 = .ok (.ifCond .ne 10, 3) := of_decide_eq_true (List.all_eq_true.mp dA_X9_wet_0 (16, .ifCond .ne 10, 3) (List.mem_of_getElem? (i := 8) rfl))
theorem dX9_wet_19 : decode cX9_wet 19 = .ok (.aload_n 0, 1) := of_decide_eq_true (List.all_eq_true.mp dA_X9_wet_0 (19, .aload_n 0, 1) (List.mem_of_getElem? (i := 9) rfl))
theorem dX9_wet_20 : decode cX9_wet 20 = .ok (.bipush (-2), 2) := of_decide_eq_true (List.all_eq_true.mp dA_X9_wet_0 (20, .bipush (-2), 2) (List.mem_of_getElem? (i := 10) rfl))
theorem dX9_wet_22 : decode cX9_wet 22 = .ok (.invokevirtual 75, 3) := of_decide_eq_true (List.all_eq_true.mp dA_X9_wet_0 (22, .invokevirtual 75, 3) (List.mem_of_getElem? (i := 11) rfl))
theorem dX9_wet_25 : decode cX9_wet 25 = .ok (.ireturn, 1) := of_decide_eq_true (List.all_eq_true.mp dA_X9_wet_0 (25, .ireturn, 1) (List.mem_of_getElem? (i := 12) rfl))
theorem dX9_wet_26 : decode cX9_wet 26 = .ok (.aload_n 0, 1) := of_decide_eq_true (List.all_eq_true.mp dA_X9_wet_0 (26, .aload_n 0, 1) (List.mem_of_getElem? (i := 13) rfl))
theorem dX9_wet_27 : decode cX9_wet 27 = .ok (.getfield 7, 3) := of_decide_eq_true (List.all_eq_true.mp dA_X9_wet_0 (27, .getfield 7, 3) (List.mem_of_getElem? (i := 14) rfl))
theorem dX9_wet_30 : decode cX9_wet 30 = .ok (.bipush 25, 2) := of_decide_eq_true (List.all_eq_true.mp dA_X9_wet_0 (30, .bipush 25, 2) (List.mem_of_getElem? (i := 15) rfl))
theorem dX9_wet_32 : decode cX9_wet 32 = .ok (.iload_n 1, 1) := of_decide_eq_true (List.all_eq_true.mp dA_X9_wet_0 (32, .iload_n 1, 1) (List.mem_of_getElem? (i := 16) rfl))
theorem dX9_wet_33 : decode cX9_wet 33 = .ok (.iadd, 1) := of_decide_eq_true (List.all_eq_true.mp dA_X9_wet_0 (33, .iadd, 1) (List.mem_of_getElem? (i := 17) rfl))
theorem dX9_wet_34 : decode cX9_wet 34 = .ok (.iaload, 1) := of_decide_eq_true (List.all_eq_true.mp dA_X9_wet_0 (34, .iaload, 1) (List.mem_of_getElem? (i := 18) rfl))
theorem dX9_wet_35 : decode cX9_wet 35 = .ok (.istore_n 3, 1) := of_decide_eq_true (List.all_eq_true.mp dA_X9_wet_0 (35, .istore_n 3, 1) (List.mem_of_getElem? (i := 19) rfl))
theorem dX9_wet_36 : decode cX9_wet 36 = .ok (.aload_n 0, 1) := of_decide_eq_true (List.all_eq_true.mp dA_X9_wet_0 (36, .aload_n 0, 1) (List.mem_of_getElem? (i := 20) rfl))
theorem dX9_wet_37 : decode cX9_wet 37 = .ok (.getfield 7, 3) := of_decide_eq_true (List.all_eq_true.mp dA_X9_wet_0 (37, .getfield 7, 3) (List.mem_of_getElem? (i := 21) rfl))
theorem dX9_wet_40 : decode cX9_wet 40 = .ok (.bipush 25, 2) := of_decide_eq_true (List.all_eq_true.mp dA_X9_wet_0 (40, .bipush 25, 2) (List.mem_of_getElem? (i := 22) rfl))
theorem dX9_wet_42 : decode cX9_wet 42 = .ok (.iload_n 1, 1) := of_decide_eq_true (List.all_eq_true.mp dA_X9_wet_0 (42, .iload_n 1, 1) (List.mem_of_getElem? (i := 23) rfl))
theorem dX9_wet_43 : decode cX9_wet 43 = .ok (.iadd, 1) := of_decide_eq_true (List.all_eq_true.mp dA_X9_wet_0 (43, .iadd, 1) (List.mem_of_getElem? (i := 24) rfl))
theorem dX9_wet_44 : decode cX9_wet 44 = .ok (.iload_n 2, 1) := of_decide_eq_true (List.all_eq_true.mp dA_X9_wet_0 (44, .iload_n 2, 1) (List.mem_of_getElem? (i := 25) rfl))
theorem dX9_wet_45 : decode cX9_wet 45 = .ok (.iastore, 1) := of_decide_eq_true (List.all_eq_true.mp dA_X9_wet_0 (45, .iastore, 1) (List.mem_of_getElem? (i := 26) rfl))
theorem dX9_wet_46 : decode cX9_wet 46 = .ok (.aload_n 0, 1) := of_decide_eq_true (List.all_eq_true.mp dA_X9_wet_0 (46, .aload_n 0, 1) (List.mem_of_getElem? (i := 27) rfl))
theorem dX9_wet_47 : decode cX9_wet 47 = .ok (.getfield 7, 3) := of_decide_eq_true (List.all_eq_true.mp dA_X9_wet_0 (47, .getfield 7, 3) (List.mem_of_getElem? (i := 28) rfl))
theorem dX9_wet_50 : decode cX9_wet 50 = .ok (.iconst 4, 1) := of_decide_eq_true (List.all_eq_true.mp dA_X9_wet_0 (50, .iconst 4, 1) (List.mem_of_getElem? (i := 29) rfl))
theorem dX9_wet_51 : decode cX9_wet 51 = .ok (.iconst 0, 1) := of_decide_eq_true (List.all_eq_true.mp dA_X9_wet_0 (51, .iconst 0, 1) (List.mem_of_getElem? (i := 30) rfl))
theorem dX9_wet_52 : decode cX9_wet 52 = .ok (.iastore, 1) := of_decide_eq_true (List.all_eq_true.mp dA_X9_wet_0 (52, .iastore, 1) (List.mem_of_getElem? (i := 31) rfl))
theorem dX9_wet_53 : decode cX9_wet 53 = .ok (.iload_n 3, 1) := of_decide_eq_true (List.all_eq_true.mp dA_X9_wet_0 (53, .iload_n 3, 1) (List.mem_of_getElem? (i := 32) rfl))
theorem dX9_wet_54 : decode cX9_wet 54 = .ok (.ireturn, 1) := of_decide_eq_true (List.all_eq_true.mp dA_X9_wet_0 (54, .ireturn, 1) (List.mem_of_getElem? (i := 33) rfl))
set_option maxRecDepth 20000 in
theorem dA_X9_layOne_0 : (([(0, .aload_n 0, 1), (1, .iconst 0, 1), (2, .iaload, 1), (3, .istore_n 3, 1), (4, .aload_n 0, 1), (5, .bipush 31, 2), (7, .iload_n 3, 1), (8, .iadd, 1), (9, .iload_n 1, 1), (10, .iastore, 1), (11, .aload_n 0, 1), (12, .iconst 5, 1), (13, .iload_n 3, 1), (14, .iadd, 1), (15, .iload_n 2, 1), (16, .iastore, 1), (17, .aload_n 0, 1), (18, .bipush 12, 2), (20, .iload_n 3, 1), (21, .iadd, 1), (22, .iconst 0, 1), (23, .iastore, 1), (24, .aload_n 0, 1), (25, .iconst 0, 1), (26, .dup2, 1), (27, .iaload, 1), (28, .iconst 1, 1), (29, .iadd, 1), (30, .iastore, 1), (31, .return_, 1)] : List (Nat × Instr × Nat)).all fun q => decide (decode cX9_layOne q.1 = .ok (q.2.1, q.2.2))) = true := by decide +kernel
theorem dX9_layOne_0 : decode cX9_layOne 0 = .ok (.aload_n 0, 1) := of_decide_eq_true (List.all_eq_true.mp dA_X9_layOne_0 (0, .aload_n 0, 1) (List.mem_of_getElem? (i := 0) rfl))
theorem dX9_layOne_1 : decode cX9_layOne 1 = .ok (.iconst 0, 1) := of_decide_eq_true (List.all_eq_true.mp dA_X9_layOne_0 (1, .iconst 0, 1) (List.mem_of_getElem? (i := 1) rfl))
theorem dX9_layOne_2 : decode cX9_layOne 2 = .ok (.iaload, 1) := of_decide_eq_true (List.all_eq_true.mp dA_X9_layOne_0 (2, .iaload, 1) (List.mem_of_getElem? (i := 2) rfl))
theorem dX9_layOne_3 : decode cX9_layOne 3 = .ok (.istore_n 3, 1) := of_decide_eq_true (List.all_eq_true.mp dA_X9_layOne_0 (3, .istore_n 3, 1) (List.mem_of_getElem? (i := 3) rfl))
theorem dX9_layOne_4 : decode cX9_layOne 4 = .ok (.aload_n 0, 1) := of_decide_eq_true (List.all_eq_true.mp dA_X9_layOne_0 (4, .aload_n 0, 1) (List.mem_of_getElem? (i := 4) rfl))
theorem dX9_layOne_5 : decode cX9_layOne 5 = .ok (.bipush 31, 2) := of_decide_eq_true (List.all_eq_true.mp dA_X9_layOne_0 (5, .bipush 31, 2) (List.mem_of_getElem? (i := 5) rfl))
theorem dX9_layOne_7 : decode cX9_layOne 7 = .ok (.iload_n 3, 1) := of_decide_eq_true (List.all_eq_true.mp dA_X9_layOne_0 (7, .iload_n 3, 1) (List.mem_of_getElem? (i := 6) rfl))
theorem dX9_layOne_8 : decode cX9_layOne 8 = .ok (.iadd, 1) := of_decide_eq_true (List.all_eq_true.mp dA_X9_layOne_0 (8, .iadd, 1) (List.mem_of_getElem? (i := 7) rfl))
theorem dX9_layOne_9 : decode cX9_layOne 9 = .ok (.iload_n 1, 1) := of_decide_eq_true (List.all_eq_true.mp dA_X9_layOne_0 (9, .iload_n 1, 1) (List.mem_of_getElem? (i := 8) rfl))
theorem dX9_layOne_10 : decode cX9_layOne 10 = .ok (.iastore, 1) := of_decide_eq_true (List.all_eq_true.mp dA_X9_layOne_0 (10, .iastore, 1) (List.mem_of_getElem? (i := 9) rfl))
theorem dX9_layOne_11 : decode cX9_layOne 11 = .ok (.aload_n 0, 1) := of_decide_eq_true (List.all_eq_true.mp dA_X9_layOne_0 (11, .aload_n 0, 1) (List.mem_of_getElem? (i := 10) rfl))
theorem dX9_layOne_12 : decode cX9_layOne 12 = .ok (.iconst 5, 1) := of_decide_eq_true (List.all_eq_true.mp dA_X9_layOne_0 (12, .iconst 5, 1) (List.mem_of_getElem? (i := 11) rfl))
theorem dX9_layOne_13 : decode cX9_layOne 13 = .ok (.iload_n 3, 1) := of_decide_eq_true (List.all_eq_true.mp dA_X9_layOne_0 (13, .iload_n 3, 1) (List.mem_of_getElem? (i := 12) rfl))
theorem dX9_layOne_14 : decode cX9_layOne 14 = .ok (.iadd, 1) := of_decide_eq_true (List.all_eq_true.mp dA_X9_layOne_0 (14, .iadd, 1) (List.mem_of_getElem? (i := 13) rfl))
theorem dX9_layOne_15 : decode cX9_layOne 15 = .ok (.iload_n 2, 1) := of_decide_eq_true (List.all_eq_true.mp dA_X9_layOne_0 (15, .iload_n 2, 1) (List.mem_of_getElem? (i := 14) rfl))
theorem dX9_layOne_16 : decode cX9_layOne 16 = .ok (.iastore, 1) := of_decide_eq_true (List.all_eq_true.mp dA_X9_layOne_0 (16, .iastore, 1) (List.mem_of_getElem? (i := 15) rfl))
theorem dX9_layOne_17 : decode cX9_layOne 17 = .ok (.aload_n 0, 1) := of_decide_eq_true (List.all_eq_true.mp dA_X9_layOne_0 (17, .aload_n 0, 1) (List.mem_of_getElem? (i := 16) rfl))
theorem dX9_layOne_18 : decode cX9_layOne 18 = .ok (.bipush 12, 2) := of_decide_eq_true (List.all_eq_true.mp dA_X9_layOne_0 (18, .bipush 12, 2) (List.mem_of_getElem? (i := 17) rfl))
theorem dX9_layOne_20 : decode cX9_layOne 20 = .ok (.iload_n 3, 1) := of_decide_eq_true (List.all_eq_true.mp dA_X9_layOne_0 (20, .iload_n 3, 1) (List.mem_of_getElem? (i := 18) rfl))
theorem dX9_layOne_21 : decode cX9_layOne 21 = .ok (.iadd, 1) := of_decide_eq_true (List.all_eq_true.mp dA_X9_layOne_0 (21, .iadd, 1) (List.mem_of_getElem? (i := 19) rfl))
theorem dX9_layOne_22 : decode cX9_layOne 22 = .ok (.iconst 0, 1) := of_decide_eq_true (List.all_eq_true.mp dA_X9_layOne_0 (22, .iconst 0, 1) (List.mem_of_getElem? (i := 20) rfl))
theorem dX9_layOne_23 : decode cX9_layOne 23 = .ok (.iastore, 1) := of_decide_eq_true (List.all_eq_true.mp dA_X9_layOne_0 (23, .iastore, 1) (List.mem_of_getElem? (i := 21) rfl))
theorem dX9_layOne_24 : decode cX9_layOne 24 = .ok (.aload_n 0, 1) := of_decide_eq_true (List.all_eq_true.mp dA_X9_layOne_0 (24, .aload_n 0, 1) (List.mem_of_getElem? (i := 22) rfl))
theorem dX9_layOne_25 : decode cX9_layOne 25 = .ok (.iconst 0, 1) := of_decide_eq_true (List.all_eq_true.mp dA_X9_layOne_0 (25, .iconst 0, 1) (List.mem_of_getElem? (i := 23) rfl))
theorem dX9_layOne_26 : decode cX9_layOne 26 = .ok (.dup2, 1) := of_decide_eq_true (List.all_eq_true.mp dA_X9_layOne_0 (26, .dup2, 1) (List.mem_of_getElem? (i := 24) rfl))
theorem dX9_layOne_27 : decode cX9_layOne 27 = .ok (.iaload, 1) := of_decide_eq_true (List.all_eq_true.mp dA_X9_layOne_0 (27, .iaload, 1) (List.mem_of_getElem? (i := 25) rfl))
theorem dX9_layOne_28 : decode cX9_layOne 28 = .ok (.iconst 1, 1) := of_decide_eq_true (List.all_eq_true.mp dA_X9_layOne_0 (28, .iconst 1, 1) (List.mem_of_getElem? (i := 26) rfl))
theorem dX9_layOne_29 : decode cX9_layOne 29 = .ok (.iadd, 1) := of_decide_eq_true (List.all_eq_true.mp dA_X9_layOne_0 (29, .iadd, 1) (List.mem_of_getElem? (i := 27) rfl))
theorem dX9_layOne_30 : decode cX9_layOne 30 = .ok (.iastore, 1) := of_decide_eq_true (List.all_eq_true.mp dA_X9_layOne_0 (30, .iastore, 1) (List.mem_of_getElem? (i := 28) rfl))
theorem dX9_layOne_31 : decode cX9_layOne 31 = .ok (.return_, 1) := of_decide_eq_true (List.all_eq_true.mp dA_X9_layOne_0 (31, .return_, 1) (List.mem_of_getElem? (i := 29) rfl))
set_option maxRecDepth 20000 in
theorem ggX9_one_X9_isKind : GoodIn wsX9_one wsX9_isKind := goodIn_r _ [5, 6, 7, 8, 4, 9] (by decide +kernel) (by decide +kernel)
set_option maxRecDepth 20000 in
theorem gX9_one_X9_isKind : GoodIn wsX9_one (va_wsS RX9 69 yX9_isKind wsX9_isKind) := goodIn_app (goodIn_of _ (by decide +kernel)) ggX9_one_X9_isKind
set_option maxRecDepth 20000 in
theorem ggX9_one_X9_isWord : GoodIn wsX9_one wsX9_isWord := goodIn_r _ [12, 13, 7, 8, 4, 9] (by decide +kernel) (by decide +kernel)
set_option maxRecDepth 20000 in
theorem gX9_one_X9_isWord : GoodIn wsX9_one (va_wsS RX9 82 yX9_isWord wsX9_isWord) := goodIn_app (goodIn_of _ (by decide +kernel)) ggX9_one_X9_isWord
set_option maxRecDepth 20000 in
theorem ggX9_one_X9_bad : GoodIn wsX9_one wsX9_bad := goodIn_r _ [17, 18, 30, 31, 32, 33, 34, 35, 36, 37, 38, 39, 40, 41, 42, 43, 44, 45, 46, 47, 48] (by decide +kernel) (by decide +kernel)
set_option maxRecDepth 20000 in
theorem gX9_one_X9_bad : GoodIn wsX9_one (wsV RX9 75 RX9 yX9_bad wsX9_bad) := goodIn_app (goodIn_of _ (by decide +kernel)) ggX9_one_X9_bad
set_option maxRecDepth 20000 in
theorem ggX9_one_X9_many : GoodIn wsX9_one wsX9_many := goodIn_r _ [22, 1, 30, 31, 32, 33, 34, 35, 36, 37, 38, 39, 40, 41, 42, 43, 44, 45, 46, 47, 48] (by decide +kernel) (by decide +kernel)
set_option maxRecDepth 20000 in
theorem gX9_one_X9_many : GoodIn wsX9_one (wsV RX9 55 RX9 yX9_many wsX9_many) := goodIn_app (goodIn_of _ (by decide +kernel)) ggX9_one_X9_many
set_option maxRecDepth 20000 in
theorem ggX9_one_X9_full : GoodIn wsX9_one wsX9_full := goodIn_r _ [26, 18, 30, 31, 32, 33, 34, 35, 36, 37, 38, 39, 40, 41, 42, 43, 44, 45, 46, 47, 48] (by decide +kernel) (by decide +kernel)
set_option maxRecDepth 20000 in
theorem gX9_one_X9_full : GoodIn wsX9_one (wsV RX9 85 RX9 yX9_full wsX9_full) := goodIn_app (goodIn_of _ (by decide +kernel)) ggX9_one_X9_full
set_option maxRecDepth 20000 in
theorem ggX9_one_X9_layOne : GoodIn wsX9_one wsX9_layOne := goodIn_r _ [29] (by decide +kernel) (by decide +kernel)
set_option maxRecDepth 20000 in
theorem gX9_one_X9_layOne : GoodIn wsX9_one (va_wsS RX9 88 yX9_layOne wsX9_layOne) := goodIn_app (goodIn_of _ (by decide +kernel)) ggX9_one_X9_layOne
set_option maxRecDepth 20000 in
theorem dA_X9_one_0 : (([(0, .iload_n 1, 1), (1, .invokestatic 69, 3), (4, .ifCond .eq 10, 3), (7, .iload_n 2, 1), (8, .invokestatic 82, 3), (11, .ifCond .ne 10, 3), (14, .aload_n 0, 1), (15, .bipush (-2), 2), (17, .invokevirtual 75, 3), (20, .ireturn, 1), (21, .aload_n 0, 1), (22, .invokevirtual 55, 3), (25, .bipush 7, 2), (27, .if_icmp .ne 8, 3), (30, .aload_n 0, 1), (31, .invokevirtual 85, 3), (34, .ireturn, 1), (35, .aload_n 0, 1), (36, .getfield 7, 3), (39, .iload_n 1, 1), (40, .iload_n 2, 1), (41, .invokestatic 88, 3), (44, .aload_n 0, 1), (45, .getfield 7, 3), (48, .iconst 4, 1), (49, .iconst 0, 1), (50, .iastore, 1), (51, .aload_n 0, 1), (52, .invokevirtual 55, 3), (55, .iconst 1, 1), (56, .isub, 1), (57, .ireturn, 1)] : List (Nat × Instr × Nat)).all fun q => decide (decode cX9_one q.1 = .ok (q.2.1, q.2.2))) = true := by decide +kernel
theorem dX9_one_0 : decode cX9_one 0 = .ok (.iload_n 1, 1) := of_decide_eq_true (List.all_eq_true.mp dA_X9_one_0 (0, .iload_n 1, 1) (List.mem_of_getElem? (i := 0) rfl))
theorem dX9_one_1 : decode cX9_one 1 = .ok (.invokestatic 69, 3) := of_decide_eq_true (List.all_eq_true.mp dA_X9_one_0 (1, .invokestatic 69, 3) (List.mem_of_getElem? (i := 1) rfl))
theorem dX9_one_4 : decode cX9_one 4 = .ok (.ifCond .eq 10, 3) := of_decide_eq_true (List.all_eq_true.mp dA_X9_one_0 (4, .ifCond .eq 10, 3) (List.mem_of_getElem? (i := 2) rfl))
theorem dX9_one_7 : decode cX9_one 7 = .ok (.iload_n 2, 1) := of_decide_eq_true (List.all_eq_true.mp dA_X9_one_0 (7, .iload_n 2, 1) (List.mem_of_getElem? (i := 3) rfl))
theorem dX9_one_8 : decode cX9_one 8 = .ok (.invokestatic 82, 3) := of_decide_eq_true (List.all_eq_true.mp dA_X9_one_0 (8, .invokestatic 82, 3) (List.mem_of_getElem? (i := 4) rfl))
theorem dX9_one_11 : decode cX9_one 11 = .ok (.ifCond .ne 10, 3) := of_decide_eq_true (List.all_eq_true.mp dA_X9_one_0 (11, .ifCond .ne 10, 3) (List.mem_of_getElem? (i := 5) rfl))
theorem dX9_one_14 : decode cX9_one 14 = .ok (.aload_n 0, 1) := of_decide_eq_true (List.all_eq_true.mp dA_X9_one_0 (14, .aload_n 0, 1) (List.mem_of_getElem? (i := 6) rfl))
theorem dX9_one_15 : decode cX9_one 15 = .ok (.bipush (-2), 2) := of_decide_eq_true (List.all_eq_true.mp dA_X9_one_0 (15, .bipush (-2), 2) (List.mem_of_getElem? (i := 7) rfl))
theorem dX9_one_17 : decode cX9_one 17 = .ok (.invokevirtual 75, 3) := of_decide_eq_true (List.all_eq_true.mp dA_X9_one_0 (17, .invokevirtual 75, 3) (List.mem_of_getElem? (i := 8) rfl))
theorem dX9_one_20 : decode cX9_one 20 = .ok (.ireturn, 1) := of_decide_eq_true (List.all_eq_true.mp dA_X9_one_0 (20, .ireturn, 1) (List.mem_of_getElem? (i := 9) rfl))
theorem dX9_one_21 : decode cX9_one 21 = .ok (.aload_n 0, 1) := of_decide_eq_true (List.all_eq_true.mp dA_X9_one_0 (21, .aload_n 0, 1) (List.mem_of_getElem? (i := 10) rfl))
theorem dX9_one_22 : decode cX9_one 22 = .ok (.invokevirtual 55, 3) := of_decide_eq_true (List.all_eq_true.mp dA_X9_one_0 (22, .invokevirtual 55, 3) (List.mem_of_getElem? (i := 11) rfl))
theorem dX9_one_25 : decode cX9_one 25 = .ok (.bipush 7, 2) := of_decide_eq_true (List.all_eq_true.mp dA_X9_one_0 (25, .bipush 7, 2) (List.mem_of_getElem? (i := 12) rfl))
theorem dX9_one_27 : decode cX9_one 27 = .ok (.if_icmp .ne 8, 3) := of_decide_eq_true (List.all_eq_true.mp dA_X9_one_0 (27, .if_icmp .ne 8, 3) (List.mem_of_getElem? (i := 13) rfl))
theorem dX9_one_30 : decode cX9_one 30 = .ok (.aload_n 0, 1) := of_decide_eq_true (List.all_eq_true.mp dA_X9_one_0 (30, .aload_n 0, 1) (List.mem_of_getElem? (i := 14) rfl))
theorem dX9_one_31 : decode cX9_one 31 = .ok (.invokevirtual 85, 3) := of_decide_eq_true (List.all_eq_true.mp dA_X9_one_0 (31, .invokevirtual 85, 3) (List.mem_of_getElem? (i := 15) rfl))
theorem dX9_one_34 : decode cX9_one 34 = .ok (.ireturn, 1) := of_decide_eq_true (List.all_eq_true.mp dA_X9_one_0 (34, .ireturn, 1) (List.mem_of_getElem? (i := 16) rfl))
theorem dX9_one_35 : decode cX9_one 35 = .ok (.aload_n 0, 1) := of_decide_eq_true (List.all_eq_true.mp dA_X9_one_0 (35, .aload_n 0, 1) (List.mem_of_getElem? (i := 17) rfl))
theorem dX9_one_36 : decode cX9_one 36 = .ok (.getfield 7, 3) := of_decide_eq_true (List.all_eq_true.mp dA_X9_one_0 (36, .getfield 7, 3) (List.mem_of_getElem? (i := 18) rfl))
theorem dX9_one_39 : decode cX9_one 39 = .ok (.iload_n 1, 1) := of_decide_eq_true (List.all_eq_true.mp dA_X9_one_0 (39, .iload_n 1, 1) (List.mem_of_getElem? (i := 19) rfl))
theorem dX9_one_40 : decode cX9_one 40 = .ok (.iload_n 2, 1) := of_decide_eq_true (List.all_eq_true.mp dA_X9_one_0 (40, .iload_n 2, 1) (List.mem_of_getElem? (i := 20) rfl))
theorem dX9_one_41 : decode cX9_one 41 = .ok (.invokestatic 88, 3) := of_decide_eq_true (List.all_eq_true.mp dA_X9_one_0 (41, .invokestatic 88, 3) (List.mem_of_getElem? (i := 21) rfl))
theorem dX9_one_44 : decode cX9_one 44 = .ok (.aload_n 0, 1) := of_decide_eq_true (List.all_eq_true.mp dA_X9_one_0 (44, .aload_n 0, 1) (List.mem_of_getElem? (i := 22) rfl))
theorem dX9_one_45 : decode cX9_one 45 = .ok (.getfield 7, 3) := of_decide_eq_true (List.all_eq_true.mp dA_X9_one_0 (45, .getfield 7, 3) (List.mem_of_getElem? (i := 23) rfl))
theorem dX9_one_48 : decode cX9_one 48 = .ok (.iconst 4, 1) := of_decide_eq_true (List.all_eq_true.mp dA_X9_one_0 (48, .iconst 4, 1) (List.mem_of_getElem? (i := 24) rfl))
theorem dX9_one_49 : decode cX9_one 49 = .ok (.iconst 0, 1) := of_decide_eq_true (List.all_eq_true.mp dA_X9_one_0 (49, .iconst 0, 1) (List.mem_of_getElem? (i := 25) rfl))
theorem dX9_one_50 : decode cX9_one 50 = .ok (.iastore, 1) := of_decide_eq_true (List.all_eq_true.mp dA_X9_one_0 (50, .iastore, 1) (List.mem_of_getElem? (i := 26) rfl))
theorem dX9_one_51 : decode cX9_one 51 = .ok (.aload_n 0, 1) := of_decide_eq_true (List.all_eq_true.mp dA_X9_one_0 (51, .aload_n 0, 1) (List.mem_of_getElem? (i := 27) rfl))
theorem dX9_one_52 : decode cX9_one 52 = .ok (.invokevirtual 55, 3) := of_decide_eq_true (List.all_eq_true.mp dA_X9_one_0 (52, .invokevirtual 55, 3) (List.mem_of_getElem? (i := 28) rfl))
theorem dX9_one_55 : decode cX9_one 55 = .ok (.iconst 1, 1) := of_decide_eq_true (List.all_eq_true.mp dA_X9_one_0 (55, .iconst 1, 1) (List.mem_of_getElem? (i := 29) rfl))
theorem dX9_one_56 : decode cX9_one 56 = .ok (.isub, 1) := of_decide_eq_true (List.all_eq_true.mp dA_X9_one_0 (56, .isub, 1) (List.mem_of_getElem? (i := 30) rfl))
theorem dX9_one_57 : decode cX9_one 57 = .ok (.ireturn, 1) := of_decide_eq_true (List.all_eq_true.mp dA_X9_one_0 (57, .ireturn, 1) (List.mem_of_getElem? (i := 31) rfl))
set_option maxRecDepth 20000 in
theorem dA_X9_likelyAs_0 : (([(0, .iconst 2, 1), (1, .iload_n 1, 1), (2, .imul, 1), (3, .iload_n 2, 1), (4, .iadd, 1), (5, .istore 4, 2), (7, .iload 4, 2), (9, .iconst 2, 1), (10, .idiv, 1), (11, .istore 5, 2), (13, .iload_n 0, 1), (14, .tableswitch 96 1 5 #[34, 39, 42, 63, 80], 34), (48, .iload 4, 2), (50, .iconst 4, 1), (51, .iadd, 1), (52, .ireturn, 1), (53, .iload 5, 2), (55, .ireturn, 1), (56, .iload_n 3, 1), (57, .bipush 7, 2), (59, .irem, 1), (60, .iconst 4, 1), (61, .if_icmp .ne 11, 3), (64, .iload 4, 2), (66, .bipush 10, 2), (68, .iadd, 1), (69, .goto 7, 3), (72, .iload 4, 2), (74, .iconst 4, 1), (75, .iadd, 1), (76, .ireturn, 1), (77, .iload_n 1, 1), (78, .ifCond .ne 13, 3), (81, .iload 4, 2), (83, .iconst 3, 1), (84, .if_icmp .le 7, 3), (87, .iconst 3, 1), (88, .goto 5, 3), (91, .iload 4, 2), (93, .ireturn, 1)] : List (Nat × Instr × Nat)).all fun q => decide (decode cX9_likelyAs q.1 = .ok (q.2.1, q.2.2))) = true := by decide +kernel
theorem dX9_likelyAs_0 : decode cX9_likelyAs 0 = .ok (.iconst 2, 1) := of_decide_eq_true (List.all_eq_true.mp dA_X9_likelyAs_0 (0, .iconst 2, 1) (List.mem_of_getElem? (i := 0) rfl))
theorem dX9_likelyAs_1 : decode cX9_likelyAs 1 = .ok (.iload_n 1, 1) := of_decide_eq_true (List.all_eq_true.mp dA_X9_likelyAs_0 (1, .iload_n 1, 1) (List.mem_of_getElem? (i := 1) rfl))
theorem dX9_likelyAs_2 : decode cX9_likelyAs 2 = .ok (.imul, 1) := of_decide_eq_true (List.all_eq_true.mp dA_X9_likelyAs_0 (2, .imul, 1) (List.mem_of_getElem? (i := 2) rfl))
theorem dX9_likelyAs_3 : decode cX9_likelyAs 3 = .ok (.iload_n 2, 1) := of_decide_eq_true (List.all_eq_true.mp dA_X9_likelyAs_0 (3, .iload_n 2, 1) (List.mem_of_getElem? (i := 3) rfl))
theorem dX9_likelyAs_4 : decode cX9_likelyAs 4 = .ok (.iadd, 1) := of_decide_eq_true (List.all_eq_true.mp dA_X9_likelyAs_0 (4, .iadd, 1) (List.mem_of_getElem? (i := 4) rfl))
theorem dX9_likelyAs_5 : decode cX9_likelyAs 5 = .ok (.istore 4, 2) := of_decide_eq_true (List.all_eq_true.mp dA_X9_likelyAs_0 (5, .istore 4, 2) (List.mem_of_getElem? (i := 5) rfl))
theorem dX9_likelyAs_7 : decode cX9_likelyAs 7 = .ok (.iload 4, 2) := of_decide_eq_true (List.all_eq_true.mp dA_X9_likelyAs_0 (7, .iload 4, 2) (List.mem_of_getElem? (i := 6) rfl))
theorem dX9_likelyAs_9 : decode cX9_likelyAs 9 = .ok (.iconst 2, 1) := of_decide_eq_true (List.all_eq_true.mp dA_X9_likelyAs_0 (9, .iconst 2, 1) (List.mem_of_getElem? (i := 7) rfl))
theorem dX9_likelyAs_10 : decode cX9_likelyAs 10 = .ok (.idiv, 1) := of_decide_eq_true (List.all_eq_true.mp dA_X9_likelyAs_0 (10, .idiv, 1) (List.mem_of_getElem? (i := 8) rfl))
theorem dX9_likelyAs_11 : decode cX9_likelyAs 11 = .ok (.istore 5, 2) := of_decide_eq_true (List.all_eq_true.mp dA_X9_likelyAs_0 (11, .istore 5, 2) (List.mem_of_getElem? (i := 9) rfl))
theorem dX9_likelyAs_13 : decode cX9_likelyAs 13 = .ok (.iload_n 0, 1) := of_decide_eq_true (List.all_eq_true.mp dA_X9_likelyAs_0 (13, .iload_n 0, 1) (List.mem_of_getElem? (i := 10) rfl))
theorem dX9_likelyAs_14 : decode cX9_likelyAs 14 = .ok (.tableswitch 96 1 5 #[34, 39, 42, 63, 80], 34) := of_decide_eq_true (List.all_eq_true.mp dA_X9_likelyAs_0 (14, .tableswitch 96 1 5 #[34, 39, 42, 63, 80], 34) (List.mem_of_getElem? (i := 11) rfl))
theorem dX9_likelyAs_48 : decode cX9_likelyAs 48 = .ok (.iload 4, 2) := of_decide_eq_true (List.all_eq_true.mp dA_X9_likelyAs_0 (48, .iload 4, 2) (List.mem_of_getElem? (i := 12) rfl))
theorem dX9_likelyAs_50 : decode cX9_likelyAs 50 = .ok (.iconst 4, 1) := of_decide_eq_true (List.all_eq_true.mp dA_X9_likelyAs_0 (50, .iconst 4, 1) (List.mem_of_getElem? (i := 13) rfl))
theorem dX9_likelyAs_51 : decode cX9_likelyAs 51 = .ok (.iadd, 1) := of_decide_eq_true (List.all_eq_true.mp dA_X9_likelyAs_0 (51, .iadd, 1) (List.mem_of_getElem? (i := 14) rfl))
theorem dX9_likelyAs_52 : decode cX9_likelyAs 52 = .ok (.ireturn, 1) := of_decide_eq_true (List.all_eq_true.mp dA_X9_likelyAs_0 (52, .ireturn, 1) (List.mem_of_getElem? (i := 15) rfl))
theorem dX9_likelyAs_53 : decode cX9_likelyAs 53 = .ok (.iload 5, 2) := of_decide_eq_true (List.all_eq_true.mp dA_X9_likelyAs_0 (53, .iload 5, 2) (List.mem_of_getElem? (i := 16) rfl))
theorem dX9_likelyAs_55 : decode cX9_likelyAs 55 = .ok (.ireturn, 1) := of_decide_eq_true (List.all_eq_true.mp dA_X9_likelyAs_0 (55, .ireturn, 1) (List.mem_of_getElem? (i := 17) rfl))
theorem dX9_likelyAs_56 : decode cX9_likelyAs 56 = .ok (.iload_n 3, 1) := of_decide_eq_true (List.all_eq_true.mp dA_X9_likelyAs_0 (56, .iload_n 3, 1) (List.mem_of_getElem? (i := 18) rfl))
theorem dX9_likelyAs_57 : decode cX9_likelyAs 57 = .ok (.bipush 7, 2) := of_decide_eq_true (List.all_eq_true.mp dA_X9_likelyAs_0 (57, .bipush 7, 2) (List.mem_of_getElem? (i := 19) rfl))
theorem dX9_likelyAs_59 : decode cX9_likelyAs 59 = .ok (.irem, 1) := of_decide_eq_true (List.all_eq_true.mp dA_X9_likelyAs_0 (59, .irem, 1) (List.mem_of_getElem? (i := 20) rfl))
theorem dX9_likelyAs_60 : decode cX9_likelyAs 60 = .ok (.iconst 4, 1) := of_decide_eq_true (List.all_eq_true.mp dA_X9_likelyAs_0 (60, .iconst 4, 1) (List.mem_of_getElem? (i := 21) rfl))
theorem dX9_likelyAs_61 : decode cX9_likelyAs 61 = .ok (.if_icmp .ne 11, 3) := of_decide_eq_true (List.all_eq_true.mp dA_X9_likelyAs_0 (61, .if_icmp .ne 11, 3) (List.mem_of_getElem? (i := 22) rfl))
theorem dX9_likelyAs_64 : decode cX9_likelyAs 64 = .ok (.iload 4, 2) := of_decide_eq_true (List.all_eq_true.mp dA_X9_likelyAs_0 (64, .iload 4, 2) (List.mem_of_getElem? (i := 23) rfl))
theorem dX9_likelyAs_66 : decode cX9_likelyAs 66 = .ok (.bipush 10, 2) := of_decide_eq_true (List.all_eq_true.mp dA_X9_likelyAs_0 (66, .bipush 10, 2) (List.mem_of_getElem? (i := 24) rfl))
theorem dX9_likelyAs_68 : decode cX9_likelyAs 68 = .ok (.iadd, 1) := of_decide_eq_true (List.all_eq_true.mp dA_X9_likelyAs_0 (68, .iadd, 1) (List.mem_of_getElem? (i := 25) rfl))
theorem dX9_likelyAs_69 : decode cX9_likelyAs 69 = .ok (.goto 7, 3) := of_decide_eq_true (List.all_eq_true.mp dA_X9_likelyAs_0 (69, .goto 7, 3) (List.mem_of_getElem? (i := 26) rfl))
theorem dX9_likelyAs_72 : decode cX9_likelyAs 72 = .ok (.iload 4, 2) := of_decide_eq_true (List.all_eq_true.mp dA_X9_likelyAs_0 (72, .iload 4, 2) (List.mem_of_getElem? (i := 27) rfl))
theorem dX9_likelyAs_74 : decode cX9_likelyAs 74 = .ok (.iconst 4, 1) := of_decide_eq_true (List.all_eq_true.mp dA_X9_likelyAs_0 (74, .iconst 4, 1) (List.mem_of_getElem? (i := 28) rfl))
theorem dX9_likelyAs_75 : decode cX9_likelyAs 75 = .ok (.iadd, 1) := of_decide_eq_true (List.all_eq_true.mp dA_X9_likelyAs_0 (75, .iadd, 1) (List.mem_of_getElem? (i := 29) rfl))
theorem dX9_likelyAs_76 : decode cX9_likelyAs 76 = .ok (.ireturn, 1) := of_decide_eq_true (List.all_eq_true.mp dA_X9_likelyAs_0 (76, .ireturn, 1) (List.mem_of_getElem? (i := 30) rfl))
theorem dX9_likelyAs_77 : decode cX9_likelyAs 77 = .ok (.iload_n 1, 1) := of_decide_eq_true (List.all_eq_true.mp dA_X9_likelyAs_0 (77, .iload_n 1, 1) (List.mem_of_getElem? (i := 31) rfl))
theorem dX9_likelyAs_78 : decode cX9_likelyAs 78 = .ok (.ifCond .ne 13, 3) := of_decide_eq_true (List.all_eq_true.mp dA_X9_likelyAs_0 (78, .ifCond .ne 13, 3) (List.mem_of_getElem? (i := 32) rfl))
theorem dX9_likelyAs_81 : decode cX9_likelyAs 81 = .ok (.iload 4, 2) := of_decide_eq_true (List.all_eq_true.mp dA_X9_likelyAs_0 (81, .iload 4, 2) (List.mem_of_getElem? (i := 33) rfl))
theorem dX9_likelyAs_83 : decode cX9_likelyAs 83 = .ok (.iconst 3, 1) := of_decide_eq_true (List.all_eq_true.mp dA_X9_likelyAs_0 (83, .iconst 3, 1) (List.mem_of_getElem? (i := 34) rfl))
theorem dX9_likelyAs_84 : decode cX9_likelyAs 84 = .ok (.if_icmp .le 7, 3) := of_decide_eq_true (List.all_eq_true.mp dA_X9_likelyAs_0 (84, .if_icmp .le 7, 3) (List.mem_of_getElem? (i := 35) rfl))
theorem dX9_likelyAs_87 : decode cX9_likelyAs 87 = .ok (.iconst 3, 1) := of_decide_eq_true (List.all_eq_true.mp dA_X9_likelyAs_0 (87, .iconst 3, 1) (List.mem_of_getElem? (i := 36) rfl))
theorem dX9_likelyAs_88 : decode cX9_likelyAs 88 = .ok (.goto 5, 3) := of_decide_eq_true (List.all_eq_true.mp dA_X9_likelyAs_0 (88, .goto 5, 3) (List.mem_of_getElem? (i := 37) rfl))
theorem dX9_likelyAs_91 : decode cX9_likelyAs 91 = .ok (.iload 4, 2) := of_decide_eq_true (List.all_eq_true.mp dA_X9_likelyAs_0 (91, .iload 4, 2) (List.mem_of_getElem? (i := 38) rfl))
theorem dX9_likelyAs_93 : decode cX9_likelyAs 93 = .ok (.ireturn, 1) := of_decide_eq_true (List.all_eq_true.mp dA_X9_likelyAs_0 (93, .ireturn, 1) (List.mem_of_getElem? (i := 39) rfl))
set_option maxRecDepth 20000 in
theorem dA_X9_likelyAs_94 : (([(94, .iload_n 2, 1), (95, .iconst 2, 1), (96, .if_icmp .lt 11, 3), (99, .iload 5, 2), (101, .bipush 9, 2), (103, .iadd, 1), (104, .goto 5, 3), (107, .iload 5, 2), (109, .ireturn, 1), (110, .iload 4, 2), (112, .ireturn, 1)] : List (Nat × Instr × Nat)).all fun q => decide (decode cX9_likelyAs q.1 = .ok (q.2.1, q.2.2))) = true := by decide +kernel
theorem dX9_likelyAs_94 : decode cX9_likelyAs 94 = .ok (.iload_n 2, 1) := of_decide_eq_true (List.all_eq_true.mp dA_X9_likelyAs_94 (94, .iload_n 2, 1) (List.mem_of_getElem? (i := 0) rfl))
theorem dX9_likelyAs_95 : decode cX9_likelyAs 95 = .ok (.iconst 2, 1) := of_decide_eq_true (List.all_eq_true.mp dA_X9_likelyAs_94 (95, .iconst 2, 1) (List.mem_of_getElem? (i := 1) rfl))
theorem dX9_likelyAs_96 : decode cX9_likelyAs 96 = .ok (.if_icmp .lt 11, 3) := of_decide_eq_true (List.all_eq_true.mp dA_X9_likelyAs_94 (96, .if_icmp .lt 11, 3) (List.mem_of_getElem? (i := 2) rfl))
theorem dX9_likelyAs_99 : decode cX9_likelyAs 99 = .ok (.iload 5, 2) := of_decide_eq_true (List.all_eq_true.mp dA_X9_likelyAs_94 (99, .iload 5, 2) (List.mem_of_getElem? (i := 3) rfl))
theorem dX9_likelyAs_101 : decode cX9_likelyAs 101 = .ok (.bipush 9, 2) := of_decide_eq_true (List.all_eq_true.mp dA_X9_likelyAs_94 (101, .bipush 9, 2) (List.mem_of_getElem? (i := 4) rfl))
theorem dX9_likelyAs_103 : decode cX9_likelyAs 103 = .ok (.iadd, 1) := of_decide_eq_true (List.all_eq_true.mp dA_X9_likelyAs_94 (103, .iadd, 1) (List.mem_of_getElem? (i := 5) rfl))
theorem dX9_likelyAs_104 : decode cX9_likelyAs 104 = .ok (.goto 5, 3) := of_decide_eq_true (List.all_eq_true.mp dA_X9_likelyAs_94 (104, .goto 5, 3) (List.mem_of_getElem? (i := 6) rfl))
theorem dX9_likelyAs_107 : decode cX9_likelyAs 107 = .ok (.iload 5, 2) := of_decide_eq_true (List.all_eq_true.mp dA_X9_likelyAs_94 (107, .iload 5, 2) (List.mem_of_getElem? (i := 7) rfl))
theorem dX9_likelyAs_109 : decode cX9_likelyAs 109 = .ok (.ireturn, 1) := of_decide_eq_true (List.all_eq_true.mp dA_X9_likelyAs_94 (109, .ireturn, 1) (List.mem_of_getElem? (i := 8) rfl))
theorem dX9_likelyAs_110 : decode cX9_likelyAs 110 = .ok (.iload 4, 2) := of_decide_eq_true (List.all_eq_true.mp dA_X9_likelyAs_94 (110, .iload 4, 2) (List.mem_of_getElem? (i := 9) rfl))
theorem dX9_likelyAs_112 : decode cX9_likelyAs 112 = .ok (.ireturn, 1) := of_decide_eq_true (List.all_eq_true.mp dA_X9_likelyAs_94 (112, .ireturn, 1) (List.mem_of_getElem? (i := 10) rfl))
set_option maxRecDepth 20000 in
theorem dA_X9_passesAs_0 : (([(0, .bipush 8, 2), (2, .iload_n 2, 1), (3, .isub, 1), (4, .istore_n 3, 1), (5, .iload_n 3, 1), (6, .iconst 3, 1), (7, .isub, 1), (8, .istore 4, 2), (10, .iload_n 0, 1), (11, .tableswitch 73 1 5 #[33, 36, 40, 45, 59], 33), (44, .iload 4, 2), (46, .ireturn, 1), (47, .iload_n 3, 1), (48, .iload_n 1, 1), (49, .iadd, 1), (50, .ireturn, 1), (51, .iload 4, 2), (53, .iload_n 1, 1), (54, .isub, 1), (55, .ireturn, 1), (56, .iload_n 1, 1), (57, .iconst 4, 1), (58, .if_icmp .ne 8, 3), (61, .bipush 99, 2), (63, .goto 6, 3), (66, .iload_n 3, 1), (67, .iload_n 1, 1), (68, .iadd, 1), (69, .ireturn, 1), (70, .iload_n 2, 1), (71, .ifCond .ne 10, 3), (74, .iconst 2, 1), (75, .iload 4, 2), (77, .imul, 1), (78, .goto 5, 3), (81, .iload 4, 2), (83, .ireturn, 1), (84, .iload_n 3, 1), (85, .ireturn, 1)] : List (Nat × Instr × Nat)).all fun q => decide (decode cX9_passesAs q.1 = .ok (q.2.1, q.2.2))) = true := by decide +kernel
theorem dX9_passesAs_0 : decode cX9_passesAs 0 = .ok (.bipush 8, 2) := of_decide_eq_true (List.all_eq_true.mp dA_X9_passesAs_0 (0, .bipush 8, 2) (List.mem_of_getElem? (i := 0) rfl))
theorem dX9_passesAs_2 : decode cX9_passesAs 2 = .ok (.iload_n 2, 1) := of_decide_eq_true (List.all_eq_true.mp dA_X9_passesAs_0 (2, .iload_n 2, 1) (List.mem_of_getElem? (i := 1) rfl))
theorem dX9_passesAs_3 : decode cX9_passesAs 3 = .ok (.isub, 1) := of_decide_eq_true (List.all_eq_true.mp dA_X9_passesAs_0 (3, .isub, 1) (List.mem_of_getElem? (i := 2) rfl))
theorem dX9_passesAs_4 : decode cX9_passesAs 4 = .ok (.istore_n 3, 1) := of_decide_eq_true (List.all_eq_true.mp dA_X9_passesAs_0 (4, .istore_n 3, 1) (List.mem_of_getElem? (i := 3) rfl))
theorem dX9_passesAs_5 : decode cX9_passesAs 5 = .ok (.iload_n 3, 1) := of_decide_eq_true (List.all_eq_true.mp dA_X9_passesAs_0 (5, .iload_n 3, 1) (List.mem_of_getElem? (i := 4) rfl))
theorem dX9_passesAs_6 : decode cX9_passesAs 6 = .ok (.iconst 3, 1) := of_decide_eq_true (List.all_eq_true.mp dA_X9_passesAs_0 (6, .iconst 3, 1) (List.mem_of_getElem? (i := 5) rfl))
theorem dX9_passesAs_7 : decode cX9_passesAs 7 = .ok (.isub, 1) := of_decide_eq_true (List.all_eq_true.mp dA_X9_passesAs_0 (7, .isub, 1) (List.mem_of_getElem? (i := 6) rfl))
theorem dX9_passesAs_8 : decode cX9_passesAs 8 = .ok (.istore 4, 2) := of_decide_eq_true (List.all_eq_true.mp dA_X9_passesAs_0 (8, .istore 4, 2) (List.mem_of_getElem? (i := 7) rfl))
theorem dX9_passesAs_10 : decode cX9_passesAs 10 = .ok (.iload_n 0, 1) := of_decide_eq_true (List.all_eq_true.mp dA_X9_passesAs_0 (10, .iload_n 0, 1) (List.mem_of_getElem? (i := 8) rfl))
theorem dX9_passesAs_11 : decode cX9_passesAs 11 = .ok (.tableswitch 73 1 5 #[33, 36, 40, 45, 59], 33) := of_decide_eq_true (List.all_eq_true.mp dA_X9_passesAs_0 (11, .tableswitch 73 1 5 #[33, 36, 40, 45, 59], 33) (List.mem_of_getElem? (i := 9) rfl))
theorem dX9_passesAs_44 : decode cX9_passesAs 44 = .ok (.iload 4, 2) := of_decide_eq_true (List.all_eq_true.mp dA_X9_passesAs_0 (44, .iload 4, 2) (List.mem_of_getElem? (i := 10) rfl))
theorem dX9_passesAs_46 : decode cX9_passesAs 46 = .ok (.ireturn, 1) := of_decide_eq_true (List.all_eq_true.mp dA_X9_passesAs_0 (46, .ireturn, 1) (List.mem_of_getElem? (i := 11) rfl))
theorem dX9_passesAs_47 : decode cX9_passesAs 47 = .ok (.iload_n 3, 1) := of_decide_eq_true (List.all_eq_true.mp dA_X9_passesAs_0 (47, .iload_n 3, 1) (List.mem_of_getElem? (i := 12) rfl))
theorem dX9_passesAs_48 : decode cX9_passesAs 48 = .ok (.iload_n 1, 1) := of_decide_eq_true (List.all_eq_true.mp dA_X9_passesAs_0 (48, .iload_n 1, 1) (List.mem_of_getElem? (i := 13) rfl))
theorem dX9_passesAs_49 : decode cX9_passesAs 49 = .ok (.iadd, 1) := of_decide_eq_true (List.all_eq_true.mp dA_X9_passesAs_0 (49, .iadd, 1) (List.mem_of_getElem? (i := 14) rfl))
theorem dX9_passesAs_50 : decode cX9_passesAs 50 = .ok (.ireturn, 1) := of_decide_eq_true (List.all_eq_true.mp dA_X9_passesAs_0 (50, .ireturn, 1) (List.mem_of_getElem? (i := 15) rfl))
theorem dX9_passesAs_51 : decode cX9_passesAs 51 = .ok (.iload 4, 2) := of_decide_eq_true (List.all_eq_true.mp dA_X9_passesAs_0 (51, .iload 4, 2) (List.mem_of_getElem? (i := 16) rfl))
theorem dX9_passesAs_53 : decode cX9_passesAs 53 = .ok (.iload_n 1, 1) := of_decide_eq_true (List.all_eq_true.mp dA_X9_passesAs_0 (53, .iload_n 1, 1) (List.mem_of_getElem? (i := 17) rfl))
theorem dX9_passesAs_54 : decode cX9_passesAs 54 = .ok (.isub, 1) := of_decide_eq_true (List.all_eq_true.mp dA_X9_passesAs_0 (54, .isub, 1) (List.mem_of_getElem? (i := 18) rfl))
theorem dX9_passesAs_55 : decode cX9_passesAs 55 = .ok (.ireturn, 1) := of_decide_eq_true (List.all_eq_true.mp dA_X9_passesAs_0 (55, .ireturn, 1) (List.mem_of_getElem? (i := 19) rfl))
theorem dX9_passesAs_56 : decode cX9_passesAs 56 = .ok (.iload_n 1, 1) := of_decide_eq_true (List.all_eq_true.mp dA_X9_passesAs_0 (56, .iload_n 1, 1) (List.mem_of_getElem? (i := 20) rfl))
theorem dX9_passesAs_57 : decode cX9_passesAs 57 = .ok (.iconst 4, 1) := of_decide_eq_true (List.all_eq_true.mp dA_X9_passesAs_0 (57, .iconst 4, 1) (List.mem_of_getElem? (i := 21) rfl))
theorem dX9_passesAs_58 : decode cX9_passesAs 58 = .ok (.if_icmp .ne 8, 3) := of_decide_eq_true (List.all_eq_true.mp dA_X9_passesAs_0 (58, .if_icmp .ne 8, 3) (List.mem_of_getElem? (i := 22) rfl))
theorem dX9_passesAs_61 : decode cX9_passesAs 61 = .ok (.bipush 99, 2) := of_decide_eq_true (List.all_eq_true.mp dA_X9_passesAs_0 (61, .bipush 99, 2) (List.mem_of_getElem? (i := 23) rfl))
theorem dX9_passesAs_63 : decode cX9_passesAs 63 = .ok (.goto 6, 3) := of_decide_eq_true (List.all_eq_true.mp dA_X9_passesAs_0 (63, .goto 6, 3) (List.mem_of_getElem? (i := 24) rfl))
theorem dX9_passesAs_66 : decode cX9_passesAs 66 = .ok (.iload_n 3, 1) := of_decide_eq_true (List.all_eq_true.mp dA_X9_passesAs_0 (66, .iload_n 3, 1) (List.mem_of_getElem? (i := 25) rfl))
theorem dX9_passesAs_67 : decode cX9_passesAs 67 = .ok (.iload_n 1, 1) := of_decide_eq_true (List.all_eq_true.mp dA_X9_passesAs_0 (67, .iload_n 1, 1) (List.mem_of_getElem? (i := 26) rfl))
theorem dX9_passesAs_68 : decode cX9_passesAs 68 = .ok (.iadd, 1) := of_decide_eq_true (List.all_eq_true.mp dA_X9_passesAs_0 (68, .iadd, 1) (List.mem_of_getElem? (i := 27) rfl))
theorem dX9_passesAs_69 : decode cX9_passesAs 69 = .ok (.ireturn, 1) := of_decide_eq_true (List.all_eq_true.mp dA_X9_passesAs_0 (69, .ireturn, 1) (List.mem_of_getElem? (i := 28) rfl))
theorem dX9_passesAs_70 : decode cX9_passesAs 70 = .ok (.iload_n 2, 1) := of_decide_eq_true (List.all_eq_true.mp dA_X9_passesAs_0 (70, .iload_n 2, 1) (List.mem_of_getElem? (i := 29) rfl))
theorem dX9_passesAs_71 : decode cX9_passesAs 71 = .ok (.ifCond .ne 10, 3) := of_decide_eq_true (List.all_eq_true.mp dA_X9_passesAs_0 (71, .ifCond .ne 10, 3) (List.mem_of_getElem? (i := 30) rfl))
theorem dX9_passesAs_74 : decode cX9_passesAs 74 = .ok (.iconst 2, 1) := of_decide_eq_true (List.all_eq_true.mp dA_X9_passesAs_0 (74, .iconst 2, 1) (List.mem_of_getElem? (i := 31) rfl))
theorem dX9_passesAs_75 : decode cX9_passesAs 75 = .ok (.iload 4, 2) := of_decide_eq_true (List.all_eq_true.mp dA_X9_passesAs_0 (75, .iload 4, 2) (List.mem_of_getElem? (i := 32) rfl))
theorem dX9_passesAs_77 : decode cX9_passesAs 77 = .ok (.imul, 1) := of_decide_eq_true (List.all_eq_true.mp dA_X9_passesAs_0 (77, .imul, 1) (List.mem_of_getElem? (i := 33) rfl))
theorem dX9_passesAs_78 : decode cX9_passesAs 78 = .ok (.goto 5, 3) := of_decide_eq_true (List.all_eq_true.mp dA_X9_passesAs_0 (78, .goto 5, 3) (List.mem_of_getElem? (i := 34) rfl))
theorem dX9_passesAs_81 : decode cX9_passesAs 81 = .ok (.iload 4, 2) := of_decide_eq_true (List.all_eq_true.mp dA_X9_passesAs_0 (81, .iload 4, 2) (List.mem_of_getElem? (i := 35) rfl))
theorem dX9_passesAs_83 : decode cX9_passesAs 83 = .ok (.ireturn, 1) := of_decide_eq_true (List.all_eq_true.mp dA_X9_passesAs_0 (83, .ireturn, 1) (List.mem_of_getElem? (i := 36) rfl))
theorem dX9_passesAs_84 : decode cX9_passesAs 84 = .ok (.iload_n 3, 1) := of_decide_eq_true (List.all_eq_true.mp dA_X9_passesAs_0 (84, .iload_n 3, 1) (List.mem_of_getElem? (i := 37) rfl))
theorem dX9_passesAs_85 : decode cX9_passesAs 85 = .ok (.ireturn, 1) := of_decide_eq_true (List.all_eq_true.mp dA_X9_passesAs_0 (85, .ireturn, 1) (List.mem_of_getElem? (i := 38) rfl))
set_option maxRecDepth 20000 in
theorem ggX9_likelyOf_X9_likelyAs : GoodIn wsX9_likelyOf wsX9_likelyAs := goodIn_r _ [4] (by decide +kernel) (by decide +kernel)
set_option maxRecDepth 20000 in
theorem gX9_likelyOf_X9_likelyAs : GoodIn wsX9_likelyOf (va_wsS RX9 91 yX9_likelyAs wsX9_likelyAs) := goodIn_app (goodIn_of _ (by decide +kernel)) ggX9_likelyOf_X9_likelyAs
set_option maxRecDepth 20000 in
theorem dA_X9_likelyOf_0 : (([(0, .aload_n 0, 1), (1, .bipush 31, 2), (3, .iload_n 1, 1), (4, .iadd, 1), (5, .iaload, 1), (6, .aload_n 0, 1), (7, .iconst 5, 1), (8, .iload_n 1, 1), (9, .iadd, 1), (10, .iaload, 1), (11, .aload_n 0, 1), (12, .bipush 12, 2), (14, .iload_n 1, 1), (15, .iadd, 1), (16, .iaload, 1), (17, .aload_n 0, 1), (18, .bipush 22, 2), (20, .iaload, 1), (21, .invokestatic 91, 3), (24, .ireturn, 1)] : List (Nat × Instr × Nat)).all fun q => decide (decode cX9_likelyOf q.1 = .ok (q.2.1, q.2.2))) = true := by decide +kernel
theorem dX9_likelyOf_0 : decode cX9_likelyOf 0 = .ok (.aload_n 0, 1) := of_decide_eq_true (List.all_eq_true.mp dA_X9_likelyOf_0 (0, .aload_n 0, 1) (List.mem_of_getElem? (i := 0) rfl))
theorem dX9_likelyOf_1 : decode cX9_likelyOf 1 = .ok (.bipush 31, 2) := of_decide_eq_true (List.all_eq_true.mp dA_X9_likelyOf_0 (1, .bipush 31, 2) (List.mem_of_getElem? (i := 1) rfl))
theorem dX9_likelyOf_3 : decode cX9_likelyOf 3 = .ok (.iload_n 1, 1) := of_decide_eq_true (List.all_eq_true.mp dA_X9_likelyOf_0 (3, .iload_n 1, 1) (List.mem_of_getElem? (i := 2) rfl))
theorem dX9_likelyOf_4 : decode cX9_likelyOf 4 = .ok (.iadd, 1) := of_decide_eq_true (List.all_eq_true.mp dA_X9_likelyOf_0 (4, .iadd, 1) (List.mem_of_getElem? (i := 3) rfl))
theorem dX9_likelyOf_5 : decode cX9_likelyOf 5 = .ok (.iaload, 1) := of_decide_eq_true (List.all_eq_true.mp dA_X9_likelyOf_0 (5, .iaload, 1) (List.mem_of_getElem? (i := 4) rfl))
theorem dX9_likelyOf_6 : decode cX9_likelyOf 6 = .ok (.aload_n 0, 1) := of_decide_eq_true (List.all_eq_true.mp dA_X9_likelyOf_0 (6, .aload_n 0, 1) (List.mem_of_getElem? (i := 5) rfl))
theorem dX9_likelyOf_7 : decode cX9_likelyOf 7 = .ok (.iconst 5, 1) := of_decide_eq_true (List.all_eq_true.mp dA_X9_likelyOf_0 (7, .iconst 5, 1) (List.mem_of_getElem? (i := 6) rfl))
theorem dX9_likelyOf_8 : decode cX9_likelyOf 8 = .ok (.iload_n 1, 1) := of_decide_eq_true (List.all_eq_true.mp dA_X9_likelyOf_0 (8, .iload_n 1, 1) (List.mem_of_getElem? (i := 7) rfl))
theorem dX9_likelyOf_9 : decode cX9_likelyOf 9 = .ok (.iadd, 1) := of_decide_eq_true (List.all_eq_true.mp dA_X9_likelyOf_0 (9, .iadd, 1) (List.mem_of_getElem? (i := 8) rfl))
theorem dX9_likelyOf_10 : decode cX9_likelyOf 10 = .ok (.iaload, 1) := of_decide_eq_true (List.all_eq_true.mp dA_X9_likelyOf_0 (10, .iaload, 1) (List.mem_of_getElem? (i := 9) rfl))
theorem dX9_likelyOf_11 : decode cX9_likelyOf 11 = .ok (.aload_n 0, 1) := of_decide_eq_true (List.all_eq_true.mp dA_X9_likelyOf_0 (11, .aload_n 0, 1) (List.mem_of_getElem? (i := 10) rfl))
theorem dX9_likelyOf_12 : decode cX9_likelyOf 12 = .ok (.bipush 12, 2) := of_decide_eq_true (List.all_eq_true.mp dA_X9_likelyOf_0 (12, .bipush 12, 2) (List.mem_of_getElem? (i := 11) rfl))
theorem dX9_likelyOf_14 : decode cX9_likelyOf 14 = .ok (.iload_n 1, 1) := of_decide_eq_true (List.all_eq_true.mp dA_X9_likelyOf_0 (14, .iload_n 1, 1) (List.mem_of_getElem? (i := 12) rfl))
theorem dX9_likelyOf_15 : decode cX9_likelyOf 15 = .ok (.iadd, 1) := of_decide_eq_true (List.all_eq_true.mp dA_X9_likelyOf_0 (15, .iadd, 1) (List.mem_of_getElem? (i := 13) rfl))
theorem dX9_likelyOf_16 : decode cX9_likelyOf 16 = .ok (.iaload, 1) := of_decide_eq_true (List.all_eq_true.mp dA_X9_likelyOf_0 (16, .iaload, 1) (List.mem_of_getElem? (i := 14) rfl))
theorem dX9_likelyOf_17 : decode cX9_likelyOf 17 = .ok (.aload_n 0, 1) := of_decide_eq_true (List.all_eq_true.mp dA_X9_likelyOf_0 (17, .aload_n 0, 1) (List.mem_of_getElem? (i := 15) rfl))
theorem dX9_likelyOf_18 : decode cX9_likelyOf 18 = .ok (.bipush 22, 2) := of_decide_eq_true (List.all_eq_true.mp dA_X9_likelyOf_0 (18, .bipush 22, 2) (List.mem_of_getElem? (i := 16) rfl))
theorem dX9_likelyOf_20 : decode cX9_likelyOf 20 = .ok (.iaload, 1) := of_decide_eq_true (List.all_eq_true.mp dA_X9_likelyOf_0 (20, .iaload, 1) (List.mem_of_getElem? (i := 17) rfl))
theorem dX9_likelyOf_21 : decode cX9_likelyOf 21 = .ok (.invokestatic 91, 3) := of_decide_eq_true (List.all_eq_true.mp dA_X9_likelyOf_0 (21, .invokestatic 91, 3) (List.mem_of_getElem? (i := 18) rfl))
theorem dX9_likelyOf_24 : decode cX9_likelyOf 24 = .ok (.ireturn, 1) := of_decide_eq_true (List.all_eq_true.mp dA_X9_likelyOf_0 (24, .ireturn, 1) (List.mem_of_getElem? (i := 19) rfl))
set_option maxRecDepth 20000 in
theorem dA_X9_wetOf_0 : (([(0, .aload_n 0, 1), (1, .bipush 25, 2), (3, .iload_n 1, 1), (4, .bipush 6, 2), (6, .irem, 1), (7, .iadd, 1), (8, .iaload, 1), (9, .ireturn, 1)] : List (Nat × Instr × Nat)).all fun q => decide (decode cX9_wetOf q.1 = .ok (q.2.1, q.2.2))) = true := by decide +kernel
theorem dX9_wetOf_0 : decode cX9_wetOf 0 = .ok (.aload_n 0, 1) := of_decide_eq_true (List.all_eq_true.mp dA_X9_wetOf_0 (0, .aload_n 0, 1) (List.mem_of_getElem? (i := 0) rfl))
theorem dX9_wetOf_1 : decode cX9_wetOf 1 = .ok (.bipush 25, 2) := of_decide_eq_true (List.all_eq_true.mp dA_X9_wetOf_0 (1, .bipush 25, 2) (List.mem_of_getElem? (i := 1) rfl))
theorem dX9_wetOf_3 : decode cX9_wetOf 3 = .ok (.iload_n 1, 1) := of_decide_eq_true (List.all_eq_true.mp dA_X9_wetOf_0 (3, .iload_n 1, 1) (List.mem_of_getElem? (i := 2) rfl))
theorem dX9_wetOf_4 : decode cX9_wetOf 4 = .ok (.bipush 6, 2) := of_decide_eq_true (List.all_eq_true.mp dA_X9_wetOf_0 (4, .bipush 6, 2) (List.mem_of_getElem? (i := 3) rfl))
theorem dX9_wetOf_6 : decode cX9_wetOf 6 = .ok (.irem, 1) := of_decide_eq_true (List.all_eq_true.mp dA_X9_wetOf_0 (6, .irem, 1) (List.mem_of_getElem? (i := 4) rfl))
theorem dX9_wetOf_7 : decode cX9_wetOf 7 = .ok (.iadd, 1) := of_decide_eq_true (List.all_eq_true.mp dA_X9_wetOf_0 (7, .iadd, 1) (List.mem_of_getElem? (i := 5) rfl))
theorem dX9_wetOf_8 : decode cX9_wetOf 8 = .ok (.iaload, 1) := of_decide_eq_true (List.all_eq_true.mp dA_X9_wetOf_0 (8, .iaload, 1) (List.mem_of_getElem? (i := 6) rfl))
theorem dX9_wetOf_9 : decode cX9_wetOf 9 = .ok (.ireturn, 1) := of_decide_eq_true (List.all_eq_true.mp dA_X9_wetOf_0 (9, .ireturn, 1) (List.mem_of_getElem? (i := 7) rfl))
set_option maxRecDepth 20000 in
theorem ggX9_passesNow_X9_wetOf : GoodIn wsX9_passesNow wsX9_wetOf := goodIn_r _ [4] (by decide +kernel) (by decide +kernel)
set_option maxRecDepth 20000 in
theorem gX9_passesNow_X9_wetOf : GoodIn wsX9_passesNow (va_wsS RX9 95 yX9_wetOf wsX9_wetOf) := goodIn_app (goodIn_of _ (by decide +kernel)) ggX9_passesNow_X9_wetOf
set_option maxRecDepth 20000 in
theorem ggX9_passesNow_X9_passesAs : GoodIn wsX9_passesNow wsX9_passesAs := goodIn_r _ [7] (by decide +kernel) (by decide +kernel)
set_option maxRecDepth 20000 in
theorem gX9_passesNow_X9_passesAs : GoodIn wsX9_passesNow (va_wsS RX9 99 yX9_passesAs wsX9_passesAs) := goodIn_app (goodIn_of _ (by decide +kernel)) ggX9_passesNow_X9_passesAs
set_option maxRecDepth 20000 in
theorem dA_X9_passesNow_0 : (([(0, .aload_n 0, 1), (1, .bipush 23, 2), (3, .iaload, 1), (4, .aload_n 0, 1), (5, .aload_n 0, 1), (6, .bipush 22, 2), (8, .iaload, 1), (9, .invokestatic 95, 3), (12, .aload_n 0, 1), (13, .bipush 20, 2), (15, .iaload, 1), (16, .invokestatic 99, 3), (19, .ireturn, 1)] : List (Nat × Instr × Nat)).all fun q => decide (decode cX9_passesNow q.1 = .ok (q.2.1, q.2.2))) = true := by decide +kernel
theorem dX9_passesNow_0 : decode cX9_passesNow 0 = .ok (.aload_n 0, 1) := of_decide_eq_true (List.all_eq_true.mp dA_X9_passesNow_0 (0, .aload_n 0, 1) (List.mem_of_getElem? (i := 0) rfl))
theorem dX9_passesNow_1 : decode cX9_passesNow 1 = .ok (.bipush 23, 2) := of_decide_eq_true (List.all_eq_true.mp dA_X9_passesNow_0 (1, .bipush 23, 2) (List.mem_of_getElem? (i := 1) rfl))
theorem dX9_passesNow_3 : decode cX9_passesNow 3 = .ok (.iaload, 1) := of_decide_eq_true (List.all_eq_true.mp dA_X9_passesNow_0 (3, .iaload, 1) (List.mem_of_getElem? (i := 2) rfl))
theorem dX9_passesNow_4 : decode cX9_passesNow 4 = .ok (.aload_n 0, 1) := of_decide_eq_true (List.all_eq_true.mp dA_X9_passesNow_0 (4, .aload_n 0, 1) (List.mem_of_getElem? (i := 3) rfl))
theorem dX9_passesNow_5 : decode cX9_passesNow 5 = .ok (.aload_n 0, 1) := of_decide_eq_true (List.all_eq_true.mp dA_X9_passesNow_0 (5, .aload_n 0, 1) (List.mem_of_getElem? (i := 4) rfl))
theorem dX9_passesNow_6 : decode cX9_passesNow 6 = .ok (.bipush 22, 2) := of_decide_eq_true (List.all_eq_true.mp dA_X9_passesNow_0 (6, .bipush 22, 2) (List.mem_of_getElem? (i := 5) rfl))
theorem dX9_passesNow_8 : decode cX9_passesNow 8 = .ok (.iaload, 1) := of_decide_eq_true (List.all_eq_true.mp dA_X9_passesNow_0 (8, .iaload, 1) (List.mem_of_getElem? (i := 6) rfl))
theorem dX9_passesNow_9 : decode cX9_passesNow 9 = .ok (.invokestatic 95, 3) := of_decide_eq_true (List.all_eq_true.mp dA_X9_passesNow_0 (9, .invokestatic 95, 3) (List.mem_of_getElem? (i := 7) rfl))
theorem dX9_passesNow_12 : decode cX9_passesNow 12 = .ok (.aload_n 0, 1) := of_decide_eq_true (List.all_eq_true.mp dA_X9_passesNow_0 (12, .aload_n 0, 1) (List.mem_of_getElem? (i := 8) rfl))
theorem dX9_passesNow_13 : decode cX9_passesNow 13 = .ok (.bipush 20, 2) := of_decide_eq_true (List.all_eq_true.mp dA_X9_passesNow_0 (13, .bipush 20, 2) (List.mem_of_getElem? (i := 9) rfl))
theorem dX9_passesNow_15 : decode cX9_passesNow 15 = .ok (.iaload, 1) := of_decide_eq_true (List.all_eq_true.mp dA_X9_passesNow_0 (15, .iaload, 1) (List.mem_of_getElem? (i := 10) rfl))
theorem dX9_passesNow_16 : decode cX9_passesNow 16 = .ok (.invokestatic 99, 3) := of_decide_eq_true (List.all_eq_true.mp dA_X9_passesNow_0 (16, .invokestatic 99, 3) (List.mem_of_getElem? (i := 11) rfl))
theorem dX9_passesNow_19 : decode cX9_passesNow 19 = .ok (.ireturn, 1) := of_decide_eq_true (List.all_eq_true.mp dA_X9_passesNow_0 (19, .ireturn, 1) (List.mem_of_getElem? (i := 12) rfl))
set_option maxRecDepth 20000 in
theorem ggX9_isFree_X9_bits : GoodIn wsX9_isFree wsX9_bits := goodIn_r _ [4] (by decide +kernel) (by decide +kernel)
set_option maxRecDepth 20000 in
theorem gX9_isFree_X9_bits : GoodIn wsX9_isFree (va_wsS RX9 103 yX9_bits wsX9_bits) := goodIn_app (goodIn_of _ (by decide +kernel)) ggX9_isFree_X9_bits
set_option maxRecDepth 20000 in
theorem dA_X9_isFree_0 : (([(0, .aload_n 0, 1), (1, .bipush 19, 2), (3, .iaload, 1), (4, .invokestatic 103, 3), (7, .aload_n 0, 1), (8, .bipush 24, 2), (10, .iaload, 1), (11, .if_icmp .ge 7, 3), (14, .iconst 1, 1), (15, .goto 4, 3), (18, .iconst 0, 1), (19, .ireturn, 1)] : List (Nat × Instr × Nat)).all fun q => decide (decode cX9_isFree q.1 = .ok (q.2.1, q.2.2))) = true := by decide +kernel
theorem dX9_isFree_0 : decode cX9_isFree 0 = .ok (.aload_n 0, 1) := of_decide_eq_true (List.all_eq_true.mp dA_X9_isFree_0 (0, .aload_n 0, 1) (List.mem_of_getElem? (i := 0) rfl))
theorem dX9_isFree_1 : decode cX9_isFree 1 = .ok (.bipush 19, 2) := of_decide_eq_true (List.all_eq_true.mp dA_X9_isFree_0 (1, .bipush 19, 2) (List.mem_of_getElem? (i := 1) rfl))
theorem dX9_isFree_3 : decode cX9_isFree 3 = .ok (.iaload, 1) := of_decide_eq_true (List.all_eq_true.mp dA_X9_isFree_0 (3, .iaload, 1) (List.mem_of_getElem? (i := 2) rfl))
theorem dX9_isFree_4 : decode cX9_isFree 4 = .ok (.invokestatic 103, 3) := of_decide_eq_true (List.all_eq_true.mp dA_X9_isFree_0 (4, .invokestatic 103, 3) (List.mem_of_getElem? (i := 3) rfl))
theorem dX9_isFree_7 : decode cX9_isFree 7 = .ok (.aload_n 0, 1) := of_decide_eq_true (List.all_eq_true.mp dA_X9_isFree_0 (7, .aload_n 0, 1) (List.mem_of_getElem? (i := 4) rfl))
theorem dX9_isFree_8 : decode cX9_isFree 8 = .ok (.bipush 24, 2) := of_decide_eq_true (List.all_eq_true.mp dA_X9_isFree_0 (8, .bipush 24, 2) (List.mem_of_getElem? (i := 5) rfl))
theorem dX9_isFree_10 : decode cX9_isFree 10 = .ok (.iaload, 1) := of_decide_eq_true (List.all_eq_true.mp dA_X9_isFree_0 (10, .iaload, 1) (List.mem_of_getElem? (i := 6) rfl))
theorem dX9_isFree_11 : decode cX9_isFree 11 = .ok (.if_icmp .ge 7, 3) := of_decide_eq_true (List.all_eq_true.mp dA_X9_isFree_0 (11, .if_icmp .ge 7, 3) (List.mem_of_getElem? (i := 7) rfl))
theorem dX9_isFree_14 : decode cX9_isFree 14 = .ok (.iconst 1, 1) := of_decide_eq_true (List.all_eq_true.mp dA_X9_isFree_0 (14, .iconst 1, 1) (List.mem_of_getElem? (i := 8) rfl))
theorem dX9_isFree_15 : decode cX9_isFree 15 = .ok (.goto 4, 3) := of_decide_eq_true (List.all_eq_true.mp dA_X9_isFree_0 (15, .goto 4, 3) (List.mem_of_getElem? (i := 9) rfl))
theorem dX9_isFree_18 : decode cX9_isFree 18 = .ok (.iconst 0, 1) := of_decide_eq_true (List.all_eq_true.mp dA_X9_isFree_0 (18, .iconst 0, 1) (List.mem_of_getElem? (i := 10) rfl))
theorem dX9_isFree_19 : decode cX9_isFree 19 = .ok (.ireturn, 1) := of_decide_eq_true (List.all_eq_true.mp dA_X9_isFree_0 (19, .ireturn, 1) (List.mem_of_getElem? (i := 11) rfl))
set_option maxRecDepth 20000 in
theorem ggX9_letsIn_X9_has : GoodIn wsX9_letsIn wsX9_has := goodIn_r _ [4] (by decide +kernel) (by decide +kernel)
set_option maxRecDepth 20000 in
theorem gX9_letsIn_X9_has : GoodIn wsX9_letsIn (va_wsS RX9 106 yX9_has wsX9_has) := goodIn_app (goodIn_of _ (by decide +kernel)) ggX9_letsIn_X9_has
set_option maxRecDepth 20000 in
theorem ggX9_letsIn_X9_isFree : GoodIn wsX9_letsIn wsX9_isFree := goodIn_r _ [7, 8, 9, 3, 10] (by decide +kernel) (by decide +kernel)
set_option maxRecDepth 20000 in
theorem gX9_letsIn_X9_isFree : GoodIn wsX9_letsIn (va_wsS RX9 110 yX9_isFree wsX9_isFree) := goodIn_app (goodIn_of _ (by decide +kernel)) ggX9_letsIn_X9_isFree
set_option maxRecDepth 20000 in
theorem ggX9_letsIn_X9_likelyOf : GoodIn wsX9_letsIn wsX9_likelyOf := goodIn_r _ [13, 14, 15, 3, 16] (by decide +kernel) (by decide +kernel)
set_option maxRecDepth 20000 in
theorem gX9_letsIn_X9_likelyOf : GoodIn wsX9_letsIn (va_wsS RX9 114 yX9_likelyOf wsX9_likelyOf) := goodIn_app (goodIn_of _ (by decide +kernel)) ggX9_letsIn_X9_likelyOf
set_option maxRecDepth 20000 in
theorem ggX9_letsIn_X9_passesNow : GoodIn wsX9_letsIn wsX9_passesNow := goodIn_r _ [19, 20, 21, 3, 22, 23, 24, 25] (by decide +kernel) (by decide +kernel)
set_option maxRecDepth 20000 in
theorem gX9_letsIn_X9_passesNow : GoodIn wsX9_letsIn (va_wsS RX9 117 yX9_passesNow wsX9_passesNow) := goodIn_app (goodIn_of _ (by decide +kernel)) ggX9_letsIn_X9_passesNow
set_option maxRecDepth 20000 in
theorem dA_X9_letsIn_0 : (([(0, .aload_n 0, 1), (1, .bipush 19, 2), (3, .iaload, 1), (4, .iload_n 1, 1), (5, .invokestatic 106, 3), (8, .ifCond .ne 26, 3), (11, .aload_n 0, 1), (12, .invokestatic 110, 3), (15, .ifCond .eq 19, 3), (18, .aload_n 0, 1), (19, .iload_n 1, 1), (20, .invokestatic 114, 3), (23, .aload_n 0, 1), (24, .invokestatic 117, 3), (27, .if_icmp .gt 7, 3), (30, .iconst 1, 1), (31, .goto 4, 3), (34, .iconst 0, 1), (35, .ireturn, 1)] : List (Nat × Instr × Nat)).all fun q => decide (decode cX9_letsIn q.1 = .ok (q.2.1, q.2.2))) = true := by decide +kernel
theorem dX9_letsIn_0 : decode cX9_letsIn 0 = .ok (.aload_n 0, 1) := of_decide_eq_true (List.all_eq_true.mp dA_X9_letsIn_0 (0, .aload_n 0, 1) (List.mem_of_getElem? (i := 0) rfl))
theorem dX9_letsIn_1 : decode cX9_letsIn 1 = .ok (.bipush 19, 2) := of_decide_eq_true (List.all_eq_true.mp dA_X9_letsIn_0 (1, .bipush 19, 2) (List.mem_of_getElem? (i := 1) rfl))
theorem dX9_letsIn_3 : decode cX9_letsIn 3 = .ok (.iaload, 1) := of_decide_eq_true (List.all_eq_true.mp dA_X9_letsIn_0 (3, .iaload, 1) (List.mem_of_getElem? (i := 2) rfl))
theorem dX9_letsIn_4 : decode cX9_letsIn 4 = .ok (.iload_n 1, 1) := of_decide_eq_true (List.all_eq_true.mp dA_X9_letsIn_0 (4, .iload_n 1, 1) (List.mem_of_getElem? (i := 3) rfl))
theorem dX9_letsIn_5 : decode cX9_letsIn 5 = .ok (.invokestatic 106, 3) := of_decide_eq_true (List.all_eq_true.mp dA_X9_letsIn_0 (5, .invokestatic 106, 3) (List.mem_of_getElem? (i := 4) rfl))
theorem dX9_letsIn_8 : decode cX9_letsIn 8 = .ok (.ifCond .ne 26, 3) := of_decide_eq_true (List.all_eq_true.mp dA_X9_letsIn_0 (8, .ifCond .ne 26, 3) (List.mem_of_getElem? (i := 5) rfl))
theorem dX9_letsIn_11 : decode cX9_letsIn 11 = .ok (.aload_n 0, 1) := of_decide_eq_true (List.all_eq_true.mp dA_X9_letsIn_0 (11, .aload_n 0, 1) (List.mem_of_getElem? (i := 6) rfl))
theorem dX9_letsIn_12 : decode cX9_letsIn 12 = .ok (.invokestatic 110, 3) := of_decide_eq_true (List.all_eq_true.mp dA_X9_letsIn_0 (12, .invokestatic 110, 3) (List.mem_of_getElem? (i := 7) rfl))
theorem dX9_letsIn_15 : decode cX9_letsIn 15 = .ok (.ifCond .eq 19, 3) := of_decide_eq_true (List.all_eq_true.mp dA_X9_letsIn_0 (15, .ifCond .eq 19, 3) (List.mem_of_getElem? (i := 8) rfl))
theorem dX9_letsIn_18 : decode cX9_letsIn 18 = .ok (.aload_n 0, 1) := of_decide_eq_true (List.all_eq_true.mp dA_X9_letsIn_0 (18, .aload_n 0, 1) (List.mem_of_getElem? (i := 9) rfl))
theorem dX9_letsIn_19 : decode cX9_letsIn 19 = .ok (.iload_n 1, 1) := of_decide_eq_true (List.all_eq_true.mp dA_X9_letsIn_0 (19, .iload_n 1, 1) (List.mem_of_getElem? (i := 10) rfl))
theorem dX9_letsIn_20 : decode cX9_letsIn 20 = .ok (.invokestatic 114, 3) := of_decide_eq_true (List.all_eq_true.mp dA_X9_letsIn_0 (20, .invokestatic 114, 3) (List.mem_of_getElem? (i := 11) rfl))
theorem dX9_letsIn_23 : decode cX9_letsIn 23 = .ok (.aload_n 0, 1) := of_decide_eq_true (List.all_eq_true.mp dA_X9_letsIn_0 (23, .aload_n 0, 1) (List.mem_of_getElem? (i := 12) rfl))
theorem dX9_letsIn_24 : decode cX9_letsIn 24 = .ok (.invokestatic 117, 3) := of_decide_eq_true (List.all_eq_true.mp dA_X9_letsIn_0 (24, .invokestatic 117, 3) (List.mem_of_getElem? (i := 13) rfl))
theorem dX9_letsIn_27 : decode cX9_letsIn 27 = .ok (.if_icmp .gt 7, 3) := of_decide_eq_true (List.all_eq_true.mp dA_X9_letsIn_0 (27, .if_icmp .gt 7, 3) (List.mem_of_getElem? (i := 14) rfl))
theorem dX9_letsIn_30 : decode cX9_letsIn 30 = .ok (.iconst 1, 1) := of_decide_eq_true (List.all_eq_true.mp dA_X9_letsIn_0 (30, .iconst 1, 1) (List.mem_of_getElem? (i := 15) rfl))
theorem dX9_letsIn_31 : decode cX9_letsIn 31 = .ok (.goto 4, 3) := of_decide_eq_true (List.all_eq_true.mp dA_X9_letsIn_0 (31, .goto 4, 3) (List.mem_of_getElem? (i := 16) rfl))
theorem dX9_letsIn_34 : decode cX9_letsIn 34 = .ok (.iconst 0, 1) := of_decide_eq_true (List.all_eq_true.mp dA_X9_letsIn_0 (34, .iconst 0, 1) (List.mem_of_getElem? (i := 17) rfl))
theorem dX9_letsIn_35 : decode cX9_letsIn 35 = .ok (.ireturn, 1) := of_decide_eq_true (List.all_eq_true.mp dA_X9_letsIn_0 (35, .ireturn, 1) (List.mem_of_getElem? (i := 18) rfl))
set_option maxRecDepth 20000 in
theorem dA_X9_more_0 : (([(0, .iload_n 0, 1), (1, .iload_n 1, 1), (2, .if_icmp .ge 9, 3), (5, .iload_n 0, 1), (6, .iconst 1, 1), (7, .iadd, 1), (8, .goto 4, 3), (11, .iload_n 1, 1), (12, .ireturn, 1)] : List (Nat × Instr × Nat)).all fun q => decide (decode cX9_more q.1 = .ok (q.2.1, q.2.2))) = true := by decide +kernel
theorem dX9_more_0 : decode cX9_more 0 = .ok (.iload_n 0, 1) := of_decide_eq_true (List.all_eq_true.mp dA_X9_more_0 (0, .iload_n 0, 1) (List.mem_of_getElem? (i := 0) rfl))
theorem dX9_more_1 : decode cX9_more 1 = .ok (.iload_n 1, 1) := of_decide_eq_true (List.all_eq_true.mp dA_X9_more_0 (1, .iload_n 1, 1) (List.mem_of_getElem? (i := 1) rfl))
theorem dX9_more_2 : decode cX9_more 2 = .ok (.if_icmp .ge 9, 3) := of_decide_eq_true (List.all_eq_true.mp dA_X9_more_0 (2, .if_icmp .ge 9, 3) (List.mem_of_getElem? (i := 2) rfl))
theorem dX9_more_5 : decode cX9_more 5 = .ok (.iload_n 0, 1) := of_decide_eq_true (List.all_eq_true.mp dA_X9_more_0 (5, .iload_n 0, 1) (List.mem_of_getElem? (i := 3) rfl))
theorem dX9_more_6 : decode cX9_more 6 = .ok (.iconst 1, 1) := of_decide_eq_true (List.all_eq_true.mp dA_X9_more_0 (6, .iconst 1, 1) (List.mem_of_getElem? (i := 4) rfl))
theorem dX9_more_7 : decode cX9_more 7 = .ok (.iadd, 1) := of_decide_eq_true (List.all_eq_true.mp dA_X9_more_0 (7, .iadd, 1) (List.mem_of_getElem? (i := 5) rfl))
theorem dX9_more_8 : decode cX9_more 8 = .ok (.goto 4, 3) := of_decide_eq_true (List.all_eq_true.mp dA_X9_more_0 (8, .goto 4, 3) (List.mem_of_getElem? (i := 6) rfl))
theorem dX9_more_11 : decode cX9_more 11 = .ok (.iload_n 1, 1) := of_decide_eq_true (List.all_eq_true.mp dA_X9_more_0 (11, .iload_n 1, 1) (List.mem_of_getElem? (i := 7) rfl))
theorem dX9_more_12 : decode cX9_more 12 = .ok (.ireturn, 1) := of_decide_eq_true (List.all_eq_true.mp dA_X9_more_0 (12, .ireturn, 1) (List.mem_of_getElem? (i := 8) rfl))
set_option maxRecDepth 20000 in
theorem ggX9_goCome_X9_letsIn : GoodIn wsX9_goCome wsX9_letsIn := goodIn_r _ [4, 5, 6, 3, 7, 8, 9, 10, 11, 12, 13, 14, 15, 16, 17, 18, 19, 20, 21, 22, 23, 24, 25, 26, 27, 28] (by decide +kernel) (by decide +kernel)
set_option maxRecDepth 20000 in
theorem gX9_goCome_X9_letsIn : GoodIn wsX9_goCome (va_wsS RX9 121 yX9_letsIn wsX9_letsIn) := goodIn_app (goodIn_of _ (by decide +kernel)) ggX9_goCome_X9_letsIn
set_option maxRecDepth 20000 in
theorem ggX9_goCome_X9_more : GoodIn wsX9_goCome wsX9_more := goodIn_r _ [31] (by decide +kernel) (by decide +kernel)
set_option maxRecDepth 20000 in
theorem gX9_goCome_X9_more : GoodIn wsX9_goCome (va_wsS RX9 125 yX9_more wsX9_more) := goodIn_app (goodIn_of _ (by decide +kernel)) ggX9_goCome_X9_more
set_option maxRecDepth 20000 in
theorem dA_X9_goCome_0 : (([(0, .aload_n 0, 1), (1, .iload_n 1, 1), (2, .invokestatic 121, 3), (5, .istore_n 2, 1), (6, .iload_n 2, 1), (7, .ifCond .eq 33, 3), (10, .aload_n 0, 1), (11, .bipush 19, 2), (13, .dup2, 1), (14, .iaload, 1), (15, .iconst 1, 1), (16, .iload_n 1, 1), (17, .ishl, 1), (18, .ior, 1), (19, .iastore, 1), (20, .aload_n 0, 1), (21, .bipush 12, 2), (23, .iload_n 1, 1), (24, .iadd, 1), (25, .aload_n 0, 1), (26, .bipush 12, 2), (28, .iload_n 1, 1), (29, .iadd, 1), (30, .iaload, 1), (31, .bipush 99, 2), (33, .invokestatic 125, 3), (36, .iastore, 1), (37, .goto 17, 3), (40, .aload_n 0, 1), (41, .bipush 21, 2), (43, .aload_n 0, 1), (44, .bipush 21, 2), (46, .iaload, 1), (47, .sipush 9999, 3), (50, .invokestatic 125, 3), (53, .iastore, 1), (54, .aload_n 0, 1), (55, .bipush 20, 2), (57, .aload_n 0, 1), (58, .bipush 20, 2)] : List (Nat × Instr × Nat)).all fun q => decide (decode cX9_goCome q.1 = .ok (q.2.1, q.2.2))) = true := by decide +kernel
theorem dX9_goCome_0 : decode cX9_goCome 0 = .ok (.aload_n 0, 1) := of_decide_eq_true (List.all_eq_true.mp dA_X9_goCome_0 (0, .aload_n 0, 1) (List.mem_of_getElem? (i := 0) rfl))
theorem dX9_goCome_1 : decode cX9_goCome 1 = .ok (.iload_n 1, 1) := of_decide_eq_true (List.all_eq_true.mp dA_X9_goCome_0 (1, .iload_n 1, 1) (List.mem_of_getElem? (i := 1) rfl))
theorem dX9_goCome_2 : decode cX9_goCome 2 = .ok (.invokestatic 121, 3) := of_decide_eq_true (List.all_eq_true.mp dA_X9_goCome_0 (2, .invokestatic 121, 3) (List.mem_of_getElem? (i := 2) rfl))
theorem dX9_goCome_5 : decode cX9_goCome 5 = .ok (.istore_n 2, 1) := of_decide_eq_true (List.all_eq_true.mp dA_X9_goCome_0 (5, .istore_n 2, 1) (List.mem_of_getElem? (i := 3) rfl))
theorem dX9_goCome_6 : decode cX9_goCome 6 = .ok (.iload_n 2, 1) := of_decide_eq_true (List.all_eq_true.mp dA_X9_goCome_0 (6, .iload_n 2, 1) (List.mem_of_getElem? (i := 4) rfl))
theorem dX9_goCome_7 : decode cX9_goCome 7 = .ok (.ifCond .eq 33, 3) := of_decide_eq_true (List.all_eq_true.mp dA_X9_goCome_0 (7, .ifCond .eq 33, 3) (List.mem_of_getElem? (i := 5) rfl))
theorem dX9_goCome_10 : decode cX9_goCome 10 = .ok (.aload_n 0, 1) := of_decide_eq_true (List.all_eq_true.mp dA_X9_goCome_0 (10, .aload_n 0, 1) (List.mem_of_getElem? (i := 6) rfl))
theorem dX9_goCome_11 : decode cX9_goCome 11 = .ok (.bipush 19, 2) := of_decide_eq_true (List.all_eq_true.mp dA_X9_goCome_0 (11, .bipush 19, 2) (List.mem_of_getElem? (i := 7) rfl))
theorem dX9_goCome_13 : decode cX9_goCome 13 = .ok (.dup2, 1) := of_decide_eq_true (List.all_eq_true.mp dA_X9_goCome_0 (13, .dup2, 1) (List.mem_of_getElem? (i := 8) rfl))
theorem dX9_goCome_14 : decode cX9_goCome 14 = .ok (.iaload, 1) := of_decide_eq_true (List.all_eq_true.mp dA_X9_goCome_0 (14, .iaload, 1) (List.mem_of_getElem? (i := 9) rfl))
theorem dX9_goCome_15 : decode cX9_goCome 15 = .ok (.iconst 1, 1) := of_decide_eq_true (List.all_eq_true.mp dA_X9_goCome_0 (15, .iconst 1, 1) (List.mem_of_getElem? (i := 10) rfl))
theorem dX9_goCome_16 : decode cX9_goCome 16 = .ok (.iload_n 1, 1) := of_decide_eq_true (List.all_eq_true.mp dA_X9_goCome_0 (16, .iload_n 1, 1) (List.mem_of_getElem? (i := 11) rfl))
theorem dX9_goCome_17 : decode cX9_goCome 17 = .ok (.ishl, 1) := of_decide_eq_true (List.all_eq_true.mp dA_X9_goCome_0 (17, .ishl, 1) (List.mem_of_getElem? (i := 12) rfl))
theorem dX9_goCome_18 : decode cX9_goCome 18 = .ok (.ior, 1) := of_decide_eq_true (List.all_eq_true.mp dA_X9_goCome_0 (18, .ior, 1) (List.mem_of_getElem? (i := 13) rfl))
theorem dX9_goCome_19 : decode cX9_goCome 19 = .ok (.iastore, 1) := of_decide_eq_true (List.all_eq_true.mp dA_X9_goCome_0 (19, .iastore, 1) (List.mem_of_getElem? (i := 14) rfl))
theorem dX9_goCome_20 : decode cX9_goCome 20 = .ok (.aload_n 0, 1) := of_decide_eq_true (List.all_eq_true.mp dA_X9_goCome_0 (20, .aload_n 0, 1) (List.mem_of_getElem? (i := 15) rfl))
theorem dX9_goCome_21 : decode cX9_goCome 21 = .ok (.bipush 12, 2) := of_decide_eq_true (List.all_eq_true.mp dA_X9_goCome_0 (21, .bipush 12, 2) (List.mem_of_getElem? (i := 16) rfl))
theorem dX9_goCome_23 : decode cX9_goCome 23 = .ok (.iload_n 1, 1) := of_decide_eq_true (List.all_eq_true.mp dA_X9_goCome_0 (23, .iload_n 1, 1) (List.mem_of_getElem? (i := 17) rfl))
theorem dX9_goCome_24 : decode cX9_goCome 24 = .ok (.iadd, 1) := of_decide_eq_true (List.all_eq_true.mp dA_X9_goCome_0 (24, .iadd, 1) (List.mem_of_getElem? (i := 18) rfl))
theorem dX9_goCome_25 : decode cX9_goCome 25 = .ok (.aload_n 0, 1) := of_decide_eq_true (List.all_eq_true.mp dA_X9_goCome_0 (25, .aload_n 0, 1) (List.mem_of_getElem? (i := 19) rfl))
theorem dX9_goCome_26 : decode cX9_goCome 26 = .ok (.bipush 12, 2) := of_decide_eq_true (List.all_eq_true.mp dA_X9_goCome_0 (26, .bipush 12, 2) (List.mem_of_getElem? (i := 20) rfl))
theorem dX9_goCome_28 : decode cX9_goCome 28 = .ok (.iload_n 1, 1) := of_decide_eq_true (List.all_eq_true.mp dA_X9_goCome_0 (28, .iload_n 1, 1) (List.mem_of_getElem? (i := 21) rfl))
theorem dX9_goCome_29 : decode cX9_goCome 29 = .ok (.iadd, 1) := of_decide_eq_true (List.all_eq_true.mp dA_X9_goCome_0 (29, .iadd, 1) (List.mem_of_getElem? (i := 22) rfl))
theorem dX9_goCome_30 : decode cX9_goCome 30 = .ok (.iaload, 1) := of_decide_eq_true (List.all_eq_true.mp dA_X9_goCome_0 (30, .iaload, 1) (List.mem_of_getElem? (i := 23) rfl))
theorem dX9_goCome_31 : decode cX9_goCome 31 = .ok (.bipush 99, 2) := of_decide_eq_true (List.all_eq_true.mp dA_X9_goCome_0 (31, .bipush 99, 2) (List.mem_of_getElem? (i := 24) rfl))
theorem dX9_goCome_33 : decode cX9_goCome 33 = .ok (.invokestatic 125, 3) := of_decide_eq_true (List.all_eq_true.mp dA_X9_goCome_0 (33, .invokestatic 125, 3) (List.mem_of_getElem? (i := 25) rfl))
theorem dX9_goCome_36 : decode cX9_goCome 36 = .ok (.iastore, 1) := of_decide_eq_true (List.all_eq_true.mp dA_X9_goCome_0 (36, .iastore, 1) (List.mem_of_getElem? (i := 26) rfl))
theorem dX9_goCome_37 : decode cX9_goCome 37 = .ok (.goto 17, 3) := of_decide_eq_true (List.all_eq_true.mp dA_X9_goCome_0 (37, .goto 17, 3) (List.mem_of_getElem? (i := 27) rfl))
theorem dX9_goCome_40 : decode cX9_goCome 40 = .ok (.aload_n 0, 1) := of_decide_eq_true (List.all_eq_true.mp dA_X9_goCome_0 (40, .aload_n 0, 1) (List.mem_of_getElem? (i := 28) rfl))
theorem dX9_goCome_41 : decode cX9_goCome 41 = .ok (.bipush 21, 2) := of_decide_eq_true (List.all_eq_true.mp dA_X9_goCome_0 (41, .bipush 21, 2) (List.mem_of_getElem? (i := 29) rfl))
theorem dX9_goCome_43 : decode cX9_goCome 43 = .ok (.aload_n 0, 1) := of_decide_eq_true (List.all_eq_true.mp dA_X9_goCome_0 (43, .aload_n 0, 1) (List.mem_of_getElem? (i := 30) rfl))
theorem dX9_goCome_44 : decode cX9_goCome 44 = .ok (.bipush 21, 2) := of_decide_eq_true (List.all_eq_true.mp dA_X9_goCome_0 (44, .bipush 21, 2) (List.mem_of_getElem? (i := 31) rfl))
theorem dX9_goCome_46 : decode cX9_goCome 46 = .ok (.iaload, 1) := of_decide_eq_true (List.all_eq_true.mp dA_X9_goCome_0 (46, .iaload, 1) (List.mem_of_getElem? (i := 32) rfl))
theorem dX9_goCome_47 : decode cX9_goCome 47 = .ok (.sipush 9999, 3) := of_decide_eq_true (List.all_eq_true.mp dA_X9_goCome_0 (47, .sipush 9999, 3) (List.mem_of_getElem? (i := 33) rfl))
theorem dX9_goCome_50 : decode cX9_goCome 50 = .ok (.invokestatic 125, 3) := of_decide_eq_true (List.all_eq_true.mp dA_X9_goCome_0 (50, .invokestatic 125, 3) (List.mem_of_getElem? (i := 34) rfl))
theorem dX9_goCome_53 : decode cX9_goCome 53 = .ok (.iastore, 1) := of_decide_eq_true (List.all_eq_true.mp dA_X9_goCome_0 (53, .iastore, 1) (List.mem_of_getElem? (i := 35) rfl))
theorem dX9_goCome_54 : decode cX9_goCome 54 = .ok (.aload_n 0, 1) := of_decide_eq_true (List.all_eq_true.mp dA_X9_goCome_0 (54, .aload_n 0, 1) (List.mem_of_getElem? (i := 36) rfl))
theorem dX9_goCome_55 : decode cX9_goCome 55 = .ok (.bipush 20, 2) := of_decide_eq_true (List.all_eq_true.mp dA_X9_goCome_0 (55, .bipush 20, 2) (List.mem_of_getElem? (i := 37) rfl))
theorem dX9_goCome_57 : decode cX9_goCome 57 = .ok (.aload_n 0, 1) := of_decide_eq_true (List.all_eq_true.mp dA_X9_goCome_0 (57, .aload_n 0, 1) (List.mem_of_getElem? (i := 38) rfl))
theorem dX9_goCome_58 : decode cX9_goCome 58 = .ok (.bipush 20, 2) := of_decide_eq_true (List.all_eq_true.mp dA_X9_goCome_0 (58, .bipush 20, 2) (List.mem_of_getElem? (i := 39) rfl))
set_option maxRecDepth 20000 in
theorem dA_X9_goCome_60 : (([(60, .iaload, 1), (61, .bipush 99, 2), (63, .invokestatic 125, 3), (66, .iastore, 1), (67, .iload_n 2, 1), (68, .ifCond .eq 7, 3), (71, .iconst 1, 1), (72, .goto 4, 3), (75, .iconst 0, 1), (76, .ireturn, 1)] : List (Nat × Instr × Nat)).all fun q => decide (decode cX9_goCome q.1 = .ok (q.2.1, q.2.2))) = true := by decide +kernel
theorem dX9_goCome_60 : decode cX9_goCome 60 = .ok (.iaload, 1) := of_decide_eq_true (List.all_eq_true.mp dA_X9_goCome_60 (60, .iaload, 1) (List.mem_of_getElem? (i := 0) rfl))
theorem dX9_goCome_61 : decode cX9_goCome 61 = .ok (.bipush 99, 2) := of_decide_eq_true (List.all_eq_true.mp dA_X9_goCome_60 (61, .bipush 99, 2) (List.mem_of_getElem? (i := 1) rfl))
theorem dX9_goCome_63 : decode cX9_goCome 63 = .ok (.invokestatic 125, 3) := of_decide_eq_true (List.all_eq_true.mp dA_X9_goCome_60 (63, .invokestatic 125, 3) (List.mem_of_getElem? (i := 2) rfl))
theorem dX9_goCome_66 : decode cX9_goCome 66 = .ok (.iastore, 1) := of_decide_eq_true (List.all_eq_true.mp dA_X9_goCome_60 (66, .iastore, 1) (List.mem_of_getElem? (i := 3) rfl))
theorem dX9_goCome_67 : decode cX9_goCome 67 = .ok (.iload_n 2, 1) := of_decide_eq_true (List.all_eq_true.mp dA_X9_goCome_60 (67, .iload_n 2, 1) (List.mem_of_getElem? (i := 4) rfl))
theorem dX9_goCome_68 : decode cX9_goCome 68 = .ok (.ifCond .eq 7, 3) := of_decide_eq_true (List.all_eq_true.mp dA_X9_goCome_60 (68, .ifCond .eq 7, 3) (List.mem_of_getElem? (i := 5) rfl))
theorem dX9_goCome_71 : decode cX9_goCome 71 = .ok (.iconst 1, 1) := of_decide_eq_true (List.all_eq_true.mp dA_X9_goCome_60 (71, .iconst 1, 1) (List.mem_of_getElem? (i := 6) rfl))
theorem dX9_goCome_72 : decode cX9_goCome 72 = .ok (.goto 4, 3) := of_decide_eq_true (List.all_eq_true.mp dA_X9_goCome_60 (72, .goto 4, 3) (List.mem_of_getElem? (i := 7) rfl))
theorem dX9_goCome_75 : decode cX9_goCome 75 = .ok (.iconst 0, 1) := of_decide_eq_true (List.all_eq_true.mp dA_X9_goCome_60 (75, .iconst 0, 1) (List.mem_of_getElem? (i := 8) rfl))
theorem dX9_goCome_76 : decode cX9_goCome 76 = .ok (.ireturn, 1) := of_decide_eq_true (List.all_eq_true.mp dA_X9_goCome_60 (76, .ireturn, 1) (List.mem_of_getElem? (i := 9) rfl))
set_option maxRecDepth 20000 in
theorem dA_X9_save_0 : (([(0, .aload_n 0, 1), (1, .getfield 7, 3), (4, .iconst 4, 1), (5, .iaload, 1), (6, .bipush 8, 2), (8, .if_icmp .ne 43, 3), (11, .iconst 0, 1), (12, .istore_n 1, 1), (13, .iload_n 1, 1), (14, .bipush 126, 2), (16, .if_icmp .ge 27, 3), (19, .aload_n 0, 1), (20, .getfield 7, 3), (23, .bipush 106, 2), (25, .iload_n 1, 1), (26, .iadd, 1), (27, .aload_n 0, 1), (28, .getfield 7, 3), (31, .bipush 124, 2), (33, .iload_n 1, 1), (34, .iadd, 1), (35, .iaload, 1), (36, .iastore, 1), (37, .iinc 1 1, 3), (40, .goto (-27), 3), (43, .aload_n 0, 1), (44, .getfield 7, 3), (47, .iconst 4, 1), (48, .bipush 7, 2), (50, .iastore, 1), (51, .iconst 0, 1), (52, .istore_n 1, 1), (53, .iload_n 1, 1), (54, .bipush 18, 2), (56, .if_icmp .ge 36, 3), (59, .aload_n 0, 1), (60, .getfield 7, 3), (63, .bipush 106, 2), (65, .bipush 18, 2), (67, .aload_n 0, 1)] : List (Nat × Instr × Nat)).all fun q => decide (decode cX9_save q.1 = .ok (q.2.1, q.2.2))) = true := by decide +kernel
theorem dX9_save_0 : decode cX9_save 0 = .ok (.aload_n 0, 1) := of_decide_eq_true (List.all_eq_true.mp dA_X9_save_0 (0, .aload_n 0, 1) (List.mem_of_getElem? (i := 0) rfl))
theorem dX9_save_1 : decode cX9_save 1 = .ok (.getfield 7, 3) := of_decide_eq_true (List.all_eq_true.mp dA_X9_save_0 (1, .getfield 7, 3) (List.mem_of_getElem? (i := 1) rfl))
theorem dX9_save_4 : decode cX9_save 4 = .ok (.iconst 4, 1) := of_decide_eq_true (List.all_eq_true.mp dA_X9_save_0 (4, .iconst 4, 1) (List.mem_of_getElem? (i := 2) rfl))
theorem dX9_save_5 : decode cX9_save 5 = .ok (.iaload, 1) := of_decide_eq_true (List.all_eq_true.mp dA_X9_save_0 (5, .iaload, 1) (List.mem_of_getElem? (i := 3) rfl))
theorem dX9_save_6 : decode cX9_save 6 = .ok (.bipush 8, 2) := of_decide_eq_true (List.all_eq_true.mp dA_X9_save_0 (6, .bipush 8, 2) (List.mem_of_getElem? (i := 4) rfl))
theorem dX9_save_8 : decode cX9_save 8 = .ok (.if_icmp .ne 43, 3) := of_decide_eq_true (List.all_eq_true.mp dA_X9_save_0 (8, .if_icmp .ne 43, 3) (List.mem_of_getElem? (i := 5) rfl))
theorem dX9_save_11 : decode cX9_save 11 = .ok (.iconst 0, 1) := of_decide_eq_true (List.all_eq_true.mp dA_X9_save_0 (11, .iconst 0, 1) (List.mem_of_getElem? (i := 6) rfl))
theorem dX9_save_12 : decode cX9_save 12 = .ok (.istore_n 1, 1) := of_decide_eq_true (List.all_eq_true.mp dA_X9_save_0 (12, .istore_n 1, 1) (List.mem_of_getElem? (i := 7) rfl))
theorem dX9_save_13 : decode cX9_save 13 = .ok (.iload_n 1, 1) := of_decide_eq_true (List.all_eq_true.mp dA_X9_save_0 (13, .iload_n 1, 1) (List.mem_of_getElem? (i := 8) rfl))
theorem dX9_save_14 : decode cX9_save 14 = .ok (.bipush 126, 2) := of_decide_eq_true (List.all_eq_true.mp dA_X9_save_0 (14, .bipush 126, 2) (List.mem_of_getElem? (i := 9) rfl))
theorem dX9_save_16 : decode cX9_save 16 = .ok (.if_icmp .ge 27, 3) := of_decide_eq_true (List.all_eq_true.mp dA_X9_save_0 (16, .if_icmp .ge 27, 3) (List.mem_of_getElem? (i := 10) rfl))
theorem dX9_save_19 : decode cX9_save 19 = .ok (.aload_n 0, 1) := of_decide_eq_true (List.all_eq_true.mp dA_X9_save_0 (19, .aload_n 0, 1) (List.mem_of_getElem? (i := 11) rfl))
theorem dX9_save_20 : decode cX9_save 20 = .ok (.getfield 7, 3) := of_decide_eq_true (List.all_eq_true.mp dA_X9_save_0 (20, .getfield 7, 3) (List.mem_of_getElem? (i := 12) rfl))
theorem dX9_save_23 : decode cX9_save 23 = .ok (.bipush 106, 2) := of_decide_eq_true (List.all_eq_true.mp dA_X9_save_0 (23, .bipush 106, 2) (List.mem_of_getElem? (i := 13) rfl))
theorem dX9_save_25 : decode cX9_save 25 = .ok (.iload_n 1, 1) := of_decide_eq_true (List.all_eq_true.mp dA_X9_save_0 (25, .iload_n 1, 1) (List.mem_of_getElem? (i := 14) rfl))
theorem dX9_save_26 : decode cX9_save 26 = .ok (.iadd, 1) := of_decide_eq_true (List.all_eq_true.mp dA_X9_save_0 (26, .iadd, 1) (List.mem_of_getElem? (i := 15) rfl))
theorem dX9_save_27 : decode cX9_save 27 = .ok (.aload_n 0, 1) := of_decide_eq_true (List.all_eq_true.mp dA_X9_save_0 (27, .aload_n 0, 1) (List.mem_of_getElem? (i := 16) rfl))
theorem dX9_save_28 : decode cX9_save 28 = .ok (.getfield 7, 3) := of_decide_eq_true (List.all_eq_true.mp dA_X9_save_0 (28, .getfield 7, 3) (List.mem_of_getElem? (i := 17) rfl))
theorem dX9_save_31 : decode cX9_save 31 = .ok (.bipush 124, 2) := of_decide_eq_true (List.all_eq_true.mp dA_X9_save_0 (31, .bipush 124, 2) (List.mem_of_getElem? (i := 18) rfl))
theorem dX9_save_33 : decode cX9_save 33 = .ok (.iload_n 1, 1) := of_decide_eq_true (List.all_eq_true.mp dA_X9_save_0 (33, .iload_n 1, 1) (List.mem_of_getElem? (i := 19) rfl))
theorem dX9_save_34 : decode cX9_save 34 = .ok (.iadd, 1) := of_decide_eq_true (List.all_eq_true.mp dA_X9_save_0 (34, .iadd, 1) (List.mem_of_getElem? (i := 20) rfl))
theorem dX9_save_35 : decode cX9_save 35 = .ok (.iaload, 1) := of_decide_eq_true (List.all_eq_true.mp dA_X9_save_0 (35, .iaload, 1) (List.mem_of_getElem? (i := 21) rfl))
theorem dX9_save_36 : decode cX9_save 36 = .ok (.iastore, 1) := of_decide_eq_true (List.all_eq_true.mp dA_X9_save_0 (36, .iastore, 1) (List.mem_of_getElem? (i := 22) rfl))
theorem dX9_save_37 : decode cX9_save 37 = .ok (.iinc 1 1, 3) := of_decide_eq_true (List.all_eq_true.mp dA_X9_save_0 (37, .iinc 1 1, 3) (List.mem_of_getElem? (i := 23) rfl))
theorem dX9_save_40 : decode cX9_save 40 = .ok (.goto (-27), 3) := of_decide_eq_true (List.all_eq_true.mp dA_X9_save_0 (40, .goto (-27), 3) (List.mem_of_getElem? (i := 24) rfl))
theorem dX9_save_43 : decode cX9_save 43 = .ok (.aload_n 0, 1) := of_decide_eq_true (List.all_eq_true.mp dA_X9_save_0 (43, .aload_n 0, 1) (List.mem_of_getElem? (i := 25) rfl))
theorem dX9_save_44 : decode cX9_save 44 = .ok (.getfield 7, 3) := of_decide_eq_true (List.all_eq_true.mp dA_X9_save_0 (44, .getfield 7, 3) (List.mem_of_getElem? (i := 26) rfl))
theorem dX9_save_47 : decode cX9_save 47 = .ok (.iconst 4, 1) := of_decide_eq_true (List.all_eq_true.mp dA_X9_save_0 (47, .iconst 4, 1) (List.mem_of_getElem? (i := 27) rfl))
theorem dX9_save_48 : decode cX9_save 48 = .ok (.bipush 7, 2) := of_decide_eq_true (List.all_eq_true.mp dA_X9_save_0 (48, .bipush 7, 2) (List.mem_of_getElem? (i := 28) rfl))
theorem dX9_save_50 : decode cX9_save 50 = .ok (.iastore, 1) := of_decide_eq_true (List.all_eq_true.mp dA_X9_save_0 (50, .iastore, 1) (List.mem_of_getElem? (i := 29) rfl))
theorem dX9_save_51 : decode cX9_save 51 = .ok (.iconst 0, 1) := of_decide_eq_true (List.all_eq_true.mp dA_X9_save_0 (51, .iconst 0, 1) (List.mem_of_getElem? (i := 30) rfl))
theorem dX9_save_52 : decode cX9_save 52 = .ok (.istore_n 1, 1) := of_decide_eq_true (List.all_eq_true.mp dA_X9_save_0 (52, .istore_n 1, 1) (List.mem_of_getElem? (i := 31) rfl))
theorem dX9_save_53 : decode cX9_save 53 = .ok (.iload_n 1, 1) := of_decide_eq_true (List.all_eq_true.mp dA_X9_save_0 (53, .iload_n 1, 1) (List.mem_of_getElem? (i := 32) rfl))
theorem dX9_save_54 : decode cX9_save 54 = .ok (.bipush 18, 2) := of_decide_eq_true (List.all_eq_true.mp dA_X9_save_0 (54, .bipush 18, 2) (List.mem_of_getElem? (i := 33) rfl))
theorem dX9_save_56 : decode cX9_save 56 = .ok (.if_icmp .ge 36, 3) := of_decide_eq_true (List.all_eq_true.mp dA_X9_save_0 (56, .if_icmp .ge 36, 3) (List.mem_of_getElem? (i := 34) rfl))
theorem dX9_save_59 : decode cX9_save 59 = .ok (.aload_n 0, 1) := of_decide_eq_true (List.all_eq_true.mp dA_X9_save_0 (59, .aload_n 0, 1) (List.mem_of_getElem? (i := 35) rfl))
theorem dX9_save_60 : decode cX9_save 60 = .ok (.getfield 7, 3) := of_decide_eq_true (List.all_eq_true.mp dA_X9_save_0 (60, .getfield 7, 3) (List.mem_of_getElem? (i := 36) rfl))
theorem dX9_save_63 : decode cX9_save 63 = .ok (.bipush 106, 2) := of_decide_eq_true (List.all_eq_true.mp dA_X9_save_0 (63, .bipush 106, 2) (List.mem_of_getElem? (i := 37) rfl))
theorem dX9_save_65 : decode cX9_save 65 = .ok (.bipush 18, 2) := of_decide_eq_true (List.all_eq_true.mp dA_X9_save_0 (65, .bipush 18, 2) (List.mem_of_getElem? (i := 38) rfl))
theorem dX9_save_67 : decode cX9_save 67 = .ok (.aload_n 0, 1) := of_decide_eq_true (List.all_eq_true.mp dA_X9_save_0 (67, .aload_n 0, 1) (List.mem_of_getElem? (i := 39) rfl))
set_option maxRecDepth 20000 in
theorem dA_X9_save_68 : (([(68, .getfield 7, 3), (71, .iconst 4, 1), (72, .iaload, 1), (73, .imul, 1), (74, .iadd, 1), (75, .iload_n 1, 1), (76, .iadd, 1), (77, .aload_n 0, 1), (78, .getfield 7, 3), (81, .iconst 5, 1), (82, .iload_n 1, 1), (83, .iadd, 1), (84, .iaload, 1), (85, .iastore, 1), (86, .iinc 1 1, 3), (89, .goto (-36), 3), (92, .aload_n 0, 1), (93, .getfield 7, 3), (96, .iconst 4, 1), (97, .dup2, 1), (98, .iaload, 1), (99, .iconst 1, 1), (100, .iadd, 1), (101, .iastore, 1), (102, .return_, 1)] : List (Nat × Instr × Nat)).all fun q => decide (decode cX9_save q.1 = .ok (q.2.1, q.2.2))) = true := by decide +kernel
theorem dX9_save_68 : decode cX9_save 68 = .ok (.getfield 7, 3) := of_decide_eq_true (List.all_eq_true.mp dA_X9_save_68 (68, .getfield 7, 3) (List.mem_of_getElem? (i := 0) rfl))
theorem dX9_save_71 : decode cX9_save 71 = .ok (.iconst 4, 1) := of_decide_eq_true (List.all_eq_true.mp dA_X9_save_68 (71, .iconst 4, 1) (List.mem_of_getElem? (i := 1) rfl))
theorem dX9_save_72 : decode cX9_save 72 = .ok (.iaload, 1) := of_decide_eq_true (List.all_eq_true.mp dA_X9_save_68 (72, .iaload, 1) (List.mem_of_getElem? (i := 2) rfl))
theorem dX9_save_73 : decode cX9_save 73 = .ok (.imul, 1) := of_decide_eq_true (List.all_eq_true.mp dA_X9_save_68 (73, .imul, 1) (List.mem_of_getElem? (i := 3) rfl))
theorem dX9_save_74 : decode cX9_save 74 = .ok (.iadd, 1) := of_decide_eq_true (List.all_eq_true.mp dA_X9_save_68 (74, .iadd, 1) (List.mem_of_getElem? (i := 4) rfl))
theorem dX9_save_75 : decode cX9_save 75 = .ok (.iload_n 1, 1) := of_decide_eq_true (List.all_eq_true.mp dA_X9_save_68 (75, .iload_n 1, 1) (List.mem_of_getElem? (i := 5) rfl))
theorem dX9_save_76 : decode cX9_save 76 = .ok (.iadd, 1) := of_decide_eq_true (List.all_eq_true.mp dA_X9_save_68 (76, .iadd, 1) (List.mem_of_getElem? (i := 6) rfl))
theorem dX9_save_77 : decode cX9_save 77 = .ok (.aload_n 0, 1) := of_decide_eq_true (List.all_eq_true.mp dA_X9_save_68 (77, .aload_n 0, 1) (List.mem_of_getElem? (i := 7) rfl))
theorem dX9_save_78 : decode cX9_save 78 = .ok (.getfield 7, 3) := of_decide_eq_true (List.all_eq_true.mp dA_X9_save_68 (78, .getfield 7, 3) (List.mem_of_getElem? (i := 8) rfl))
theorem dX9_save_81 : decode cX9_save 81 = .ok (.iconst 5, 1) := of_decide_eq_true (List.all_eq_true.mp dA_X9_save_68 (81, .iconst 5, 1) (List.mem_of_getElem? (i := 9) rfl))
theorem dX9_save_82 : decode cX9_save 82 = .ok (.iload_n 1, 1) := of_decide_eq_true (List.all_eq_true.mp dA_X9_save_68 (82, .iload_n 1, 1) (List.mem_of_getElem? (i := 10) rfl))
theorem dX9_save_83 : decode cX9_save 83 = .ok (.iadd, 1) := of_decide_eq_true (List.all_eq_true.mp dA_X9_save_68 (83, .iadd, 1) (List.mem_of_getElem? (i := 11) rfl))
theorem dX9_save_84 : decode cX9_save 84 = .ok (.iaload, 1) := of_decide_eq_true (List.all_eq_true.mp dA_X9_save_68 (84, .iaload, 1) (List.mem_of_getElem? (i := 12) rfl))
theorem dX9_save_85 : decode cX9_save 85 = .ok (.iastore, 1) := of_decide_eq_true (List.all_eq_true.mp dA_X9_save_68 (85, .iastore, 1) (List.mem_of_getElem? (i := 13) rfl))
theorem dX9_save_86 : decode cX9_save 86 = .ok (.iinc 1 1, 3) := of_decide_eq_true (List.all_eq_true.mp dA_X9_save_68 (86, .iinc 1 1, 3) (List.mem_of_getElem? (i := 14) rfl))
theorem dX9_save_89 : decode cX9_save 89 = .ok (.goto (-36), 3) := of_decide_eq_true (List.all_eq_true.mp dA_X9_save_68 (89, .goto (-36), 3) (List.mem_of_getElem? (i := 15) rfl))
theorem dX9_save_92 : decode cX9_save 92 = .ok (.aload_n 0, 1) := of_decide_eq_true (List.all_eq_true.mp dA_X9_save_68 (92, .aload_n 0, 1) (List.mem_of_getElem? (i := 16) rfl))
theorem dX9_save_93 : decode cX9_save 93 = .ok (.getfield 7, 3) := of_decide_eq_true (List.all_eq_true.mp dA_X9_save_68 (93, .getfield 7, 3) (List.mem_of_getElem? (i := 17) rfl))
theorem dX9_save_96 : decode cX9_save 96 = .ok (.iconst 4, 1) := of_decide_eq_true (List.all_eq_true.mp dA_X9_save_68 (96, .iconst 4, 1) (List.mem_of_getElem? (i := 18) rfl))
theorem dX9_save_97 : decode cX9_save 97 = .ok (.dup2, 1) := of_decide_eq_true (List.all_eq_true.mp dA_X9_save_68 (97, .dup2, 1) (List.mem_of_getElem? (i := 19) rfl))
theorem dX9_save_98 : decode cX9_save 98 = .ok (.iaload, 1) := of_decide_eq_true (List.all_eq_true.mp dA_X9_save_68 (98, .iaload, 1) (List.mem_of_getElem? (i := 20) rfl))
theorem dX9_save_99 : decode cX9_save 99 = .ok (.iconst 1, 1) := of_decide_eq_true (List.all_eq_true.mp dA_X9_save_68 (99, .iconst 1, 1) (List.mem_of_getElem? (i := 21) rfl))
theorem dX9_save_100 : decode cX9_save 100 = .ok (.iadd, 1) := of_decide_eq_true (List.all_eq_true.mp dA_X9_save_68 (100, .iadd, 1) (List.mem_of_getElem? (i := 22) rfl))
theorem dX9_save_101 : decode cX9_save 101 = .ok (.iastore, 1) := of_decide_eq_true (List.all_eq_true.mp dA_X9_save_68 (101, .iastore, 1) (List.mem_of_getElem? (i := 23) rfl))
theorem dX9_save_102 : decode cX9_save 102 = .ok (.return_, 1) := of_decide_eq_true (List.all_eq_true.mp dA_X9_save_68 (102, .return_, 1) (List.mem_of_getElem? (i := 24) rfl))
set_option maxRecDepth 20000 in
theorem ggX9_comes_X9_isOne : GoodIn wsX9_comes wsX9_isOne := goodIn_r _ [6, 7, 8, 9, 5, 10, 1, 11, 12, 13, 60, 61, 62, 63, 64, 65, 66, 67, 68, 69, 70, 71, 72, 73, 74, 75, 76, 77, 78] (by decide +kernel) (by decide +kernel)
set_option maxRecDepth 20000 in
theorem gX9_comes_X9_isOne : GoodIn wsX9_comes (wsV RX9 129 RX9 yX9_isOne wsX9_isOne) := goodIn_app (goodIn_of _ (by decide +kernel)) ggX9_comes_X9_isOne
set_option maxRecDepth 20000 in
theorem ggX9_comes_X9_bad : GoodIn wsX9_comes wsX9_bad := goodIn_r _ [17, 18, 60, 61, 62, 63, 64, 65, 66, 67, 68, 69, 70, 71, 72, 73, 74, 75, 76, 77, 78] (by decide +kernel) (by decide +kernel)
set_option maxRecDepth 20000 in
theorem gX9_comes_X9_bad : GoodIn wsX9_comes (wsV RX9 75 RX9 yX9_bad wsX9_bad) := goodIn_app (goodIn_of _ (by decide +kernel)) ggX9_comes_X9_bad
set_option maxRecDepth 20000 in
theorem ggX9_comes_X9_has : GoodIn wsX9_comes wsX9_has := goodIn_r _ [21] (by decide +kernel) (by decide +kernel)
set_option maxRecDepth 20000 in
theorem gX9_comes_X9_has : GoodIn wsX9_comes (va_wsS RX9 106 yX9_has wsX9_has) := goodIn_app (goodIn_of _ (by decide +kernel)) ggX9_comes_X9_has
set_option maxRecDepth 20000 in
theorem ggX9_comes_X9_no : GoodIn wsX9_comes wsX9_no := goodIn_r _ [25, 18, 60, 61, 62, 63, 64, 65, 66, 67, 68, 69, 70, 71, 72, 73, 74, 75, 76, 77, 78] (by decide +kernel) (by decide +kernel)
set_option maxRecDepth 20000 in
theorem gX9_comes_X9_no : GoodIn wsX9_comes (wsV RX9 132 RX9 yX9_no wsX9_no) := goodIn_app (goodIn_of _ (by decide +kernel)) ggX9_comes_X9_no
set_option maxRecDepth 20000 in
theorem ggX9_comes_X9_save : GoodIn wsX9_comes wsX9_save := goodIn_r _ [29, 1, 60, 61, 62, 63, 64, 65, 66, 67, 68, 69, 70, 71, 72, 73, 74, 75, 76, 77, 78] (by decide +kernel) (by decide +kernel)
set_option maxRecDepth 20000 in
theorem gX9_comes_X9_save : GoodIn wsX9_comes (wsV RX9 135 RX9 yX9_save wsX9_save) := goodIn_app (goodIn_of _ (by decide +kernel)) ggX9_comes_X9_save
set_option maxRecDepth 20000 in
theorem ggX9_comes_X9_goCome : GoodIn wsX9_comes wsX9_goCome := goodIn_r _ [32, 33, 34, 5, 35, 19, 20, 21, 36, 37, 38, 39, 40, 41, 42, 43, 44, 45, 46, 47, 48, 49, 50, 51, 52, 53, 54, 55, 56, 57, 58, 59] (by decide +kernel) (by decide +kernel)
set_option maxRecDepth 20000 in
theorem gX9_comes_X9_goCome : GoodIn wsX9_comes (va_wsS RX9 138 yX9_goCome wsX9_goCome) := goodIn_app (goodIn_of _ (by decide +kernel)) ggX9_comes_X9_goCome
set_option maxRecDepth 20000 in
theorem dA_X9_comes_0 : (([(0, .aload_n 0, 1), (1, .iload_n 1, 1), (2, .invokevirtual 129, 3), (5, .ifCond .ne 10, 3), (8, .aload_n 0, 1), (9, .bipush (-2), 2), (11, .invokevirtual 75, 3), (14, .ireturn, 1), (15, .aload_n 0, 1), (16, .getfield 7, 3), (19, .bipush 19, 2), (21, .iaload, 1), (22, .iload_n 1, 1), (23, .invokestatic 106, 3), (26, .ifCond .eq 8, 3), (29, .aload_n 0, 1), (30, .invokevirtual 132, 3), (33, .ireturn, 1), (34, .aload_n 0, 1), (35, .invokevirtual 135, 3), (38, .aload_n 0, 1), (39, .getfield 7, 3), (42, .iload_n 1, 1), (43, .invokestatic 138, 3), (46, .ireturn, 1)] : List (Nat × Instr × Nat)).all fun q => decide (decode cX9_comes q.1 = .ok (q.2.1, q.2.2))) = true := by decide +kernel
theorem dX9_comes_0 : decode cX9_comes 0 = .ok (.aload_n 0, 1) := of_decide_eq_true (List.all_eq_true.mp dA_X9_comes_0 (0, .aload_n 0, 1) (List.mem_of_getElem? (i := 0) rfl))
theorem dX9_comes_1 : decode cX9_comes 1 = .ok (.iload_n 1, 1) := of_decide_eq_true (List.all_eq_true.mp dA_X9_comes_0 (1, .iload_n 1, 1) (List.mem_of_getElem? (i := 1) rfl))
theorem dX9_comes_2 : decode cX9_comes 2 = .ok (.invokevirtual 129, 3) := of_decide_eq_true (List.all_eq_true.mp dA_X9_comes_0 (2, .invokevirtual 129, 3) (List.mem_of_getElem? (i := 2) rfl))
theorem dX9_comes_5 : decode cX9_comes 5 = .ok (.ifCond .ne 10, 3) := of_decide_eq_true (List.all_eq_true.mp dA_X9_comes_0 (5, .ifCond .ne 10, 3) (List.mem_of_getElem? (i := 3) rfl))
theorem dX9_comes_8 : decode cX9_comes 8 = .ok (.aload_n 0, 1) := of_decide_eq_true (List.all_eq_true.mp dA_X9_comes_0 (8, .aload_n 0, 1) (List.mem_of_getElem? (i := 4) rfl))
theorem dX9_comes_9 : decode cX9_comes 9 = .ok (.bipush (-2), 2) := of_decide_eq_true (List.all_eq_true.mp dA_X9_comes_0 (9, .bipush (-2), 2) (List.mem_of_getElem? (i := 5) rfl))
theorem dX9_comes_11 : decode cX9_comes 11 = .ok (.invokevirtual 75, 3) := of_decide_eq_true (List.all_eq_true.mp dA_X9_comes_0 (11, .invokevirtual 75, 3) (List.mem_of_getElem? (i := 6) rfl))
theorem dX9_comes_14 : decode cX9_comes 14 = .ok (.ireturn, 1) := of_decide_eq_true (List.all_eq_true.mp dA_X9_comes_0 (14, .ireturn, 1) (List.mem_of_getElem? (i := 7) rfl))
theorem dX9_comes_15 : decode cX9_comes 15 = .ok (.aload_n 0, 1) := of_decide_eq_true (List.all_eq_true.mp dA_X9_comes_0 (15, .aload_n 0, 1) (List.mem_of_getElem? (i := 8) rfl))
theorem dX9_comes_16 : decode cX9_comes 16 = .ok (.getfield 7, 3) := of_decide_eq_true (List.all_eq_true.mp dA_X9_comes_0 (16, .getfield 7, 3) (List.mem_of_getElem? (i := 9) rfl))
theorem dX9_comes_19 : decode cX9_comes 19 = .ok (.bipush 19, 2) := of_decide_eq_true (List.all_eq_true.mp dA_X9_comes_0 (19, .bipush 19, 2) (List.mem_of_getElem? (i := 10) rfl))
theorem dX9_comes_21 : decode cX9_comes 21 = .ok (.iaload, 1) := of_decide_eq_true (List.all_eq_true.mp dA_X9_comes_0 (21, .iaload, 1) (List.mem_of_getElem? (i := 11) rfl))
theorem dX9_comes_22 : decode cX9_comes 22 = .ok (.iload_n 1, 1) := of_decide_eq_true (List.all_eq_true.mp dA_X9_comes_0 (22, .iload_n 1, 1) (List.mem_of_getElem? (i := 12) rfl))
theorem dX9_comes_23 : decode cX9_comes 23 = .ok (.invokestatic 106, 3) := of_decide_eq_true (List.all_eq_true.mp dA_X9_comes_0 (23, .invokestatic 106, 3) (List.mem_of_getElem? (i := 13) rfl))
theorem dX9_comes_26 : decode cX9_comes 26 = .ok (.ifCond .eq 8, 3) := of_decide_eq_true (List.all_eq_true.mp dA_X9_comes_0 (26, .ifCond .eq 8, 3) (List.mem_of_getElem? (i := 14) rfl))
theorem dX9_comes_29 : decode cX9_comes 29 = .ok (.aload_n 0, 1) := of_decide_eq_true (List.all_eq_true.mp dA_X9_comes_0 (29, .aload_n 0, 1) (List.mem_of_getElem? (i := 15) rfl))
theorem dX9_comes_30 : decode cX9_comes 30 = .ok (.invokevirtual 132, 3) := of_decide_eq_true (List.all_eq_true.mp dA_X9_comes_0 (30, .invokevirtual 132, 3) (List.mem_of_getElem? (i := 16) rfl))
theorem dX9_comes_33 : decode cX9_comes 33 = .ok (.ireturn, 1) := of_decide_eq_true (List.all_eq_true.mp dA_X9_comes_0 (33, .ireturn, 1) (List.mem_of_getElem? (i := 17) rfl))
theorem dX9_comes_34 : decode cX9_comes 34 = .ok (.aload_n 0, 1) := of_decide_eq_true (List.all_eq_true.mp dA_X9_comes_0 (34, .aload_n 0, 1) (List.mem_of_getElem? (i := 18) rfl))
theorem dX9_comes_35 : decode cX9_comes 35 = .ok (.invokevirtual 135, 3) := of_decide_eq_true (List.all_eq_true.mp dA_X9_comes_0 (35, .invokevirtual 135, 3) (List.mem_of_getElem? (i := 19) rfl))
theorem dX9_comes_38 : decode cX9_comes 38 = .ok (.aload_n 0, 1) := of_decide_eq_true (List.all_eq_true.mp dA_X9_comes_0 (38, .aload_n 0, 1) (List.mem_of_getElem? (i := 20) rfl))
theorem dX9_comes_39 : decode cX9_comes 39 = .ok (.getfield 7, 3) := of_decide_eq_true (List.all_eq_true.mp dA_X9_comes_0 (39, .getfield 7, 3) (List.mem_of_getElem? (i := 21) rfl))
theorem dX9_comes_42 : decode cX9_comes 42 = .ok (.iload_n 1, 1) := of_decide_eq_true (List.all_eq_true.mp dA_X9_comes_0 (42, .iload_n 1, 1) (List.mem_of_getElem? (i := 22) rfl))
theorem dX9_comes_43 : decode cX9_comes 43 = .ok (.invokestatic 138, 3) := of_decide_eq_true (List.all_eq_true.mp dA_X9_comes_0 (43, .invokestatic 138, 3) (List.mem_of_getElem? (i := 23) rfl))
theorem dX9_comes_46 : decode cX9_comes 46 = .ok (.ireturn, 1) := of_decide_eq_true (List.all_eq_true.mp dA_X9_comes_0 (46, .ireturn, 1) (List.mem_of_getElem? (i := 24) rfl))
set_option maxRecDepth 20000 in
theorem ggX9_goes_X9_isOne : GoodIn wsX9_goes wsX9_isOne := goodIn_r _ [6, 7, 8, 9, 5, 10, 1, 11, 12, 13, 33, 34, 35, 36, 37, 38, 39, 40, 41, 42, 43, 44, 45, 46, 47, 48, 49, 50, 51] (by decide +kernel) (by decide +kernel)
set_option maxRecDepth 20000 in
theorem gX9_goes_X9_isOne : GoodIn wsX9_goes (wsV RX9 129 RX9 yX9_isOne wsX9_isOne) := goodIn_app (goodIn_of _ (by decide +kernel)) ggX9_goes_X9_isOne
set_option maxRecDepth 20000 in
theorem ggX9_goes_X9_bad : GoodIn wsX9_goes wsX9_bad := goodIn_r _ [17, 18, 33, 34, 35, 36, 37, 38, 39, 40, 41, 42, 43, 44, 45, 46, 47, 48, 49, 50, 51] (by decide +kernel) (by decide +kernel)
set_option maxRecDepth 20000 in
theorem gX9_goes_X9_bad : GoodIn wsX9_goes (wsV RX9 75 RX9 yX9_bad wsX9_bad) := goodIn_app (goodIn_of _ (by decide +kernel)) ggX9_goes_X9_bad
set_option maxRecDepth 20000 in
theorem ggX9_goes_X9_has : GoodIn wsX9_goes wsX9_has := goodIn_r _ [21] (by decide +kernel) (by decide +kernel)
set_option maxRecDepth 20000 in
theorem gX9_goes_X9_has : GoodIn wsX9_goes (va_wsS RX9 106 yX9_has wsX9_has) := goodIn_app (goodIn_of _ (by decide +kernel)) ggX9_goes_X9_has
set_option maxRecDepth 20000 in
theorem ggX9_goes_X9_no : GoodIn wsX9_goes wsX9_no := goodIn_r _ [25, 18, 33, 34, 35, 36, 37, 38, 39, 40, 41, 42, 43, 44, 45, 46, 47, 48, 49, 50, 51] (by decide +kernel) (by decide +kernel)
set_option maxRecDepth 20000 in
theorem gX9_goes_X9_no : GoodIn wsX9_goes (wsV RX9 132 RX9 yX9_no wsX9_no) := goodIn_app (goodIn_of _ (by decide +kernel)) ggX9_goes_X9_no
set_option maxRecDepth 20000 in
theorem ggX9_goes_X9_save : GoodIn wsX9_goes wsX9_save := goodIn_r _ [29, 1, 33, 34, 35, 36, 37, 38, 39, 40, 41, 42, 43, 44, 45, 46, 47, 48, 49, 50, 51] (by decide +kernel) (by decide +kernel)
set_option maxRecDepth 20000 in
theorem gX9_goes_X9_save : GoodIn wsX9_goes (wsV RX9 135 RX9 yX9_save wsX9_save) := goodIn_app (goodIn_of _ (by decide +kernel)) ggX9_goes_X9_save
set_option maxRecDepth 20000 in
theorem ggX9_goes_X9_bits : GoodIn wsX9_goes wsX9_bits := goodIn_r _ [32] (by decide +kernel) (by decide +kernel)
set_option maxRecDepth 20000 in
theorem gX9_goes_X9_bits : GoodIn wsX9_goes (va_wsS RX9 103 yX9_bits wsX9_bits) := goodIn_app (goodIn_of _ (by decide +kernel)) ggX9_goes_X9_bits
set_option maxRecDepth 20000 in
theorem dA_X9_goes_0 : (([(0, .aload_n 0, 1), (1, .iload_n 1, 1), (2, .invokevirtual 129, 3), (5, .ifCond .ne 10, 3), (8, .aload_n 0, 1), (9, .bipush (-2), 2), (11, .invokevirtual 75, 3), (14, .ireturn, 1), (15, .aload_n 0, 1), (16, .getfield 7, 3), (19, .bipush 19, 2), (21, .iaload, 1), (22, .iload_n 1, 1), (23, .invokestatic 106, 3), (26, .ifCond .ne 8, 3), (29, .aload_n 0, 1), (30, .invokevirtual 132, 3), (33, .ireturn, 1), (34, .aload_n 0, 1), (35, .invokevirtual 135, 3), (38, .aload_n 0, 1), (39, .getfield 7, 3), (42, .bipush 19, 2), (44, .dup2, 1), (45, .iaload, 1), (46, .iconst 1, 1), (47, .iload_n 1, 1), (48, .ishl, 1), (49, .iconst (-1), 1), (50, .ixor, 1), (51, .iand, 1), (52, .iastore, 1), (53, .aload_n 0, 1), (54, .getfield 7, 3), (57, .bipush 19, 2), (59, .iaload, 1), (60, .invokestatic 103, 3), (63, .ireturn, 1)] : List (Nat × Instr × Nat)).all fun q => decide (decode cX9_goes q.1 = .ok (q.2.1, q.2.2))) = true := by decide +kernel
theorem dX9_goes_0 : decode cX9_goes 0 = .ok (.aload_n 0, 1) := of_decide_eq_true (List.all_eq_true.mp dA_X9_goes_0 (0, .aload_n 0, 1) (List.mem_of_getElem? (i := 0) rfl))
theorem dX9_goes_1 : decode cX9_goes 1 = .ok (.iload_n 1, 1) := of_decide_eq_true (List.all_eq_true.mp dA_X9_goes_0 (1, .iload_n 1, 1) (List.mem_of_getElem? (i := 1) rfl))
theorem dX9_goes_2 : decode cX9_goes 2 = .ok (.invokevirtual 129, 3) := of_decide_eq_true (List.all_eq_true.mp dA_X9_goes_0 (2, .invokevirtual 129, 3) (List.mem_of_getElem? (i := 2) rfl))
theorem dX9_goes_5 : decode cX9_goes 5 = .ok (.ifCond .ne 10, 3) := of_decide_eq_true (List.all_eq_true.mp dA_X9_goes_0 (5, .ifCond .ne 10, 3) (List.mem_of_getElem? (i := 3) rfl))
theorem dX9_goes_8 : decode cX9_goes 8 = .ok (.aload_n 0, 1) := of_decide_eq_true (List.all_eq_true.mp dA_X9_goes_0 (8, .aload_n 0, 1) (List.mem_of_getElem? (i := 4) rfl))
theorem dX9_goes_9 : decode cX9_goes 9 = .ok (.bipush (-2), 2) := of_decide_eq_true (List.all_eq_true.mp dA_X9_goes_0 (9, .bipush (-2), 2) (List.mem_of_getElem? (i := 5) rfl))
theorem dX9_goes_11 : decode cX9_goes 11 = .ok (.invokevirtual 75, 3) := of_decide_eq_true (List.all_eq_true.mp dA_X9_goes_0 (11, .invokevirtual 75, 3) (List.mem_of_getElem? (i := 6) rfl))
theorem dX9_goes_14 : decode cX9_goes 14 = .ok (.ireturn, 1) := of_decide_eq_true (List.all_eq_true.mp dA_X9_goes_0 (14, .ireturn, 1) (List.mem_of_getElem? (i := 7) rfl))
theorem dX9_goes_15 : decode cX9_goes 15 = .ok (.aload_n 0, 1) := of_decide_eq_true (List.all_eq_true.mp dA_X9_goes_0 (15, .aload_n 0, 1) (List.mem_of_getElem? (i := 8) rfl))
theorem dX9_goes_16 : decode cX9_goes 16 = .ok (.getfield 7, 3) := of_decide_eq_true (List.all_eq_true.mp dA_X9_goes_0 (16, .getfield 7, 3) (List.mem_of_getElem? (i := 9) rfl))
theorem dX9_goes_19 : decode cX9_goes 19 = .ok (.bipush 19, 2) := of_decide_eq_true (List.all_eq_true.mp dA_X9_goes_0 (19, .bipush 19, 2) (List.mem_of_getElem? (i := 10) rfl))
theorem dX9_goes_21 : decode cX9_goes 21 = .ok (.iaload, 1) := of_decide_eq_true (List.all_eq_true.mp dA_X9_goes_0 (21, .iaload, 1) (List.mem_of_getElem? (i := 11) rfl))
theorem dX9_goes_22 : decode cX9_goes 22 = .ok (.iload_n 1, 1) := of_decide_eq_true (List.all_eq_true.mp dA_X9_goes_0 (22, .iload_n 1, 1) (List.mem_of_getElem? (i := 12) rfl))
theorem dX9_goes_23 : decode cX9_goes 23 = .ok (.invokestatic 106, 3) := of_decide_eq_true (List.all_eq_true.mp dA_X9_goes_0 (23, .invokestatic 106, 3) (List.mem_of_getElem? (i := 13) rfl))
theorem dX9_goes_26 : decode cX9_goes 26 = .ok (.ifCond .ne 8, 3) := of_decide_eq_true (List.all_eq_true.mp dA_X9_goes_0 (26, .ifCond .ne 8, 3) (List.mem_of_getElem? (i := 14) rfl))
theorem dX9_goes_29 : decode cX9_goes 29 = .ok (.aload_n 0, 1) := of_decide_eq_true (List.all_eq_true.mp dA_X9_goes_0 (29, .aload_n 0, 1) (List.mem_of_getElem? (i := 15) rfl))
theorem dX9_goes_30 : decode cX9_goes 30 = .ok (.invokevirtual 132, 3) := of_decide_eq_true (List.all_eq_true.mp dA_X9_goes_0 (30, .invokevirtual 132, 3) (List.mem_of_getElem? (i := 16) rfl))
theorem dX9_goes_33 : decode cX9_goes 33 = .ok (.ireturn, 1) := of_decide_eq_true (List.all_eq_true.mp dA_X9_goes_0 (33, .ireturn, 1) (List.mem_of_getElem? (i := 17) rfl))
theorem dX9_goes_34 : decode cX9_goes 34 = .ok (.aload_n 0, 1) := of_decide_eq_true (List.all_eq_true.mp dA_X9_goes_0 (34, .aload_n 0, 1) (List.mem_of_getElem? (i := 18) rfl))
theorem dX9_goes_35 : decode cX9_goes 35 = .ok (.invokevirtual 135, 3) := of_decide_eq_true (List.all_eq_true.mp dA_X9_goes_0 (35, .invokevirtual 135, 3) (List.mem_of_getElem? (i := 19) rfl))
theorem dX9_goes_38 : decode cX9_goes 38 = .ok (.aload_n 0, 1) := of_decide_eq_true (List.all_eq_true.mp dA_X9_goes_0 (38, .aload_n 0, 1) (List.mem_of_getElem? (i := 20) rfl))
theorem dX9_goes_39 : decode cX9_goes 39 = .ok (.getfield 7, 3) := of_decide_eq_true (List.all_eq_true.mp dA_X9_goes_0 (39, .getfield 7, 3) (List.mem_of_getElem? (i := 21) rfl))
theorem dX9_goes_42 : decode cX9_goes 42 = .ok (.bipush 19, 2) := of_decide_eq_true (List.all_eq_true.mp dA_X9_goes_0 (42, .bipush 19, 2) (List.mem_of_getElem? (i := 22) rfl))
theorem dX9_goes_44 : decode cX9_goes 44 = .ok (.dup2, 1) := of_decide_eq_true (List.all_eq_true.mp dA_X9_goes_0 (44, .dup2, 1) (List.mem_of_getElem? (i := 23) rfl))
theorem dX9_goes_45 : decode cX9_goes 45 = .ok (.iaload, 1) := of_decide_eq_true (List.all_eq_true.mp dA_X9_goes_0 (45, .iaload, 1) (List.mem_of_getElem? (i := 24) rfl))
theorem dX9_goes_46 : decode cX9_goes 46 = .ok (.iconst 1, 1) := of_decide_eq_true (List.all_eq_true.mp dA_X9_goes_0 (46, .iconst 1, 1) (List.mem_of_getElem? (i := 25) rfl))
theorem dX9_goes_47 : decode cX9_goes 47 = .ok (.iload_n 1, 1) := of_decide_eq_true (List.all_eq_true.mp dA_X9_goes_0 (47, .iload_n 1, 1) (List.mem_of_getElem? (i := 26) rfl))
theorem dX9_goes_48 : decode cX9_goes 48 = .ok (.ishl, 1) := of_decide_eq_true (List.all_eq_true.mp dA_X9_goes_0 (48, .ishl, 1) (List.mem_of_getElem? (i := 27) rfl))
theorem dX9_goes_49 : decode cX9_goes 49 = .ok (.iconst (-1), 1) := of_decide_eq_true (List.all_eq_true.mp dA_X9_goes_0 (49, .iconst (-1), 1) (List.mem_of_getElem? (i := 28) rfl))
theorem dX9_goes_50 : decode cX9_goes 50 = .ok (.ixor, 1) := of_decide_eq_true (List.all_eq_true.mp dA_X9_goes_0 (50, .ixor, 1) (List.mem_of_getElem? (i := 29) rfl))
theorem dX9_goes_51 : decode cX9_goes 51 = .ok (.iand, 1) := of_decide_eq_true (List.all_eq_true.mp dA_X9_goes_0 (51, .iand, 1) (List.mem_of_getElem? (i := 30) rfl))
theorem dX9_goes_52 : decode cX9_goes 52 = .ok (.iastore, 1) := of_decide_eq_true (List.all_eq_true.mp dA_X9_goes_0 (52, .iastore, 1) (List.mem_of_getElem? (i := 31) rfl))
theorem dX9_goes_53 : decode cX9_goes 53 = .ok (.aload_n 0, 1) := of_decide_eq_true (List.all_eq_true.mp dA_X9_goes_0 (53, .aload_n 0, 1) (List.mem_of_getElem? (i := 32) rfl))
theorem dX9_goes_54 : decode cX9_goes 54 = .ok (.getfield 7, 3) := of_decide_eq_true (List.all_eq_true.mp dA_X9_goes_0 (54, .getfield 7, 3) (List.mem_of_getElem? (i := 33) rfl))
theorem dX9_goes_57 : decode cX9_goes 57 = .ok (.bipush 19, 2) := of_decide_eq_true (List.all_eq_true.mp dA_X9_goes_0 (57, .bipush 19, 2) (List.mem_of_getElem? (i := 34) rfl))
theorem dX9_goes_59 : decode cX9_goes 59 = .ok (.iaload, 1) := of_decide_eq_true (List.all_eq_true.mp dA_X9_goes_0 (59, .iaload, 1) (List.mem_of_getElem? (i := 35) rfl))
theorem dX9_goes_60 : decode cX9_goes 60 = .ok (.invokestatic 103, 3) := of_decide_eq_true (List.all_eq_true.mp dA_X9_goes_0 (60, .invokestatic 103, 3) (List.mem_of_getElem? (i := 36) rfl))
theorem dX9_goes_63 : decode cX9_goes 63 = .ok (.ireturn, 1) := of_decide_eq_true (List.all_eq_true.mp dA_X9_goes_0 (63, .ireturn, 1) (List.mem_of_getElem? (i := 37) rfl))
set_option maxRecDepth 20000 in
theorem ggX9_letter_X9_isOne : GoodIn wsX9_letter wsX9_isOne := goodIn_r _ [6, 7, 8, 9, 5, 10, 1, 11, 12, 13, 31, 32, 33, 34, 35, 36, 37, 38, 39, 40, 41, 42, 43, 44, 45, 46, 47, 48, 49] (by decide +kernel) (by decide +kernel)
set_option maxRecDepth 20000 in
theorem gX9_letter_X9_isOne : GoodIn wsX9_letter (wsV RX9 129 RX9 yX9_isOne wsX9_isOne) := goodIn_app (goodIn_of _ (by decide +kernel)) ggX9_letter_X9_isOne
set_option maxRecDepth 20000 in
theorem ggX9_letter_X9_isWord : GoodIn wsX9_letter wsX9_isWord := goodIn_r _ [16, 17, 11, 12, 5, 13] (by decide +kernel) (by decide +kernel)
set_option maxRecDepth 20000 in
theorem gX9_letter_X9_isWord : GoodIn wsX9_letter (va_wsS RX9 82 yX9_isWord wsX9_isWord) := goodIn_app (goodIn_of _ (by decide +kernel)) ggX9_letter_X9_isWord
set_option maxRecDepth 20000 in
theorem ggX9_letter_X9_bad : GoodIn wsX9_letter wsX9_bad := goodIn_r _ [21, 22, 31, 32, 33, 34, 35, 36, 37, 38, 39, 40, 41, 42, 43, 44, 45, 46, 47, 48, 49] (by decide +kernel) (by decide +kernel)
set_option maxRecDepth 20000 in
theorem gX9_letter_X9_bad : GoodIn wsX9_letter (wsV RX9 75 RX9 yX9_bad wsX9_bad) := goodIn_app (goodIn_of _ (by decide +kernel)) ggX9_letter_X9_bad
set_option maxRecDepth 20000 in
theorem ggX9_letter_X9_no : GoodIn wsX9_letter wsX9_no := goodIn_r _ [26, 22, 31, 32, 33, 34, 35, 36, 37, 38, 39, 40, 41, 42, 43, 44, 45, 46, 47, 48, 49] (by decide +kernel) (by decide +kernel)
set_option maxRecDepth 20000 in
theorem gX9_letter_X9_no : GoodIn wsX9_letter (wsV RX9 132 RX9 yX9_no wsX9_no) := goodIn_app (goodIn_of _ (by decide +kernel)) ggX9_letter_X9_no
set_option maxRecDepth 20000 in
theorem ggX9_letter_X9_save : GoodIn wsX9_letter wsX9_save := goodIn_r _ [30, 1, 31, 32, 33, 34, 35, 36, 37, 38, 39, 40, 41, 42, 43, 44, 45, 46, 47, 48, 49] (by decide +kernel) (by decide +kernel)
set_option maxRecDepth 20000 in
theorem gX9_letter_X9_save : GoodIn wsX9_letter (wsV RX9 135 RX9 yX9_save wsX9_save) := goodIn_app (goodIn_of _ (by decide +kernel)) ggX9_letter_X9_save
set_option maxRecDepth 20000 in
theorem dA_X9_letter_0 : (([(0, .aload_n 0, 1), (1, .iload_n 1, 1), (2, .invokevirtual 129, 3), (5, .ifCond .eq 10, 3), (8, .iload_n 2, 1), (9, .invokestatic 82, 3), (12, .ifCond .ne 10, 3), (15, .aload_n 0, 1), (16, .bipush (-2), 2), (18, .invokevirtual 75, 3), (21, .ireturn, 1), (22, .aload_n 0, 1), (23, .getfield 7, 3), (26, .iconst 5, 1), (27, .iload_n 1, 1), (28, .iadd, 1), (29, .iaload, 1), (30, .istore_n 3, 1), (31, .iload_n 3, 1), (32, .iload_n 2, 1), (33, .if_icmp .ne 8, 3), (36, .aload_n 0, 1), (37, .invokevirtual 132, 3), (40, .ireturn, 1), (41, .aload_n 0, 1), (42, .invokevirtual 135, 3), (45, .aload_n 0, 1), (46, .getfield 7, 3), (49, .iconst 5, 1), (50, .iload_n 1, 1), (51, .iadd, 1), (52, .iload_n 2, 1), (53, .iastore, 1), (54, .iload_n 3, 1), (55, .ireturn, 1)] : List (Nat × Instr × Nat)).all fun q => decide (decode cX9_letter q.1 = .ok (q.2.1, q.2.2))) = true := by decide +kernel
theorem dX9_letter_0 : decode cX9_letter 0 = .ok (.aload_n 0, 1) := of_decide_eq_true (List.all_eq_true.mp dA_X9_letter_0 (0, .aload_n 0, 1) (List.mem_of_getElem? (i := 0) rfl))
theorem dX9_letter_1 : decode cX9_letter 1 = .ok (.iload_n 1, 1) := of_decide_eq_true (List.all_eq_true.mp dA_X9_letter_0 (1, .iload_n 1, 1) (List.mem_of_getElem? (i := 1) rfl))
theorem dX9_letter_2 : decode cX9_letter 2 = .ok (.invokevirtual 129, 3) := of_decide_eq_true (List.all_eq_true.mp dA_X9_letter_0 (2, .invokevirtual 129, 3) (List.mem_of_getElem? (i := 2) rfl))
theorem dX9_letter_5 : decode cX9_letter 5 = .ok (.ifCond .eq 10, 3) := of_decide_eq_true (List.all_eq_true.mp dA_X9_letter_0 (5, .ifCond .eq 10, 3) (List.mem_of_getElem? (i := 3) rfl))
theorem dX9_letter_8 : decode cX9_letter 8 = .ok (.iload_n 2, 1) := of_decide_eq_true (List.all_eq_true.mp dA_X9_letter_0 (8, .iload_n 2, 1) (List.mem_of_getElem? (i := 4) rfl))
theorem dX9_letter_9 : decode cX9_letter 9 = .ok (.invokestatic 82, 3) := of_decide_eq_true (List.all_eq_true.mp dA_X9_letter_0 (9, .invokestatic 82, 3) (List.mem_of_getElem? (i := 5) rfl))
theorem dX9_letter_12 : decode cX9_letter 12 = .ok (.ifCond .ne 10, 3) := of_decide_eq_true (List.all_eq_true.mp dA_X9_letter_0 (12, .ifCond .ne 10, 3) (List.mem_of_getElem? (i := 6) rfl))
theorem dX9_letter_15 : decode cX9_letter 15 = .ok (.aload_n 0, 1) := of_decide_eq_true (List.all_eq_true.mp dA_X9_letter_0 (15, .aload_n 0, 1) (List.mem_of_getElem? (i := 7) rfl))
theorem dX9_letter_16 : decode cX9_letter 16 = .ok (.bipush (-2), 2) := of_decide_eq_true (List.all_eq_true.mp dA_X9_letter_0 (16, .bipush (-2), 2) (List.mem_of_getElem? (i := 8) rfl))
theorem dX9_letter_18 : decode cX9_letter 18 = .ok (.invokevirtual 75, 3) := of_decide_eq_true (List.all_eq_true.mp dA_X9_letter_0 (18, .invokevirtual 75, 3) (List.mem_of_getElem? (i := 9) rfl))
theorem dX9_letter_21 : decode cX9_letter 21 = .ok (.ireturn, 1) := of_decide_eq_true (List.all_eq_true.mp dA_X9_letter_0 (21, .ireturn, 1) (List.mem_of_getElem? (i := 10) rfl))
theorem dX9_letter_22 : decode cX9_letter 22 = .ok (.aload_n 0, 1) := of_decide_eq_true (List.all_eq_true.mp dA_X9_letter_0 (22, .aload_n 0, 1) (List.mem_of_getElem? (i := 11) rfl))
theorem dX9_letter_23 : decode cX9_letter 23 = .ok (.getfield 7, 3) := of_decide_eq_true (List.all_eq_true.mp dA_X9_letter_0 (23, .getfield 7, 3) (List.mem_of_getElem? (i := 12) rfl))
theorem dX9_letter_26 : decode cX9_letter 26 = .ok (.iconst 5, 1) := of_decide_eq_true (List.all_eq_true.mp dA_X9_letter_0 (26, .iconst 5, 1) (List.mem_of_getElem? (i := 13) rfl))
theorem dX9_letter_27 : decode cX9_letter 27 = .ok (.iload_n 1, 1) := of_decide_eq_true (List.all_eq_true.mp dA_X9_letter_0 (27, .iload_n 1, 1) (List.mem_of_getElem? (i := 14) rfl))
theorem dX9_letter_28 : decode cX9_letter 28 = .ok (.iadd, 1) := of_decide_eq_true (List.all_eq_true.mp dA_X9_letter_0 (28, .iadd, 1) (List.mem_of_getElem? (i := 15) rfl))
theorem dX9_letter_29 : decode cX9_letter 29 = .ok (.iaload, 1) := of_decide_eq_true (List.all_eq_true.mp dA_X9_letter_0 (29, .iaload, 1) (List.mem_of_getElem? (i := 16) rfl))
theorem dX9_letter_30 : decode cX9_letter 30 = .ok (.istore_n 3, 1) := of_decide_eq_true (List.all_eq_true.mp dA_X9_letter_0 (30, .istore_n 3, 1) (List.mem_of_getElem? (i := 17) rfl))
theorem dX9_letter_31 : decode cX9_letter 31 = .ok (.iload_n 3, 1) := of_decide_eq_true (List.all_eq_true.mp dA_X9_letter_0 (31, .iload_n 3, 1) (List.mem_of_getElem? (i := 18) rfl))
theorem dX9_letter_32 : decode cX9_letter 32 = .ok (.iload_n 2, 1) := of_decide_eq_true (List.all_eq_true.mp dA_X9_letter_0 (32, .iload_n 2, 1) (List.mem_of_getElem? (i := 19) rfl))
theorem dX9_letter_33 : decode cX9_letter 33 = .ok (.if_icmp .ne 8, 3) := of_decide_eq_true (List.all_eq_true.mp dA_X9_letter_0 (33, .if_icmp .ne 8, 3) (List.mem_of_getElem? (i := 20) rfl))
theorem dX9_letter_36 : decode cX9_letter 36 = .ok (.aload_n 0, 1) := of_decide_eq_true (List.all_eq_true.mp dA_X9_letter_0 (36, .aload_n 0, 1) (List.mem_of_getElem? (i := 21) rfl))
theorem dX9_letter_37 : decode cX9_letter 37 = .ok (.invokevirtual 132, 3) := of_decide_eq_true (List.all_eq_true.mp dA_X9_letter_0 (37, .invokevirtual 132, 3) (List.mem_of_getElem? (i := 22) rfl))
theorem dX9_letter_40 : decode cX9_letter 40 = .ok (.ireturn, 1) := of_decide_eq_true (List.all_eq_true.mp dA_X9_letter_0 (40, .ireturn, 1) (List.mem_of_getElem? (i := 23) rfl))
theorem dX9_letter_41 : decode cX9_letter 41 = .ok (.aload_n 0, 1) := of_decide_eq_true (List.all_eq_true.mp dA_X9_letter_0 (41, .aload_n 0, 1) (List.mem_of_getElem? (i := 24) rfl))
theorem dX9_letter_42 : decode cX9_letter 42 = .ok (.invokevirtual 135, 3) := of_decide_eq_true (List.all_eq_true.mp dA_X9_letter_0 (42, .invokevirtual 135, 3) (List.mem_of_getElem? (i := 25) rfl))
theorem dX9_letter_45 : decode cX9_letter 45 = .ok (.aload_n 0, 1) := of_decide_eq_true (List.all_eq_true.mp dA_X9_letter_0 (45, .aload_n 0, 1) (List.mem_of_getElem? (i := 26) rfl))
theorem dX9_letter_46 : decode cX9_letter 46 = .ok (.getfield 7, 3) := of_decide_eq_true (List.all_eq_true.mp dA_X9_letter_0 (46, .getfield 7, 3) (List.mem_of_getElem? (i := 27) rfl))
theorem dX9_letter_49 : decode cX9_letter 49 = .ok (.iconst 5, 1) := of_decide_eq_true (List.all_eq_true.mp dA_X9_letter_0 (49, .iconst 5, 1) (List.mem_of_getElem? (i := 28) rfl))
theorem dX9_letter_50 : decode cX9_letter 50 = .ok (.iload_n 1, 1) := of_decide_eq_true (List.all_eq_true.mp dA_X9_letter_0 (50, .iload_n 1, 1) (List.mem_of_getElem? (i := 29) rfl))
theorem dX9_letter_51 : decode cX9_letter 51 = .ok (.iadd, 1) := of_decide_eq_true (List.all_eq_true.mp dA_X9_letter_0 (51, .iadd, 1) (List.mem_of_getElem? (i := 30) rfl))
theorem dX9_letter_52 : decode cX9_letter 52 = .ok (.iload_n 2, 1) := of_decide_eq_true (List.all_eq_true.mp dA_X9_letter_0 (52, .iload_n 2, 1) (List.mem_of_getElem? (i := 31) rfl))
theorem dX9_letter_53 : decode cX9_letter 53 = .ok (.iastore, 1) := of_decide_eq_true (List.all_eq_true.mp dA_X9_letter_0 (53, .iastore, 1) (List.mem_of_getElem? (i := 32) rfl))
theorem dX9_letter_54 : decode cX9_letter 54 = .ok (.iload_n 3, 1) := of_decide_eq_true (List.all_eq_true.mp dA_X9_letter_0 (54, .iload_n 3, 1) (List.mem_of_getElem? (i := 33) rfl))
theorem dX9_letter_55 : decode cX9_letter 55 = .ok (.ireturn, 1) := of_decide_eq_true (List.all_eq_true.mp dA_X9_letter_0 (55, .ireturn, 1) (List.mem_of_getElem? (i := 34) rfl))
set_option maxRecDepth 20000 in
theorem dA_X9_goNights_0 : (([(0, .aload_n 0, 1), (1, .bipush 22, 2), (3, .aload_n 0, 1), (4, .bipush 22, 2), (6, .iaload, 1), (7, .iload_n 1, 1), (8, .iadd, 1), (9, .sipush 9999, 3), (12, .if_icmp .le 9, 3), (15, .sipush 9999, 3), (18, .goto 9, 3), (21, .aload_n 0, 1), (22, .bipush 22, 2), (24, .iaload, 1), (25, .iload_n 1, 1), (26, .iadd, 1), (27, .iastore, 1), (28, .aload_n 0, 1), (29, .bipush 20, 2), (31, .iconst 0, 1), (32, .iastore, 1), (33, .return_, 1)] : List (Nat × Instr × Nat)).all fun q => decide (decode cX9_goNights q.1 = .ok (q.2.1, q.2.2))) = true := by decide +kernel
theorem dX9_goNights_0 : decode cX9_goNights 0 = .ok (.aload_n 0, 1) := of_decide_eq_true (List.all_eq_true.mp dA_X9_goNights_0 (0, .aload_n 0, 1) (List.mem_of_getElem? (i := 0) rfl))
theorem dX9_goNights_1 : decode cX9_goNights 1 = .ok (.bipush 22, 2) := of_decide_eq_true (List.all_eq_true.mp dA_X9_goNights_0 (1, .bipush 22, 2) (List.mem_of_getElem? (i := 1) rfl))
theorem dX9_goNights_3 : decode cX9_goNights 3 = .ok (.aload_n 0, 1) := of_decide_eq_true (List.all_eq_true.mp dA_X9_goNights_0 (3, .aload_n 0, 1) (List.mem_of_getElem? (i := 2) rfl))
theorem dX9_goNights_4 : decode cX9_goNights 4 = .ok (.bipush 22, 2) := of_decide_eq_true (List.all_eq_true.mp dA_X9_goNights_0 (4, .bipush 22, 2) (List.mem_of_getElem? (i := 3) rfl))
theorem dX9_goNights_6 : decode cX9_goNights 6 = .ok (.iaload, 1) := of_decide_eq_true (List.all_eq_true.mp dA_X9_goNights_0 (6, .iaload, 1) (List.mem_of_getElem? (i := 4) rfl))
theorem dX9_goNights_7 : decode cX9_goNights 7 = .ok (.iload_n 1, 1) := of_decide_eq_true (List.all_eq_true.mp dA_X9_goNights_0 (7, .iload_n 1, 1) (List.mem_of_getElem? (i := 5) rfl))
theorem dX9_goNights_8 : decode cX9_goNights 8 = .ok (.iadd, 1) := of_decide_eq_true (List.all_eq_true.mp dA_X9_goNights_0 (8, .iadd, 1) (List.mem_of_getElem? (i := 6) rfl))
theorem dX9_goNights_9 : decode cX9_goNights 9 = .ok (.sipush 9999, 3) := of_decide_eq_true (List.all_eq_true.mp dA_X9_goNights_0 (9, .sipush 9999, 3) (List.mem_of_getElem? (i := 7) rfl))
theorem dX9_goNights_12 : decode cX9_goNights 12 = .ok (.if_icmp .le 9, 3) := of_decide_eq_true (List.all_eq_true.mp dA_X9_goNights_0 (12, .if_icmp .le 9, 3) (List.mem_of_getElem? (i := 8) rfl))
theorem dX9_goNights_15 : decode cX9_goNights 15 = .ok (.sipush 9999, 3) := of_decide_eq_true (List.all_eq_true.mp dA_X9_goNights_0 (15, .sipush 9999, 3) (List.mem_of_getElem? (i := 9) rfl))
theorem dX9_goNights_18 : decode cX9_goNights 18 = .ok (.goto 9, 3) := of_decide_eq_true (List.all_eq_true.mp dA_X9_goNights_0 (18, .goto 9, 3) (List.mem_of_getElem? (i := 10) rfl))
theorem dX9_goNights_21 : decode cX9_goNights 21 = .ok (.aload_n 0, 1) := of_decide_eq_true (List.all_eq_true.mp dA_X9_goNights_0 (21, .aload_n 0, 1) (List.mem_of_getElem? (i := 11) rfl))
theorem dX9_goNights_22 : decode cX9_goNights 22 = .ok (.bipush 22, 2) := of_decide_eq_true (List.all_eq_true.mp dA_X9_goNights_0 (22, .bipush 22, 2) (List.mem_of_getElem? (i := 12) rfl))
theorem dX9_goNights_24 : decode cX9_goNights 24 = .ok (.iaload, 1) := of_decide_eq_true (List.all_eq_true.mp dA_X9_goNights_0 (24, .iaload, 1) (List.mem_of_getElem? (i := 13) rfl))
theorem dX9_goNights_25 : decode cX9_goNights 25 = .ok (.iload_n 1, 1) := of_decide_eq_true (List.all_eq_true.mp dA_X9_goNights_0 (25, .iload_n 1, 1) (List.mem_of_getElem? (i := 14) rfl))
theorem dX9_goNights_26 : decode cX9_goNights 26 = .ok (.iadd, 1) := of_decide_eq_true (List.all_eq_true.mp dA_X9_goNights_0 (26, .iadd, 1) (List.mem_of_getElem? (i := 15) rfl))
theorem dX9_goNights_27 : decode cX9_goNights 27 = .ok (.iastore, 1) := of_decide_eq_true (List.all_eq_true.mp dA_X9_goNights_0 (27, .iastore, 1) (List.mem_of_getElem? (i := 16) rfl))
theorem dX9_goNights_28 : decode cX9_goNights 28 = .ok (.aload_n 0, 1) := of_decide_eq_true (List.all_eq_true.mp dA_X9_goNights_0 (28, .aload_n 0, 1) (List.mem_of_getElem? (i := 17) rfl))
theorem dX9_goNights_29 : decode cX9_goNights 29 = .ok (.bipush 20, 2) := of_decide_eq_true (List.all_eq_true.mp dA_X9_goNights_0 (29, .bipush 20, 2) (List.mem_of_getElem? (i := 18) rfl))
theorem dX9_goNights_31 : decode cX9_goNights 31 = .ok (.iconst 0, 1) := of_decide_eq_true (List.all_eq_true.mp dA_X9_goNights_0 (31, .iconst 0, 1) (List.mem_of_getElem? (i := 19) rfl))
theorem dX9_goNights_32 : decode cX9_goNights 32 = .ok (.iastore, 1) := of_decide_eq_true (List.all_eq_true.mp dA_X9_goNights_0 (32, .iastore, 1) (List.mem_of_getElem? (i := 20) rfl))
theorem dX9_goNights_33 : decode cX9_goNights 33 = .ok (.return_, 1) := of_decide_eq_true (List.all_eq_true.mp dA_X9_goNights_0 (33, .return_, 1) (List.mem_of_getElem? (i := 21) rfl))
set_option maxRecDepth 20000 in
theorem ggX9_nights_X9_in : GoodIn wsX9_nights wsX9_in := goodIn_r _ [6] (by decide +kernel) (by decide +kernel)
set_option maxRecDepth 20000 in
theorem gX9_nights_X9_in : GoodIn wsX9_nights (va_wsS RX9 59 yX9_in wsX9_in) := goodIn_app (goodIn_of _ (by decide +kernel)) ggX9_nights_X9_in
set_option maxRecDepth 20000 in
theorem ggX9_nights_X9_bad : GoodIn wsX9_nights wsX9_bad := goodIn_r _ [10, 11, 19, 20, 21, 22, 23, 24, 25, 26, 27, 28, 29, 30, 31, 32, 33, 34, 35, 36, 37] (by decide +kernel) (by decide +kernel)
set_option maxRecDepth 20000 in
theorem gX9_nights_X9_bad : GoodIn wsX9_nights (wsV RX9 75 RX9 yX9_bad wsX9_bad) := goodIn_app (goodIn_of _ (by decide +kernel)) ggX9_nights_X9_bad
set_option maxRecDepth 20000 in
theorem ggX9_nights_X9_save : GoodIn wsX9_nights wsX9_save := goodIn_r _ [15, 2, 19, 20, 21, 22, 23, 24, 25, 26, 27, 28, 29, 30, 31, 32, 33, 34, 35, 36, 37] (by decide +kernel) (by decide +kernel)
set_option maxRecDepth 20000 in
theorem gX9_nights_X9_save : GoodIn wsX9_nights (wsV RX9 135 RX9 yX9_save wsX9_save) := goodIn_app (goodIn_of _ (by decide +kernel)) ggX9_nights_X9_save
set_option maxRecDepth 20000 in
theorem ggX9_nights_X9_goNights : GoodIn wsX9_nights wsX9_goNights := goodIn_r _ [18] (by decide +kernel) (by decide +kernel)
set_option maxRecDepth 20000 in
theorem gX9_nights_X9_goNights : GoodIn wsX9_nights (va_wsS RX9 143 yX9_goNights wsX9_goNights) := goodIn_app (goodIn_of _ (by decide +kernel)) ggX9_nights_X9_goNights
set_option maxRecDepth 20000 in
theorem dA_X9_nights_0 : (([(0, .iload_n 1, 1), (1, .i2l, 1), (2, .lconst 1, 1), (3, .ldc2_w 141, 3), (6, .invokestatic 59, 3), (9, .ifCond .ne 10, 3), (12, .aload_n 0, 1), (13, .bipush (-2), 2), (15, .invokevirtual 75, 3), (18, .ireturn, 1), (19, .aload_n 0, 1), (20, .invokevirtual 135, 3), (23, .aload_n 0, 1), (24, .getfield 7, 3), (27, .iload_n 1, 1), (28, .invokestatic 143, 3), (31, .aload_n 0, 1), (32, .getfield 7, 3), (35, .bipush 22, 2), (37, .iaload, 1), (38, .ireturn, 1)] : List (Nat × Instr × Nat)).all fun q => decide (decode cX9_nights q.1 = .ok (q.2.1, q.2.2))) = true := by decide +kernel
theorem dX9_nights_0 : decode cX9_nights 0 = .ok (.iload_n 1, 1) := of_decide_eq_true (List.all_eq_true.mp dA_X9_nights_0 (0, .iload_n 1, 1) (List.mem_of_getElem? (i := 0) rfl))
theorem dX9_nights_1 : decode cX9_nights 1 = .ok (.i2l, 1) := of_decide_eq_true (List.all_eq_true.mp dA_X9_nights_0 (1, .i2l, 1) (List.mem_of_getElem? (i := 1) rfl))
theorem dX9_nights_2 : decode cX9_nights 2 = .ok (.lconst 1, 1) := of_decide_eq_true (List.all_eq_true.mp dA_X9_nights_0 (2, .lconst 1, 1) (List.mem_of_getElem? (i := 2) rfl))
theorem dX9_nights_3 : decode cX9_nights 3 = .ok (.ldc2_w 141, 3) := of_decide_eq_true (List.all_eq_true.mp dA_X9_nights_0 (3, .ldc2_w 141, 3) (List.mem_of_getElem? (i := 3) rfl))
theorem dX9_nights_6 : decode cX9_nights 6 = .ok (.invokestatic 59, 3) := of_decide_eq_true (List.all_eq_true.mp dA_X9_nights_0 (6, .invokestatic 59, 3) (List.mem_of_getElem? (i := 4) rfl))
theorem dX9_nights_9 : decode cX9_nights 9 = .ok (.ifCond .ne 10, 3) := of_decide_eq_true (List.all_eq_true.mp dA_X9_nights_0 (9, .ifCond .ne 10, 3) (List.mem_of_getElem? (i := 5) rfl))
theorem dX9_nights_12 : decode cX9_nights 12 = .ok (.aload_n 0, 1) := of_decide_eq_true (List.all_eq_true.mp dA_X9_nights_0 (12, .aload_n 0, 1) (List.mem_of_getElem? (i := 6) rfl))
theorem dX9_nights_13 : decode cX9_nights 13 = .ok (.bipush (-2), 2) := of_decide_eq_true (List.all_eq_true.mp dA_X9_nights_0 (13, .bipush (-2), 2) (List.mem_of_getElem? (i := 7) rfl))
theorem dX9_nights_15 : decode cX9_nights 15 = .ok (.invokevirtual 75, 3) := of_decide_eq_true (List.all_eq_true.mp dA_X9_nights_0 (15, .invokevirtual 75, 3) (List.mem_of_getElem? (i := 8) rfl))
theorem dX9_nights_18 : decode cX9_nights 18 = .ok (.ireturn, 1) := of_decide_eq_true (List.all_eq_true.mp dA_X9_nights_0 (18, .ireturn, 1) (List.mem_of_getElem? (i := 9) rfl))
theorem dX9_nights_19 : decode cX9_nights 19 = .ok (.aload_n 0, 1) := of_decide_eq_true (List.all_eq_true.mp dA_X9_nights_0 (19, .aload_n 0, 1) (List.mem_of_getElem? (i := 10) rfl))
theorem dX9_nights_20 : decode cX9_nights 20 = .ok (.invokevirtual 135, 3) := of_decide_eq_true (List.all_eq_true.mp dA_X9_nights_0 (20, .invokevirtual 135, 3) (List.mem_of_getElem? (i := 11) rfl))
theorem dX9_nights_23 : decode cX9_nights 23 = .ok (.aload_n 0, 1) := of_decide_eq_true (List.all_eq_true.mp dA_X9_nights_0 (23, .aload_n 0, 1) (List.mem_of_getElem? (i := 12) rfl))
theorem dX9_nights_24 : decode cX9_nights 24 = .ok (.getfield 7, 3) := of_decide_eq_true (List.all_eq_true.mp dA_X9_nights_0 (24, .getfield 7, 3) (List.mem_of_getElem? (i := 13) rfl))
theorem dX9_nights_27 : decode cX9_nights 27 = .ok (.iload_n 1, 1) := of_decide_eq_true (List.all_eq_true.mp dA_X9_nights_0 (27, .iload_n 1, 1) (List.mem_of_getElem? (i := 14) rfl))
theorem dX9_nights_28 : decode cX9_nights 28 = .ok (.invokestatic 143, 3) := of_decide_eq_true (List.all_eq_true.mp dA_X9_nights_0 (28, .invokestatic 143, 3) (List.mem_of_getElem? (i := 15) rfl))
theorem dX9_nights_31 : decode cX9_nights 31 = .ok (.aload_n 0, 1) := of_decide_eq_true (List.all_eq_true.mp dA_X9_nights_0 (31, .aload_n 0, 1) (List.mem_of_getElem? (i := 16) rfl))
theorem dX9_nights_32 : decode cX9_nights 32 = .ok (.getfield 7, 3) := of_decide_eq_true (List.all_eq_true.mp dA_X9_nights_0 (32, .getfield 7, 3) (List.mem_of_getElem? (i := 17) rfl))
theorem dX9_nights_35 : decode cX9_nights 35 = .ok (.bipush 22, 2) := of_decide_eq_true (List.all_eq_true.mp dA_X9_nights_0 (35, .bipush 22, 2) (List.mem_of_getElem? (i := 18) rfl))
theorem dX9_nights_37 : decode cX9_nights 37 = .ok (.iaload, 1) := of_decide_eq_true (List.all_eq_true.mp dA_X9_nights_0 (37, .iaload, 1) (List.mem_of_getElem? (i := 19) rfl))
theorem dX9_nights_38 : decode cX9_nights 38 = .ok (.ireturn, 1) := of_decide_eq_true (List.all_eq_true.mp dA_X9_nights_0 (38, .ireturn, 1) (List.mem_of_getElem? (i := 20) rfl))
set_option maxRecDepth 20000 in
theorem ggX9_undo_X9_no : GoodIn wsX9_undo wsX9_no := goodIn_r _ [6, 7, 8, 9, 10, 11, 12, 13, 14, 15, 16, 17, 18, 19, 20, 21, 22, 23, 24, 25, 26] (by decide +kernel) (by decide +kernel)
set_option maxRecDepth 20000 in
theorem gX9_undo_X9_no : GoodIn wsX9_undo (wsV RX9 132 RX9 yX9_no wsX9_no) := goodIn_app (goodIn_of _ (by decide +kernel)) ggX9_undo_X9_no
set_option maxRecDepth 20000 in
theorem dA_X9_undo_0 : (([(0, .aload_n 0, 1), (1, .getfield 7, 3), (4, .iconst 4, 1), (5, .iaload, 1), (6, .ifCond .ne 8, 3), (9, .aload_n 0, 1), (10, .invokevirtual 132, 3), (13, .ireturn, 1), (14, .aload_n 0, 1), (15, .getfield 7, 3), (18, .iconst 4, 1), (19, .dup2, 1), (20, .iaload, 1), (21, .iconst 1, 1), (22, .isub, 1), (23, .iastore, 1), (24, .iconst 0, 1), (25, .istore_n 1, 1), (26, .iload_n 1, 1), (27, .bipush 18, 2), (29, .if_icmp .ge 36, 3), (32, .aload_n 0, 1), (33, .getfield 7, 3), (36, .iconst 5, 1), (37, .iload_n 1, 1), (38, .iadd, 1), (39, .aload_n 0, 1), (40, .getfield 7, 3), (43, .bipush 106, 2), (45, .bipush 18, 2), (47, .aload_n 0, 1), (48, .getfield 7, 3), (51, .iconst 4, 1), (52, .iaload, 1), (53, .imul, 1), (54, .iadd, 1), (55, .iload_n 1, 1), (56, .iadd, 1), (57, .iaload, 1), (58, .iastore, 1)] : List (Nat × Instr × Nat)).all fun q => decide (decode cX9_undo q.1 = .ok (q.2.1, q.2.2))) = true := by decide +kernel
theorem dX9_undo_0 : decode cX9_undo 0 = .ok (.aload_n 0, 1) := of_decide_eq_true (List.all_eq_true.mp dA_X9_undo_0 (0, .aload_n 0, 1) (List.mem_of_getElem? (i := 0) rfl))
theorem dX9_undo_1 : decode cX9_undo 1 = .ok (.getfield 7, 3) := of_decide_eq_true (List.all_eq_true.mp dA_X9_undo_0 (1, .getfield 7, 3) (List.mem_of_getElem? (i := 1) rfl))
theorem dX9_undo_4 : decode cX9_undo 4 = .ok (.iconst 4, 1) := of_decide_eq_true (List.all_eq_true.mp dA_X9_undo_0 (4, .iconst 4, 1) (List.mem_of_getElem? (i := 2) rfl))
theorem dX9_undo_5 : decode cX9_undo 5 = .ok (.iaload, 1) := of_decide_eq_true (List.all_eq_true.mp dA_X9_undo_0 (5, .iaload, 1) (List.mem_of_getElem? (i := 3) rfl))
theorem dX9_undo_6 : decode cX9_undo 6 = .ok (.ifCond .ne 8, 3) := of_decide_eq_true (List.all_eq_true.mp dA_X9_undo_0 (6, .ifCond .ne 8, 3) (List.mem_of_getElem? (i := 4) rfl))
theorem dX9_undo_9 : decode cX9_undo 9 = .ok (.aload_n 0, 1) := of_decide_eq_true (List.all_eq_true.mp dA_X9_undo_0 (9, .aload_n 0, 1) (List.mem_of_getElem? (i := 5) rfl))
theorem dX9_undo_10 : decode cX9_undo 10 = .ok (.invokevirtual 132, 3) := of_decide_eq_true (List.all_eq_true.mp dA_X9_undo_0 (10, .invokevirtual 132, 3) (List.mem_of_getElem? (i := 6) rfl))
theorem dX9_undo_13 : decode cX9_undo 13 = .ok (.ireturn, 1) := of_decide_eq_true (List.all_eq_true.mp dA_X9_undo_0 (13, .ireturn, 1) (List.mem_of_getElem? (i := 7) rfl))
theorem dX9_undo_14 : decode cX9_undo 14 = .ok (.aload_n 0, 1) := of_decide_eq_true (List.all_eq_true.mp dA_X9_undo_0 (14, .aload_n 0, 1) (List.mem_of_getElem? (i := 8) rfl))
theorem dX9_undo_15 : decode cX9_undo 15 = .ok (.getfield 7, 3) := of_decide_eq_true (List.all_eq_true.mp dA_X9_undo_0 (15, .getfield 7, 3) (List.mem_of_getElem? (i := 9) rfl))
theorem dX9_undo_18 : decode cX9_undo 18 = .ok (.iconst 4, 1) := of_decide_eq_true (List.all_eq_true.mp dA_X9_undo_0 (18, .iconst 4, 1) (List.mem_of_getElem? (i := 10) rfl))
theorem dX9_undo_19 : decode cX9_undo 19 = .ok (.dup2, 1) := of_decide_eq_true (List.all_eq_true.mp dA_X9_undo_0 (19, .dup2, 1) (List.mem_of_getElem? (i := 11) rfl))
theorem dX9_undo_20 : decode cX9_undo 20 = .ok (.iaload, 1) := of_decide_eq_true (List.all_eq_true.mp dA_X9_undo_0 (20, .iaload, 1) (List.mem_of_getElem? (i := 12) rfl))
theorem dX9_undo_21 : decode cX9_undo 21 = .ok (.iconst 1, 1) := of_decide_eq_true (List.all_eq_true.mp dA_X9_undo_0 (21, .iconst 1, 1) (List.mem_of_getElem? (i := 13) rfl))
theorem dX9_undo_22 : decode cX9_undo 22 = .ok (.isub, 1) := of_decide_eq_true (List.all_eq_true.mp dA_X9_undo_0 (22, .isub, 1) (List.mem_of_getElem? (i := 14) rfl))
theorem dX9_undo_23 : decode cX9_undo 23 = .ok (.iastore, 1) := of_decide_eq_true (List.all_eq_true.mp dA_X9_undo_0 (23, .iastore, 1) (List.mem_of_getElem? (i := 15) rfl))
theorem dX9_undo_24 : decode cX9_undo 24 = .ok (.iconst 0, 1) := of_decide_eq_true (List.all_eq_true.mp dA_X9_undo_0 (24, .iconst 0, 1) (List.mem_of_getElem? (i := 16) rfl))
theorem dX9_undo_25 : decode cX9_undo 25 = .ok (.istore_n 1, 1) := of_decide_eq_true (List.all_eq_true.mp dA_X9_undo_0 (25, .istore_n 1, 1) (List.mem_of_getElem? (i := 17) rfl))
theorem dX9_undo_26 : decode cX9_undo 26 = .ok (.iload_n 1, 1) := of_decide_eq_true (List.all_eq_true.mp dA_X9_undo_0 (26, .iload_n 1, 1) (List.mem_of_getElem? (i := 18) rfl))
theorem dX9_undo_27 : decode cX9_undo 27 = .ok (.bipush 18, 2) := of_decide_eq_true (List.all_eq_true.mp dA_X9_undo_0 (27, .bipush 18, 2) (List.mem_of_getElem? (i := 19) rfl))
theorem dX9_undo_29 : decode cX9_undo 29 = .ok (.if_icmp .ge 36, 3) := of_decide_eq_true (List.all_eq_true.mp dA_X9_undo_0 (29, .if_icmp .ge 36, 3) (List.mem_of_getElem? (i := 20) rfl))
theorem dX9_undo_32 : decode cX9_undo 32 = .ok (.aload_n 0, 1) := of_decide_eq_true (List.all_eq_true.mp dA_X9_undo_0 (32, .aload_n 0, 1) (List.mem_of_getElem? (i := 21) rfl))
theorem dX9_undo_33 : decode cX9_undo 33 = .ok (.getfield 7, 3) := of_decide_eq_true (List.all_eq_true.mp dA_X9_undo_0 (33, .getfield 7, 3) (List.mem_of_getElem? (i := 22) rfl))
theorem dX9_undo_36 : decode cX9_undo 36 = .ok (.iconst 5, 1) := of_decide_eq_true (List.all_eq_true.mp dA_X9_undo_0 (36, .iconst 5, 1) (List.mem_of_getElem? (i := 23) rfl))
theorem dX9_undo_37 : decode cX9_undo 37 = .ok (.iload_n 1, 1) := of_decide_eq_true (List.all_eq_true.mp dA_X9_undo_0 (37, .iload_n 1, 1) (List.mem_of_getElem? (i := 24) rfl))
theorem dX9_undo_38 : decode cX9_undo 38 = .ok (.iadd, 1) := of_decide_eq_true (List.all_eq_true.mp dA_X9_undo_0 (38, .iadd, 1) (List.mem_of_getElem? (i := 25) rfl))
theorem dX9_undo_39 : decode cX9_undo 39 = .ok (.aload_n 0, 1) := of_decide_eq_true (List.all_eq_true.mp dA_X9_undo_0 (39, .aload_n 0, 1) (List.mem_of_getElem? (i := 26) rfl))
theorem dX9_undo_40 : decode cX9_undo 40 = .ok (.getfield 7, 3) := of_decide_eq_true (List.all_eq_true.mp dA_X9_undo_0 (40, .getfield 7, 3) (List.mem_of_getElem? (i := 27) rfl))
theorem dX9_undo_43 : decode cX9_undo 43 = .ok (.bipush 106, 2) := of_decide_eq_true (List.all_eq_true.mp dA_X9_undo_0 (43, .bipush 106, 2) (List.mem_of_getElem? (i := 28) rfl))
theorem dX9_undo_45 : decode cX9_undo 45 = .ok (.bipush 18, 2) := of_decide_eq_true (List.all_eq_true.mp dA_X9_undo_0 (45, .bipush 18, 2) (List.mem_of_getElem? (i := 29) rfl))
theorem dX9_undo_47 : decode cX9_undo 47 = .ok (.aload_n 0, 1) := of_decide_eq_true (List.all_eq_true.mp dA_X9_undo_0 (47, .aload_n 0, 1) (List.mem_of_getElem? (i := 30) rfl))
theorem dX9_undo_48 : decode cX9_undo 48 = .ok (.getfield 7, 3) := of_decide_eq_true (List.all_eq_true.mp dA_X9_undo_0 (48, .getfield 7, 3) (List.mem_of_getElem? (i := 31) rfl))
theorem dX9_undo_51 : decode cX9_undo 51 = .ok (.iconst 4, 1) := of_decide_eq_true (List.all_eq_true.mp dA_X9_undo_0 (51, .iconst 4, 1) (List.mem_of_getElem? (i := 32) rfl))
theorem dX9_undo_52 : decode cX9_undo 52 = .ok (.iaload, 1) := of_decide_eq_true (List.all_eq_true.mp dA_X9_undo_0 (52, .iaload, 1) (List.mem_of_getElem? (i := 33) rfl))
theorem dX9_undo_53 : decode cX9_undo 53 = .ok (.imul, 1) := of_decide_eq_true (List.all_eq_true.mp dA_X9_undo_0 (53, .imul, 1) (List.mem_of_getElem? (i := 34) rfl))
theorem dX9_undo_54 : decode cX9_undo 54 = .ok (.iadd, 1) := of_decide_eq_true (List.all_eq_true.mp dA_X9_undo_0 (54, .iadd, 1) (List.mem_of_getElem? (i := 35) rfl))
theorem dX9_undo_55 : decode cX9_undo 55 = .ok (.iload_n 1, 1) := of_decide_eq_true (List.all_eq_true.mp dA_X9_undo_0 (55, .iload_n 1, 1) (List.mem_of_getElem? (i := 36) rfl))
theorem dX9_undo_56 : decode cX9_undo 56 = .ok (.iadd, 1) := of_decide_eq_true (List.all_eq_true.mp dA_X9_undo_0 (56, .iadd, 1) (List.mem_of_getElem? (i := 37) rfl))
theorem dX9_undo_57 : decode cX9_undo 57 = .ok (.iaload, 1) := of_decide_eq_true (List.all_eq_true.mp dA_X9_undo_0 (57, .iaload, 1) (List.mem_of_getElem? (i := 38) rfl))
theorem dX9_undo_58 : decode cX9_undo 58 = .ok (.iastore, 1) := of_decide_eq_true (List.all_eq_true.mp dA_X9_undo_0 (58, .iastore, 1) (List.mem_of_getElem? (i := 39) rfl))
set_option maxRecDepth 20000 in
theorem dA_X9_undo_59 : (([(59, .iinc 1 1, 3), (62, .goto (-36), 3), (65, .aload_n 0, 1), (66, .getfield 7, 3), (69, .bipush 22, 2), (71, .iaload, 1), (72, .ireturn, 1)] : List (Nat × Instr × Nat)).all fun q => decide (decode cX9_undo q.1 = .ok (q.2.1, q.2.2))) = true := by decide +kernel
theorem dX9_undo_59 : decode cX9_undo 59 = .ok (.iinc 1 1, 3) := of_decide_eq_true (List.all_eq_true.mp dA_X9_undo_59 (59, .iinc 1 1, 3) (List.mem_of_getElem? (i := 0) rfl))
theorem dX9_undo_62 : decode cX9_undo 62 = .ok (.goto (-36), 3) := of_decide_eq_true (List.all_eq_true.mp dA_X9_undo_59 (62, .goto (-36), 3) (List.mem_of_getElem? (i := 1) rfl))
theorem dX9_undo_65 : decode cX9_undo 65 = .ok (.aload_n 0, 1) := of_decide_eq_true (List.all_eq_true.mp dA_X9_undo_59 (65, .aload_n 0, 1) (List.mem_of_getElem? (i := 2) rfl))
theorem dX9_undo_66 : decode cX9_undo 66 = .ok (.getfield 7, 3) := of_decide_eq_true (List.all_eq_true.mp dA_X9_undo_59 (66, .getfield 7, 3) (List.mem_of_getElem? (i := 3) rfl))
theorem dX9_undo_69 : decode cX9_undo 69 = .ok (.bipush 22, 2) := of_decide_eq_true (List.all_eq_true.mp dA_X9_undo_59 (69, .bipush 22, 2) (List.mem_of_getElem? (i := 4) rfl))
theorem dX9_undo_71 : decode cX9_undo 71 = .ok (.iaload, 1) := of_decide_eq_true (List.all_eq_true.mp dA_X9_undo_59 (71, .iaload, 1) (List.mem_of_getElem? (i := 5) rfl))
theorem dX9_undo_72 : decode cX9_undo 72 = .ok (.ireturn, 1) := of_decide_eq_true (List.all_eq_true.mp dA_X9_undo_59 (72, .ireturn, 1) (List.mem_of_getElem? (i := 6) rfl))
set_option maxRecDepth 20000 in
theorem ggX9_toldOf_X9_likelyOf : GoodIn wsX9_toldOf wsX9_likelyOf := goodIn_r _ [5, 6, 7, 4, 8] (by decide +kernel) (by decide +kernel)
set_option maxRecDepth 20000 in
theorem gX9_toldOf_X9_likelyOf : GoodIn wsX9_toldOf (va_wsS RX9 114 yX9_likelyOf wsX9_likelyOf) := goodIn_app (goodIn_of _ (by decide +kernel)) ggX9_toldOf_X9_likelyOf
set_option maxRecDepth 20000 in
theorem dA_X9_toldOf_0 : (([(0, .iload_n 2, 1), (1, .tableswitch 72 0 3 #[31, 41, 50, 60], 31), (32, .aload_n 0, 1), (33, .getfield 7, 3), (36, .bipush 31, 2), (38, .iload_n 1, 1), (39, .iadd, 1), (40, .iaload, 1), (41, .ireturn, 1), (42, .aload_n 0, 1), (43, .getfield 7, 3), (46, .iconst 5, 1), (47, .iload_n 1, 1), (48, .iadd, 1), (49, .iaload, 1), (50, .ireturn, 1), (51, .aload_n 0, 1), (52, .getfield 7, 3), (55, .bipush 12, 2), (57, .iload_n 1, 1), (58, .iadd, 1), (59, .iaload, 1), (60, .ireturn, 1), (61, .aload_n 0, 1), (62, .getfield 7, 3), (65, .bipush 19, 2), (67, .iaload, 1), (68, .iload_n 1, 1), (69, .ishr, 1), (70, .iconst 1, 1), (71, .iand, 1), (72, .ireturn, 1), (73, .aload_n 0, 1), (74, .getfield 7, 3), (77, .iload_n 1, 1), (78, .invokestatic 114, 3), (81, .ireturn, 1)] : List (Nat × Instr × Nat)).all fun q => decide (decode cX9_toldOf q.1 = .ok (q.2.1, q.2.2))) = true := by decide +kernel
theorem dX9_toldOf_0 : decode cX9_toldOf 0 = .ok (.iload_n 2, 1) := of_decide_eq_true (List.all_eq_true.mp dA_X9_toldOf_0 (0, .iload_n 2, 1) (List.mem_of_getElem? (i := 0) rfl))
theorem dX9_toldOf_1 : decode cX9_toldOf 1 = .ok (.tableswitch 72 0 3 #[31, 41, 50, 60], 31) := of_decide_eq_true (List.all_eq_true.mp dA_X9_toldOf_0 (1, .tableswitch 72 0 3 #[31, 41, 50, 60], 31) (List.mem_of_getElem? (i := 1) rfl))
theorem dX9_toldOf_32 : decode cX9_toldOf 32 = .ok (.aload_n 0, 1) := of_decide_eq_true (List.all_eq_true.mp dA_X9_toldOf_0 (32, .aload_n 0, 1) (List.mem_of_getElem? (i := 2) rfl))
theorem dX9_toldOf_33 : decode cX9_toldOf 33 = .ok (.getfield 7, 3) := of_decide_eq_true (List.all_eq_true.mp dA_X9_toldOf_0 (33, .getfield 7, 3) (List.mem_of_getElem? (i := 3) rfl))
theorem dX9_toldOf_36 : decode cX9_toldOf 36 = .ok (.bipush 31, 2) := of_decide_eq_true (List.all_eq_true.mp dA_X9_toldOf_0 (36, .bipush 31, 2) (List.mem_of_getElem? (i := 4) rfl))
theorem dX9_toldOf_38 : decode cX9_toldOf 38 = .ok (.iload_n 1, 1) := of_decide_eq_true (List.all_eq_true.mp dA_X9_toldOf_0 (38, .iload_n 1, 1) (List.mem_of_getElem? (i := 5) rfl))
theorem dX9_toldOf_39 : decode cX9_toldOf 39 = .ok (.iadd, 1) := of_decide_eq_true (List.all_eq_true.mp dA_X9_toldOf_0 (39, .iadd, 1) (List.mem_of_getElem? (i := 6) rfl))
theorem dX9_toldOf_40 : decode cX9_toldOf 40 = .ok (.iaload, 1) := of_decide_eq_true (List.all_eq_true.mp dA_X9_toldOf_0 (40, .iaload, 1) (List.mem_of_getElem? (i := 7) rfl))
theorem dX9_toldOf_41 : decode cX9_toldOf 41 = .ok (.ireturn, 1) := of_decide_eq_true (List.all_eq_true.mp dA_X9_toldOf_0 (41, .ireturn, 1) (List.mem_of_getElem? (i := 8) rfl))
theorem dX9_toldOf_42 : decode cX9_toldOf 42 = .ok (.aload_n 0, 1) := of_decide_eq_true (List.all_eq_true.mp dA_X9_toldOf_0 (42, .aload_n 0, 1) (List.mem_of_getElem? (i := 9) rfl))
theorem dX9_toldOf_43 : decode cX9_toldOf 43 = .ok (.getfield 7, 3) := of_decide_eq_true (List.all_eq_true.mp dA_X9_toldOf_0 (43, .getfield 7, 3) (List.mem_of_getElem? (i := 10) rfl))
theorem dX9_toldOf_46 : decode cX9_toldOf 46 = .ok (.iconst 5, 1) := of_decide_eq_true (List.all_eq_true.mp dA_X9_toldOf_0 (46, .iconst 5, 1) (List.mem_of_getElem? (i := 11) rfl))
theorem dX9_toldOf_47 : decode cX9_toldOf 47 = .ok (.iload_n 1, 1) := of_decide_eq_true (List.all_eq_true.mp dA_X9_toldOf_0 (47, .iload_n 1, 1) (List.mem_of_getElem? (i := 12) rfl))
theorem dX9_toldOf_48 : decode cX9_toldOf 48 = .ok (.iadd, 1) := of_decide_eq_true (List.all_eq_true.mp dA_X9_toldOf_0 (48, .iadd, 1) (List.mem_of_getElem? (i := 13) rfl))
theorem dX9_toldOf_49 : decode cX9_toldOf 49 = .ok (.iaload, 1) := of_decide_eq_true (List.all_eq_true.mp dA_X9_toldOf_0 (49, .iaload, 1) (List.mem_of_getElem? (i := 14) rfl))
theorem dX9_toldOf_50 : decode cX9_toldOf 50 = .ok (.ireturn, 1) := of_decide_eq_true (List.all_eq_true.mp dA_X9_toldOf_0 (50, .ireturn, 1) (List.mem_of_getElem? (i := 15) rfl))
theorem dX9_toldOf_51 : decode cX9_toldOf 51 = .ok (.aload_n 0, 1) := of_decide_eq_true (List.all_eq_true.mp dA_X9_toldOf_0 (51, .aload_n 0, 1) (List.mem_of_getElem? (i := 16) rfl))
theorem dX9_toldOf_52 : decode cX9_toldOf 52 = .ok (.getfield 7, 3) := of_decide_eq_true (List.all_eq_true.mp dA_X9_toldOf_0 (52, .getfield 7, 3) (List.mem_of_getElem? (i := 17) rfl))
theorem dX9_toldOf_55 : decode cX9_toldOf 55 = .ok (.bipush 12, 2) := of_decide_eq_true (List.all_eq_true.mp dA_X9_toldOf_0 (55, .bipush 12, 2) (List.mem_of_getElem? (i := 18) rfl))
theorem dX9_toldOf_57 : decode cX9_toldOf 57 = .ok (.iload_n 1, 1) := of_decide_eq_true (List.all_eq_true.mp dA_X9_toldOf_0 (57, .iload_n 1, 1) (List.mem_of_getElem? (i := 19) rfl))
theorem dX9_toldOf_58 : decode cX9_toldOf 58 = .ok (.iadd, 1) := of_decide_eq_true (List.all_eq_true.mp dA_X9_toldOf_0 (58, .iadd, 1) (List.mem_of_getElem? (i := 20) rfl))
theorem dX9_toldOf_59 : decode cX9_toldOf 59 = .ok (.iaload, 1) := of_decide_eq_true (List.all_eq_true.mp dA_X9_toldOf_0 (59, .iaload, 1) (List.mem_of_getElem? (i := 21) rfl))
theorem dX9_toldOf_60 : decode cX9_toldOf 60 = .ok (.ireturn, 1) := of_decide_eq_true (List.all_eq_true.mp dA_X9_toldOf_0 (60, .ireturn, 1) (List.mem_of_getElem? (i := 22) rfl))
theorem dX9_toldOf_61 : decode cX9_toldOf 61 = .ok (.aload_n 0, 1) := of_decide_eq_true (List.all_eq_true.mp dA_X9_toldOf_0 (61, .aload_n 0, 1) (List.mem_of_getElem? (i := 23) rfl))
theorem dX9_toldOf_62 : decode cX9_toldOf 62 = .ok (.getfield 7, 3) := of_decide_eq_true (List.all_eq_true.mp dA_X9_toldOf_0 (62, .getfield 7, 3) (List.mem_of_getElem? (i := 24) rfl))
theorem dX9_toldOf_65 : decode cX9_toldOf 65 = .ok (.bipush 19, 2) := of_decide_eq_true (List.all_eq_true.mp dA_X9_toldOf_0 (65, .bipush 19, 2) (List.mem_of_getElem? (i := 25) rfl))
theorem dX9_toldOf_67 : decode cX9_toldOf 67 = .ok (.iaload, 1) := of_decide_eq_true (List.all_eq_true.mp dA_X9_toldOf_0 (67, .iaload, 1) (List.mem_of_getElem? (i := 26) rfl))
theorem dX9_toldOf_68 : decode cX9_toldOf 68 = .ok (.iload_n 1, 1) := of_decide_eq_true (List.all_eq_true.mp dA_X9_toldOf_0 (68, .iload_n 1, 1) (List.mem_of_getElem? (i := 27) rfl))
theorem dX9_toldOf_69 : decode cX9_toldOf 69 = .ok (.ishr, 1) := of_decide_eq_true (List.all_eq_true.mp dA_X9_toldOf_0 (69, .ishr, 1) (List.mem_of_getElem? (i := 28) rfl))
theorem dX9_toldOf_70 : decode cX9_toldOf 70 = .ok (.iconst 1, 1) := of_decide_eq_true (List.all_eq_true.mp dA_X9_toldOf_0 (70, .iconst 1, 1) (List.mem_of_getElem? (i := 29) rfl))
theorem dX9_toldOf_71 : decode cX9_toldOf 71 = .ok (.iand, 1) := of_decide_eq_true (List.all_eq_true.mp dA_X9_toldOf_0 (71, .iand, 1) (List.mem_of_getElem? (i := 30) rfl))
theorem dX9_toldOf_72 : decode cX9_toldOf 72 = .ok (.ireturn, 1) := of_decide_eq_true (List.all_eq_true.mp dA_X9_toldOf_0 (72, .ireturn, 1) (List.mem_of_getElem? (i := 31) rfl))
theorem dX9_toldOf_73 : decode cX9_toldOf 73 = .ok (.aload_n 0, 1) := of_decide_eq_true (List.all_eq_true.mp dA_X9_toldOf_0 (73, .aload_n 0, 1) (List.mem_of_getElem? (i := 32) rfl))
theorem dX9_toldOf_74 : decode cX9_toldOf 74 = .ok (.getfield 7, 3) := of_decide_eq_true (List.all_eq_true.mp dA_X9_toldOf_0 (74, .getfield 7, 3) (List.mem_of_getElem? (i := 33) rfl))
theorem dX9_toldOf_77 : decode cX9_toldOf 77 = .ok (.iload_n 1, 1) := of_decide_eq_true (List.all_eq_true.mp dA_X9_toldOf_0 (77, .iload_n 1, 1) (List.mem_of_getElem? (i := 34) rfl))
theorem dX9_toldOf_78 : decode cX9_toldOf 78 = .ok (.invokestatic 114, 3) := of_decide_eq_true (List.all_eq_true.mp dA_X9_toldOf_0 (78, .invokestatic 114, 3) (List.mem_of_getElem? (i := 35) rfl))
theorem dX9_toldOf_81 : decode cX9_toldOf 81 = .ok (.ireturn, 1) := of_decide_eq_true (List.all_eq_true.mp dA_X9_toldOf_0 (81, .ireturn, 1) (List.mem_of_getElem? (i := 36) rfl))
set_option maxRecDepth 20000 in
theorem ggX9_of_X9_isOne : GoodIn wsX9_of wsX9_isOne := goodIn_r _ [6, 7, 8, 9, 5, 10, 11, 12, 13, 14, 30, 31, 32, 33, 34, 35, 36, 37, 38, 39, 40, 41, 42, 43, 44, 45, 46, 47, 48] (by decide +kernel) (by decide +kernel)
set_option maxRecDepth 20000 in
theorem gX9_of_X9_isOne : GoodIn wsX9_of (wsV RX9 129 RX9 yX9_isOne wsX9_isOne) := goodIn_app (goodIn_of _ (by decide +kernel)) ggX9_of_X9_isOne
set_option maxRecDepth 20000 in
theorem ggX9_of_X9_in : GoodIn wsX9_of wsX9_in := goodIn_r _ [14] (by decide +kernel) (by decide +kernel)
set_option maxRecDepth 20000 in
theorem gX9_of_X9_in : GoodIn wsX9_of (va_wsS RX9 59 yX9_in wsX9_in) := goodIn_app (goodIn_of _ (by decide +kernel)) ggX9_of_X9_in
set_option maxRecDepth 20000 in
theorem ggX9_of_X9_toldOf : GoodIn wsX9_of wsX9_toldOf := goodIn_r _ [18, 11, 19, 20, 5, 21, 22, 23, 24, 30, 31, 32, 33, 34, 35, 36, 37, 38, 39, 40, 41, 42, 43, 44, 45, 46, 47, 48] (by decide +kernel) (by decide +kernel)
set_option maxRecDepth 20000 in
theorem gX9_of_X9_toldOf : GoodIn wsX9_of (wsV RX9 147 RX9 yX9_toldOf wsX9_toldOf) := goodIn_app (goodIn_of _ (by decide +kernel)) ggX9_of_X9_toldOf
set_option maxRecDepth 20000 in
theorem ggX9_of_X9_bad : GoodIn wsX9_of wsX9_bad := goodIn_r _ [28, 29, 30, 31, 32, 33, 34, 35, 36, 37, 38, 39, 40, 41, 42, 43, 44, 45, 46, 47, 48] (by decide +kernel) (by decide +kernel)
set_option maxRecDepth 20000 in
theorem gX9_of_X9_bad : GoodIn wsX9_of (wsV RX9 75 RX9 yX9_bad wsX9_bad) := goodIn_app (goodIn_of _ (by decide +kernel)) ggX9_of_X9_bad
set_option maxRecDepth 20000 in
theorem dA_X9_of_0 : (([(0, .aload_n 0, 1), (1, .iload_n 1, 1), (2, .invokevirtual 129, 3), (5, .ifCond .eq 24, 3), (8, .iload_n 2, 1), (9, .i2l, 1), (10, .lconst 0, 1), (11, .ldc2_w 67, 3), (14, .invokestatic 59, 3), (17, .ifCond .eq 12, 3), (20, .aload_n 0, 1), (21, .iload_n 1, 1), (22, .iload_n 2, 1), (23, .invokevirtual 147, 3), (26, .goto 9, 3), (29, .aload_n 0, 1), (30, .bipush (-2), 2), (32, .invokevirtual 75, 3), (35, .ireturn, 1)] : List (Nat × Instr × Nat)).all fun q => decide (decode cX9_of q.1 = .ok (q.2.1, q.2.2))) = true := by decide +kernel
theorem dX9_of_0 : decode cX9_of 0 = .ok (.aload_n 0, 1) := of_decide_eq_true (List.all_eq_true.mp dA_X9_of_0 (0, .aload_n 0, 1) (List.mem_of_getElem? (i := 0) rfl))
theorem dX9_of_1 : decode cX9_of 1 = .ok (.iload_n 1, 1) := of_decide_eq_true (List.all_eq_true.mp dA_X9_of_0 (1, .iload_n 1, 1) (List.mem_of_getElem? (i := 1) rfl))
theorem dX9_of_2 : decode cX9_of 2 = .ok (.invokevirtual 129, 3) := of_decide_eq_true (List.all_eq_true.mp dA_X9_of_0 (2, .invokevirtual 129, 3) (List.mem_of_getElem? (i := 2) rfl))
theorem dX9_of_5 : decode cX9_of 5 = .ok (.ifCond .eq 24, 3) := of_decide_eq_true (List.all_eq_true.mp dA_X9_of_0 (5, .ifCond .eq 24, 3) (List.mem_of_getElem? (i := 3) rfl))
theorem dX9_of_8 : decode cX9_of 8 = .ok (.iload_n 2, 1) := of_decide_eq_true (List.all_eq_true.mp dA_X9_of_0 (8, .iload_n 2, 1) (List.mem_of_getElem? (i := 4) rfl))
theorem dX9_of_9 : decode cX9_of 9 = .ok (.i2l, 1) := of_decide_eq_true (List.all_eq_true.mp dA_X9_of_0 (9, .i2l, 1) (List.mem_of_getElem? (i := 5) rfl))
theorem dX9_of_10 : decode cX9_of 10 = .ok (.lconst 0, 1) := of_decide_eq_true (List.all_eq_true.mp dA_X9_of_0 (10, .lconst 0, 1) (List.mem_of_getElem? (i := 6) rfl))
theorem dX9_of_11 : decode cX9_of 11 = .ok (.ldc2_w 67, 3) := of_decide_eq_true (List.all_eq_true.mp dA_X9_of_0 (11, .ldc2_w 67, 3) (List.mem_of_getElem? (i := 7) rfl))
theorem dX9_of_14 : decode cX9_of 14 = .ok (.invokestatic 59, 3) := of_decide_eq_true (List.all_eq_true.mp dA_X9_of_0 (14, .invokestatic 59, 3) (List.mem_of_getElem? (i := 8) rfl))
theorem dX9_of_17 : decode cX9_of 17 = .ok (.ifCond .eq 12, 3) := of_decide_eq_true (List.all_eq_true.mp dA_X9_of_0 (17, .ifCond .eq 12, 3) (List.mem_of_getElem? (i := 9) rfl))
theorem dX9_of_20 : decode cX9_of 20 = .ok (.aload_n 0, 1) := of_decide_eq_true (List.all_eq_true.mp dA_X9_of_0 (20, .aload_n 0, 1) (List.mem_of_getElem? (i := 10) rfl))
theorem dX9_of_21 : decode cX9_of 21 = .ok (.iload_n 1, 1) := of_decide_eq_true (List.all_eq_true.mp dA_X9_of_0 (21, .iload_n 1, 1) (List.mem_of_getElem? (i := 11) rfl))
theorem dX9_of_22 : decode cX9_of 22 = .ok (.iload_n 2, 1) := of_decide_eq_true (List.all_eq_true.mp dA_X9_of_0 (22, .iload_n 2, 1) (List.mem_of_getElem? (i := 12) rfl))
theorem dX9_of_23 : decode cX9_of 23 = .ok (.invokevirtual 147, 3) := of_decide_eq_true (List.all_eq_true.mp dA_X9_of_0 (23, .invokevirtual 147, 3) (List.mem_of_getElem? (i := 13) rfl))
theorem dX9_of_26 : decode cX9_of 26 = .ok (.goto 9, 3) := of_decide_eq_true (List.all_eq_true.mp dA_X9_of_0 (26, .goto 9, 3) (List.mem_of_getElem? (i := 14) rfl))
theorem dX9_of_29 : decode cX9_of 29 = .ok (.aload_n 0, 1) := of_decide_eq_true (List.all_eq_true.mp dA_X9_of_0 (29, .aload_n 0, 1) (List.mem_of_getElem? (i := 15) rfl))
theorem dX9_of_30 : decode cX9_of 30 = .ok (.bipush (-2), 2) := of_decide_eq_true (List.all_eq_true.mp dA_X9_of_0 (30, .bipush (-2), 2) (List.mem_of_getElem? (i := 16) rfl))
theorem dX9_of_32 : decode cX9_of 32 = .ok (.invokevirtual 75, 3) := of_decide_eq_true (List.all_eq_true.mp dA_X9_of_0 (32, .invokevirtual 75, 3) (List.mem_of_getElem? (i := 17) rfl))
theorem dX9_of_35 : decode cX9_of 35 = .ok (.ireturn, 1) := of_decide_eq_true (List.all_eq_true.mp dA_X9_of_0 (35, .ireturn, 1) (List.mem_of_getElem? (i := 18) rfl))
set_option maxRecDepth 20000 in
theorem ggX9_toldNow_X9_passesNow : GoodIn wsX9_toldNow wsX9_passesNow := goodIn_r _ [5, 6, 7, 4, 8, 9, 10, 11] (by decide +kernel) (by decide +kernel)
set_option maxRecDepth 20000 in
theorem gX9_toldNow_X9_passesNow : GoodIn wsX9_toldNow (va_wsS RX9 117 yX9_passesNow wsX9_passesNow) := goodIn_app (goodIn_of _ (by decide +kernel)) ggX9_toldNow_X9_passesNow
set_option maxRecDepth 20000 in
theorem ggX9_toldNow_X9_wetOf : GoodIn wsX9_toldNow wsX9_wetOf := goodIn_r _ [8] (by decide +kernel) (by decide +kernel)
set_option maxRecDepth 20000 in
theorem gX9_toldNow_X9_wetOf : GoodIn wsX9_toldNow (va_wsS RX9 95 yX9_wetOf wsX9_wetOf) := goodIn_app (goodIn_of _ (by decide +kernel)) ggX9_toldNow_X9_wetOf
set_option maxRecDepth 20000 in
theorem dA_X9_toldNow_0 : (([(0, .iload_n 1, 1), (1, .tableswitch 75 0 4 #[35, 43, 51, 59, 67], 35), (36, .aload_n 0, 1), (37, .getfield 7, 3), (40, .bipush 23, 2), (42, .iaload, 1), (43, .ireturn, 1), (44, .aload_n 0, 1), (45, .getfield 7, 3), (48, .bipush 24, 2), (50, .iaload, 1), (51, .ireturn, 1), (52, .aload_n 0, 1), (53, .getfield 7, 3), (56, .bipush 20, 2), (58, .iaload, 1), (59, .ireturn, 1), (60, .aload_n 0, 1), (61, .getfield 7, 3), (64, .bipush 21, 2), (66, .iaload, 1), (67, .ireturn, 1), (68, .aload_n 0, 1), (69, .getfield 7, 3), (72, .invokestatic 117, 3), (75, .ireturn, 1), (76, .aload_n 0, 1), (77, .getfield 7, 3), (80, .aload_n 0, 1), (81, .getfield 7, 3), (84, .bipush 22, 2), (86, .iaload, 1), (87, .invokestatic 95, 3), (90, .ireturn, 1)] : List (Nat × Instr × Nat)).all fun q => decide (decode cX9_toldNow q.1 = .ok (q.2.1, q.2.2))) = true := by decide +kernel
theorem dX9_toldNow_0 : decode cX9_toldNow 0 = .ok (.iload_n 1, 1) := of_decide_eq_true (List.all_eq_true.mp dA_X9_toldNow_0 (0, .iload_n 1, 1) (List.mem_of_getElem? (i := 0) rfl))
theorem dX9_toldNow_1 : decode cX9_toldNow 1 = .ok (.tableswitch 75 0 4 #[35, 43, 51, 59, 67], 35) := of_decide_eq_true (List.all_eq_true.mp dA_X9_toldNow_0 (1, .tableswitch 75 0 4 #[35, 43, 51, 59, 67], 35) (List.mem_of_getElem? (i := 1) rfl))
theorem dX9_toldNow_36 : decode cX9_toldNow 36 = .ok (.aload_n 0, 1) := of_decide_eq_true (List.all_eq_true.mp dA_X9_toldNow_0 (36, .aload_n 0, 1) (List.mem_of_getElem? (i := 2) rfl))
theorem dX9_toldNow_37 : decode cX9_toldNow 37 = .ok (.getfield 7, 3) := of_decide_eq_true (List.all_eq_true.mp dA_X9_toldNow_0 (37, .getfield 7, 3) (List.mem_of_getElem? (i := 3) rfl))
theorem dX9_toldNow_40 : decode cX9_toldNow 40 = .ok (.bipush 23, 2) := of_decide_eq_true (List.all_eq_true.mp dA_X9_toldNow_0 (40, .bipush 23, 2) (List.mem_of_getElem? (i := 4) rfl))
theorem dX9_toldNow_42 : decode cX9_toldNow 42 = .ok (.iaload, 1) := of_decide_eq_true (List.all_eq_true.mp dA_X9_toldNow_0 (42, .iaload, 1) (List.mem_of_getElem? (i := 5) rfl))
theorem dX9_toldNow_43 : decode cX9_toldNow 43 = .ok (.ireturn, 1) := of_decide_eq_true (List.all_eq_true.mp dA_X9_toldNow_0 (43, .ireturn, 1) (List.mem_of_getElem? (i := 6) rfl))
theorem dX9_toldNow_44 : decode cX9_toldNow 44 = .ok (.aload_n 0, 1) := of_decide_eq_true (List.all_eq_true.mp dA_X9_toldNow_0 (44, .aload_n 0, 1) (List.mem_of_getElem? (i := 7) rfl))
theorem dX9_toldNow_45 : decode cX9_toldNow 45 = .ok (.getfield 7, 3) := of_decide_eq_true (List.all_eq_true.mp dA_X9_toldNow_0 (45, .getfield 7, 3) (List.mem_of_getElem? (i := 8) rfl))
theorem dX9_toldNow_48 : decode cX9_toldNow 48 = .ok (.bipush 24, 2) := of_decide_eq_true (List.all_eq_true.mp dA_X9_toldNow_0 (48, .bipush 24, 2) (List.mem_of_getElem? (i := 9) rfl))
theorem dX9_toldNow_50 : decode cX9_toldNow 50 = .ok (.iaload, 1) := of_decide_eq_true (List.all_eq_true.mp dA_X9_toldNow_0 (50, .iaload, 1) (List.mem_of_getElem? (i := 10) rfl))
theorem dX9_toldNow_51 : decode cX9_toldNow 51 = .ok (.ireturn, 1) := of_decide_eq_true (List.all_eq_true.mp dA_X9_toldNow_0 (51, .ireturn, 1) (List.mem_of_getElem? (i := 11) rfl))
theorem dX9_toldNow_52 : decode cX9_toldNow 52 = .ok (.aload_n 0, 1) := of_decide_eq_true (List.all_eq_true.mp dA_X9_toldNow_0 (52, .aload_n 0, 1) (List.mem_of_getElem? (i := 12) rfl))
theorem dX9_toldNow_53 : decode cX9_toldNow 53 = .ok (.getfield 7, 3) := of_decide_eq_true (List.all_eq_true.mp dA_X9_toldNow_0 (53, .getfield 7, 3) (List.mem_of_getElem? (i := 13) rfl))
theorem dX9_toldNow_56 : decode cX9_toldNow 56 = .ok (.bipush 20, 2) := of_decide_eq_true (List.all_eq_true.mp dA_X9_toldNow_0 (56, .bipush 20, 2) (List.mem_of_getElem? (i := 14) rfl))
theorem dX9_toldNow_58 : decode cX9_toldNow 58 = .ok (.iaload, 1) := of_decide_eq_true (List.all_eq_true.mp dA_X9_toldNow_0 (58, .iaload, 1) (List.mem_of_getElem? (i := 15) rfl))
theorem dX9_toldNow_59 : decode cX9_toldNow 59 = .ok (.ireturn, 1) := of_decide_eq_true (List.all_eq_true.mp dA_X9_toldNow_0 (59, .ireturn, 1) (List.mem_of_getElem? (i := 16) rfl))
theorem dX9_toldNow_60 : decode cX9_toldNow 60 = .ok (.aload_n 0, 1) := of_decide_eq_true (List.all_eq_true.mp dA_X9_toldNow_0 (60, .aload_n 0, 1) (List.mem_of_getElem? (i := 17) rfl))
theorem dX9_toldNow_61 : decode cX9_toldNow 61 = .ok (.getfield 7, 3) := of_decide_eq_true (List.all_eq_true.mp dA_X9_toldNow_0 (61, .getfield 7, 3) (List.mem_of_getElem? (i := 18) rfl))
theorem dX9_toldNow_64 : decode cX9_toldNow 64 = .ok (.bipush 21, 2) := of_decide_eq_true (List.all_eq_true.mp dA_X9_toldNow_0 (64, .bipush 21, 2) (List.mem_of_getElem? (i := 19) rfl))
theorem dX9_toldNow_66 : decode cX9_toldNow 66 = .ok (.iaload, 1) := of_decide_eq_true (List.all_eq_true.mp dA_X9_toldNow_0 (66, .iaload, 1) (List.mem_of_getElem? (i := 20) rfl))
theorem dX9_toldNow_67 : decode cX9_toldNow 67 = .ok (.ireturn, 1) := of_decide_eq_true (List.all_eq_true.mp dA_X9_toldNow_0 (67, .ireturn, 1) (List.mem_of_getElem? (i := 21) rfl))
theorem dX9_toldNow_68 : decode cX9_toldNow 68 = .ok (.aload_n 0, 1) := of_decide_eq_true (List.all_eq_true.mp dA_X9_toldNow_0 (68, .aload_n 0, 1) (List.mem_of_getElem? (i := 22) rfl))
theorem dX9_toldNow_69 : decode cX9_toldNow 69 = .ok (.getfield 7, 3) := of_decide_eq_true (List.all_eq_true.mp dA_X9_toldNow_0 (69, .getfield 7, 3) (List.mem_of_getElem? (i := 23) rfl))
theorem dX9_toldNow_72 : decode cX9_toldNow 72 = .ok (.invokestatic 117, 3) := of_decide_eq_true (List.all_eq_true.mp dA_X9_toldNow_0 (72, .invokestatic 117, 3) (List.mem_of_getElem? (i := 24) rfl))
theorem dX9_toldNow_75 : decode cX9_toldNow 75 = .ok (.ireturn, 1) := of_decide_eq_true (List.all_eq_true.mp dA_X9_toldNow_0 (75, .ireturn, 1) (List.mem_of_getElem? (i := 25) rfl))
theorem dX9_toldNow_76 : decode cX9_toldNow 76 = .ok (.aload_n 0, 1) := of_decide_eq_true (List.all_eq_true.mp dA_X9_toldNow_0 (76, .aload_n 0, 1) (List.mem_of_getElem? (i := 26) rfl))
theorem dX9_toldNow_77 : decode cX9_toldNow 77 = .ok (.getfield 7, 3) := of_decide_eq_true (List.all_eq_true.mp dA_X9_toldNow_0 (77, .getfield 7, 3) (List.mem_of_getElem? (i := 27) rfl))
theorem dX9_toldNow_80 : decode cX9_toldNow 80 = .ok (.aload_n 0, 1) := of_decide_eq_true (List.all_eq_true.mp dA_X9_toldNow_0 (80, .aload_n 0, 1) (List.mem_of_getElem? (i := 28) rfl))
theorem dX9_toldNow_81 : decode cX9_toldNow 81 = .ok (.getfield 7, 3) := of_decide_eq_true (List.all_eq_true.mp dA_X9_toldNow_0 (81, .getfield 7, 3) (List.mem_of_getElem? (i := 29) rfl))
theorem dX9_toldNow_84 : decode cX9_toldNow 84 = .ok (.bipush 22, 2) := of_decide_eq_true (List.all_eq_true.mp dA_X9_toldNow_0 (84, .bipush 22, 2) (List.mem_of_getElem? (i := 30) rfl))
theorem dX9_toldNow_86 : decode cX9_toldNow 86 = .ok (.iaload, 1) := of_decide_eq_true (List.all_eq_true.mp dA_X9_toldNow_0 (86, .iaload, 1) (List.mem_of_getElem? (i := 31) rfl))
theorem dX9_toldNow_87 : decode cX9_toldNow 87 = .ok (.invokestatic 95, 3) := of_decide_eq_true (List.all_eq_true.mp dA_X9_toldNow_0 (87, .invokestatic 95, 3) (List.mem_of_getElem? (i := 32) rfl))
theorem dX9_toldNow_90 : decode cX9_toldNow 90 = .ok (.ireturn, 1) := of_decide_eq_true (List.all_eq_true.mp dA_X9_toldNow_0 (90, .ireturn, 1) (List.mem_of_getElem? (i := 33) rfl))
set_option maxRecDepth 20000 in
theorem ggX9_now_X9_in : GoodIn wsX9_now wsX9_in := goodIn_r _ [5] (by decide +kernel) (by decide +kernel)
set_option maxRecDepth 20000 in
theorem gX9_now_X9_in : GoodIn wsX9_now (va_wsS RX9 59 yX9_in wsX9_in) := goodIn_app (goodIn_of _ (by decide +kernel)) ggX9_now_X9_in
set_option maxRecDepth 20000 in
theorem ggX9_now_X9_toldNow : GoodIn wsX9_now wsX9_toldNow := goodIn_r _ [9, 10, 11, 12, 4, 13, 14, 15, 16, 17, 18, 19, 25, 26, 27, 28, 29, 30, 31, 32, 33, 34, 35, 36, 37, 38, 39, 40, 41, 42, 43] (by decide +kernel) (by decide +kernel)
set_option maxRecDepth 20000 in
theorem gX9_now_X9_toldNow : GoodIn wsX9_now (wsV RX9 150 RX9 yX9_toldNow wsX9_toldNow) := goodIn_app (goodIn_of _ (by decide +kernel)) ggX9_now_X9_toldNow
set_option maxRecDepth 20000 in
theorem ggX9_now_X9_bad : GoodIn wsX9_now wsX9_bad := goodIn_r _ [23, 24, 25, 26, 27, 28, 29, 30, 31, 32, 33, 34, 35, 36, 37, 38, 39, 40, 41, 42, 43] (by decide +kernel) (by decide +kernel)
set_option maxRecDepth 20000 in
theorem gX9_now_X9_bad : GoodIn wsX9_now (wsV RX9 75 RX9 yX9_bad wsX9_bad) := goodIn_app (goodIn_of _ (by decide +kernel)) ggX9_now_X9_bad
set_option maxRecDepth 20000 in
theorem dA_X9_now_0 : (([(0, .iload_n 1, 1), (1, .i2l, 1), (2, .lconst 0, 1), (3, .ldc2_w 63, 3), (6, .invokestatic 59, 3), (9, .ifCond .eq 11, 3), (12, .aload_n 0, 1), (13, .iload_n 1, 1), (14, .invokevirtual 150, 3), (17, .goto 10, 3), (20, .aload_n 0, 1), (21, .sipush (-1000), 3), (24, .invokevirtual 75, 3), (27, .ireturn, 1)] : List (Nat × Instr × Nat)).all fun q => decide (decode cX9_now q.1 = .ok (q.2.1, q.2.2))) = true := by decide +kernel
theorem dX9_now_0 : decode cX9_now 0 = .ok (.iload_n 1, 1) := of_decide_eq_true (List.all_eq_true.mp dA_X9_now_0 (0, .iload_n 1, 1) (List.mem_of_getElem? (i := 0) rfl))
theorem dX9_now_1 : decode cX9_now 1 = .ok (.i2l, 1) := of_decide_eq_true (List.all_eq_true.mp dA_X9_now_0 (1, .i2l, 1) (List.mem_of_getElem? (i := 1) rfl))
theorem dX9_now_2 : decode cX9_now 2 = .ok (.lconst 0, 1) := of_decide_eq_true (List.all_eq_true.mp dA_X9_now_0 (2, .lconst 0, 1) (List.mem_of_getElem? (i := 2) rfl))
theorem dX9_now_3 : decode cX9_now 3 = .ok (.ldc2_w 63, 3) := of_decide_eq_true (List.all_eq_true.mp dA_X9_now_0 (3, .ldc2_w 63, 3) (List.mem_of_getElem? (i := 3) rfl))
theorem dX9_now_6 : decode cX9_now 6 = .ok (.invokestatic 59, 3) := of_decide_eq_true (List.all_eq_true.mp dA_X9_now_0 (6, .invokestatic 59, 3) (List.mem_of_getElem? (i := 4) rfl))
theorem dX9_now_9 : decode cX9_now 9 = .ok (.ifCond .eq 11, 3) := of_decide_eq_true (List.all_eq_true.mp dA_X9_now_0 (9, .ifCond .eq 11, 3) (List.mem_of_getElem? (i := 5) rfl))
theorem dX9_now_12 : decode cX9_now 12 = .ok (.aload_n 0, 1) := of_decide_eq_true (List.all_eq_true.mp dA_X9_now_0 (12, .aload_n 0, 1) (List.mem_of_getElem? (i := 6) rfl))
theorem dX9_now_13 : decode cX9_now 13 = .ok (.iload_n 1, 1) := of_decide_eq_true (List.all_eq_true.mp dA_X9_now_0 (13, .iload_n 1, 1) (List.mem_of_getElem? (i := 7) rfl))
theorem dX9_now_14 : decode cX9_now 14 = .ok (.invokevirtual 150, 3) := of_decide_eq_true (List.all_eq_true.mp dA_X9_now_0 (14, .invokevirtual 150, 3) (List.mem_of_getElem? (i := 8) rfl))
theorem dX9_now_17 : decode cX9_now 17 = .ok (.goto 10, 3) := of_decide_eq_true (List.all_eq_true.mp dA_X9_now_0 (17, .goto 10, 3) (List.mem_of_getElem? (i := 9) rfl))
theorem dX9_now_20 : decode cX9_now 20 = .ok (.aload_n 0, 1) := of_decide_eq_true (List.all_eq_true.mp dA_X9_now_0 (20, .aload_n 0, 1) (List.mem_of_getElem? (i := 10) rfl))
theorem dX9_now_21 : decode cX9_now 21 = .ok (.sipush (-1000), 3) := of_decide_eq_true (List.all_eq_true.mp dA_X9_now_0 (21, .sipush (-1000), 3) (List.mem_of_getElem? (i := 11) rfl))
theorem dX9_now_24 : decode cX9_now 24 = .ok (.invokevirtual 75, 3) := of_decide_eq_true (List.all_eq_true.mp dA_X9_now_0 (24, .invokevirtual 75, 3) (List.mem_of_getElem? (i := 12) rfl))
theorem dX9_now_27 : decode cX9_now 27 = .ok (.ireturn, 1) := of_decide_eq_true (List.all_eq_true.mp dA_X9_now_0 (27, .ireturn, 1) (List.mem_of_getElem? (i := 13) rfl))
set_option maxRecDepth 20000 in
theorem ggX9_may_X9_many : GoodIn wsX9_may wsX9_many := goodIn_r _ [6, 1, 34, 35, 36, 37, 38, 39, 40, 41, 42, 43, 44, 45, 46, 47, 48, 49, 50, 51, 52] (by decide +kernel) (by decide +kernel)
set_option maxRecDepth 20000 in
theorem gX9_may_X9_many : GoodIn wsX9_may (wsV RX9 55 RX9 yX9_many wsX9_many) := goodIn_app (goodIn_of _ (by decide +kernel)) ggX9_may_X9_many
set_option maxRecDepth 20000 in
theorem ggX9_may_X9_letsIn : GoodIn wsX9_may wsX9_letsIn := goodIn_r _ [9, 10, 11, 5, 12, 13, 14, 15, 16, 17, 18, 19, 20, 21, 22, 23, 24, 25, 26, 27, 28, 29, 30, 31, 32, 33] (by decide +kernel) (by decide +kernel)
set_option maxRecDepth 20000 in
theorem gX9_may_X9_letsIn : GoodIn wsX9_may (va_wsS RX9 121 yX9_letsIn wsX9_letsIn) := goodIn_app (goodIn_of _ (by decide +kernel)) ggX9_may_X9_letsIn
set_option maxRecDepth 20000 in
theorem dA_X9_may_0 : (([(0, .iconst 0, 1), (1, .istore_n 1, 1), (2, .iconst 0, 1), (3, .istore_n 2, 1), (4, .iload_n 2, 1), (5, .aload_n 0, 1), (6, .invokevirtual 55, 3), (9, .if_icmp .ge 30, 3), (12, .iload_n 1, 1), (13, .aload_n 0, 1), (14, .getfield 7, 3), (17, .iload_n 2, 1), (18, .invokestatic 121, 3), (21, .ifCond .eq 9, 3), (24, .iconst 1, 1), (25, .iload_n 2, 1), (26, .ishl, 1), (27, .goto 4, 3), (30, .iconst 0, 1), (31, .ior, 1), (32, .istore_n 1, 1), (33, .iinc 2 1, 3), (36, .goto (-32), 3), (39, .iload_n 1, 1), (40, .ireturn, 1)] : List (Nat × Instr × Nat)).all fun q => decide (decode cX9_may q.1 = .ok (q.2.1, q.2.2))) = true := by decide +kernel
theorem dX9_may_0 : decode cX9_may 0 = .ok (.iconst 0, 1) := of_decide_eq_true (List.all_eq_true.mp dA_X9_may_0 (0, .iconst 0, 1) (List.mem_of_getElem? (i := 0) rfl))
theorem dX9_may_1 : decode cX9_may 1 = .ok (.istore_n 1, 1) := of_decide_eq_true (List.all_eq_true.mp dA_X9_may_0 (1, .istore_n 1, 1) (List.mem_of_getElem? (i := 1) rfl))
theorem dX9_may_2 : decode cX9_may 2 = .ok (.iconst 0, 1) := of_decide_eq_true (List.all_eq_true.mp dA_X9_may_0 (2, .iconst 0, 1) (List.mem_of_getElem? (i := 2) rfl))
theorem dX9_may_3 : decode cX9_may 3 = .ok (.istore_n 2, 1) := of_decide_eq_true (List.all_eq_true.mp dA_X9_may_0 (3, .istore_n 2, 1) (List.mem_of_getElem? (i := 3) rfl))
theorem dX9_may_4 : decode cX9_may 4 = .ok (.iload_n 2, 1) := of_decide_eq_true (List.all_eq_true.mp dA_X9_may_0 (4, .iload_n 2, 1) (List.mem_of_getElem? (i := 4) rfl))
theorem dX9_may_5 : decode cX9_may 5 = .ok (.aload_n 0, 1) := of_decide_eq_true (List.all_eq_true.mp dA_X9_may_0 (5, .aload_n 0, 1) (List.mem_of_getElem? (i := 5) rfl))
theorem dX9_may_6 : decode cX9_may 6 = .ok (.invokevirtual 55, 3) := of_decide_eq_true (List.all_eq_true.mp dA_X9_may_0 (6, .invokevirtual 55, 3) (List.mem_of_getElem? (i := 6) rfl))
theorem dX9_may_9 : decode cX9_may 9 = .ok (.if_icmp .ge 30, 3) := of_decide_eq_true (List.all_eq_true.mp dA_X9_may_0 (9, .if_icmp .ge 30, 3) (List.mem_of_getElem? (i := 7) rfl))
theorem dX9_may_12 : decode cX9_may 12 = .ok (.iload_n 1, 1) := of_decide_eq_true (List.all_eq_true.mp dA_X9_may_0 (12, .iload_n 1, 1) (List.mem_of_getElem? (i := 8) rfl))
theorem dX9_may_13 : decode cX9_may 13 = .ok (.aload_n 0, 1) := of_decide_eq_true (List.all_eq_true.mp dA_X9_may_0 (13, .aload_n 0, 1) (List.mem_of_getElem? (i := 9) rfl))
theorem dX9_may_14 : decode cX9_may 14 = .ok (.getfield 7, 3) := of_decide_eq_true (List.all_eq_true.mp dA_X9_may_0 (14, .getfield 7, 3) (List.mem_of_getElem? (i := 10) rfl))
theorem dX9_may_17 : decode cX9_may 17 = .ok (.iload_n 2, 1) := of_decide_eq_true (List.all_eq_true.mp dA_X9_may_0 (17, .iload_n 2, 1) (List.mem_of_getElem? (i := 11) rfl))
theorem dX9_may_18 : decode cX9_may 18 = .ok (.invokestatic 121, 3) := of_decide_eq_true (List.all_eq_true.mp dA_X9_may_0 (18, .invokestatic 121, 3) (List.mem_of_getElem? (i := 12) rfl))
theorem dX9_may_21 : decode cX9_may 21 = .ok (.ifCond .eq 9, 3) := of_decide_eq_true (List.all_eq_true.mp dA_X9_may_0 (21, .ifCond .eq 9, 3) (List.mem_of_getElem? (i := 13) rfl))
theorem dX9_may_24 : decode cX9_may 24 = .ok (.iconst 1, 1) := of_decide_eq_true (List.all_eq_true.mp dA_X9_may_0 (24, .iconst 1, 1) (List.mem_of_getElem? (i := 14) rfl))
theorem dX9_may_25 : decode cX9_may 25 = .ok (.iload_n 2, 1) := of_decide_eq_true (List.all_eq_true.mp dA_X9_may_0 (25, .iload_n 2, 1) (List.mem_of_getElem? (i := 15) rfl))
theorem dX9_may_26 : decode cX9_may 26 = .ok (.ishl, 1) := of_decide_eq_true (List.all_eq_true.mp dA_X9_may_0 (26, .ishl, 1) (List.mem_of_getElem? (i := 16) rfl))
theorem dX9_may_27 : decode cX9_may 27 = .ok (.goto 4, 3) := of_decide_eq_true (List.all_eq_true.mp dA_X9_may_0 (27, .goto 4, 3) (List.mem_of_getElem? (i := 17) rfl))
theorem dX9_may_30 : decode cX9_may 30 = .ok (.iconst 0, 1) := of_decide_eq_true (List.all_eq_true.mp dA_X9_may_0 (30, .iconst 0, 1) (List.mem_of_getElem? (i := 18) rfl))
theorem dX9_may_31 : decode cX9_may 31 = .ok (.ior, 1) := of_decide_eq_true (List.all_eq_true.mp dA_X9_may_0 (31, .ior, 1) (List.mem_of_getElem? (i := 19) rfl))
theorem dX9_may_32 : decode cX9_may 32 = .ok (.istore_n 1, 1) := of_decide_eq_true (List.all_eq_true.mp dA_X9_may_0 (32, .istore_n 1, 1) (List.mem_of_getElem? (i := 20) rfl))
theorem dX9_may_33 : decode cX9_may 33 = .ok (.iinc 2 1, 3) := of_decide_eq_true (List.all_eq_true.mp dA_X9_may_0 (33, .iinc 2 1, 3) (List.mem_of_getElem? (i := 21) rfl))
theorem dX9_may_36 : decode cX9_may 36 = .ok (.goto (-32), 3) := of_decide_eq_true (List.all_eq_true.mp dA_X9_may_0 (36, .goto (-32), 3) (List.mem_of_getElem? (i := 22) rfl))
theorem dX9_may_39 : decode cX9_may 39 = .ok (.iload_n 1, 1) := of_decide_eq_true (List.all_eq_true.mp dA_X9_may_0 (39, .iload_n 1, 1) (List.mem_of_getElem? (i := 23) rfl))
theorem dX9_may_40 : decode cX9_may 40 = .ok (.ireturn, 1) := of_decide_eq_true (List.all_eq_true.mp dA_X9_may_0 (40, .ireturn, 1) (List.mem_of_getElem? (i := 24) rfl))
set_option maxRecDepth 20000 in
theorem dA_X9_layHand_0 : (([(0, .iconst 0, 1), (1, .istore_n 1, 1), (2, .iload_n 1, 1), (3, .bipush 38, 2), (5, .if_icmp .ge 21, 3), (8, .aload_n 0, 1), (9, .getfield 27, 3), (12, .iload_n 1, 1), (13, .aload_n 0, 1), (14, .getfield 7, 3), (17, .iload_n 1, 1), (18, .iaload, 1), (19, .iastore, 1), (20, .iinc 1 1, 3), (23, .goto (-21), 3), (26, .return_, 1)] : List (Nat × Instr × Nat)).all fun q => decide (decode cX9_layHand q.1 = .ok (q.2.1, q.2.2))) = true := by decide +kernel
theorem dX9_layHand_0 : decode cX9_layHand 0 = .ok (.iconst 0, 1) := of_decide_eq_true (List.all_eq_true.mp dA_X9_layHand_0 (0, .iconst 0, 1) (List.mem_of_getElem? (i := 0) rfl))
theorem dX9_layHand_1 : decode cX9_layHand 1 = .ok (.istore_n 1, 1) := of_decide_eq_true (List.all_eq_true.mp dA_X9_layHand_0 (1, .istore_n 1, 1) (List.mem_of_getElem? (i := 1) rfl))
theorem dX9_layHand_2 : decode cX9_layHand 2 = .ok (.iload_n 1, 1) := of_decide_eq_true (List.all_eq_true.mp dA_X9_layHand_0 (2, .iload_n 1, 1) (List.mem_of_getElem? (i := 2) rfl))
theorem dX9_layHand_3 : decode cX9_layHand 3 = .ok (.bipush 38, 2) := of_decide_eq_true (List.all_eq_true.mp dA_X9_layHand_0 (3, .bipush 38, 2) (List.mem_of_getElem? (i := 3) rfl))
theorem dX9_layHand_5 : decode cX9_layHand 5 = .ok (.if_icmp .ge 21, 3) := of_decide_eq_true (List.all_eq_true.mp dA_X9_layHand_0 (5, .if_icmp .ge 21, 3) (List.mem_of_getElem? (i := 4) rfl))
theorem dX9_layHand_8 : decode cX9_layHand 8 = .ok (.aload_n 0, 1) := of_decide_eq_true (List.all_eq_true.mp dA_X9_layHand_0 (8, .aload_n 0, 1) (List.mem_of_getElem? (i := 5) rfl))
theorem dX9_layHand_9 : decode cX9_layHand 9 = .ok (.getfield 27, 3) := of_decide_eq_true (List.all_eq_true.mp dA_X9_layHand_0 (9, .getfield 27, 3) (List.mem_of_getElem? (i := 6) rfl))
theorem dX9_layHand_12 : decode cX9_layHand 12 = .ok (.iload_n 1, 1) := of_decide_eq_true (List.all_eq_true.mp dA_X9_layHand_0 (12, .iload_n 1, 1) (List.mem_of_getElem? (i := 7) rfl))
theorem dX9_layHand_13 : decode cX9_layHand 13 = .ok (.aload_n 0, 1) := of_decide_eq_true (List.all_eq_true.mp dA_X9_layHand_0 (13, .aload_n 0, 1) (List.mem_of_getElem? (i := 8) rfl))
theorem dX9_layHand_14 : decode cX9_layHand 14 = .ok (.getfield 7, 3) := of_decide_eq_true (List.all_eq_true.mp dA_X9_layHand_0 (14, .getfield 7, 3) (List.mem_of_getElem? (i := 9) rfl))
theorem dX9_layHand_17 : decode cX9_layHand 17 = .ok (.iload_n 1, 1) := of_decide_eq_true (List.all_eq_true.mp dA_X9_layHand_0 (17, .iload_n 1, 1) (List.mem_of_getElem? (i := 10) rfl))
theorem dX9_layHand_18 : decode cX9_layHand 18 = .ok (.iaload, 1) := of_decide_eq_true (List.all_eq_true.mp dA_X9_layHand_0 (18, .iaload, 1) (List.mem_of_getElem? (i := 11) rfl))
theorem dX9_layHand_19 : decode cX9_layHand 19 = .ok (.iastore, 1) := of_decide_eq_true (List.all_eq_true.mp dA_X9_layHand_0 (19, .iastore, 1) (List.mem_of_getElem? (i := 12) rfl))
theorem dX9_layHand_20 : decode cX9_layHand 20 = .ok (.iinc 1 1, 3) := of_decide_eq_true (List.all_eq_true.mp dA_X9_layHand_0 (20, .iinc 1 1, 3) (List.mem_of_getElem? (i := 13) rfl))
theorem dX9_layHand_23 : decode cX9_layHand 23 = .ok (.goto (-21), 3) := of_decide_eq_true (List.all_eq_true.mp dA_X9_layHand_0 (23, .goto (-21), 3) (List.mem_of_getElem? (i := 14) rfl))
theorem dX9_layHand_26 : decode cX9_layHand 26 = .ok (.return_, 1) := of_decide_eq_true (List.all_eq_true.mp dA_X9_layHand_0 (26, .return_, 1) (List.mem_of_getElem? (i := 15) rfl))
set_option maxRecDepth 20000 in
theorem ggX9_when_X9_isOne : GoodIn wsX9_when wsX9_isOne := goodIn_r _ [6, 7, 8, 9, 5, 10, 11, 12, 13, 14, 51, 52, 53, 54, 55, 56, 57, 58, 59, 60, 61, 62, 63, 64, 65, 66, 67, 68, 69] (by decide +kernel) (by decide +kernel)
set_option maxRecDepth 20000 in
theorem gX9_when_X9_isOne : GoodIn wsX9_when (wsV RX9 129 RX9 yX9_isOne wsX9_isOne) := goodIn_app (goodIn_of _ (by decide +kernel)) ggX9_when_X9_isOne
set_option maxRecDepth 20000 in
theorem ggX9_when_X9_bad : GoodIn wsX9_when wsX9_bad := goodIn_r _ [18, 19, 51, 52, 53, 54, 55, 56, 57, 58, 59, 60, 61, 62, 63, 64, 65, 66, 67, 68, 69] (by decide +kernel) (by decide +kernel)
set_option maxRecDepth 20000 in
theorem gX9_when_X9_bad : GoodIn wsX9_when (wsV RX9 75 RX9 yX9_bad wsX9_bad) := goodIn_app (goodIn_of _ (by decide +kernel)) ggX9_when_X9_bad
set_option maxRecDepth 20000 in
theorem ggX9_when_X9_layHand : GoodIn wsX9_when wsX9_layHand := goodIn_r _ [23, 1, 11, 51, 52, 53, 54, 55, 56, 57, 58, 59, 60, 61, 62, 63, 64, 65, 66, 67, 68, 69] (by decide +kernel) (by decide +kernel)
set_option maxRecDepth 20000 in
theorem gX9_when_X9_layHand : GoodIn wsX9_when (wsV RX9 153 RX9 yX9_layHand wsX9_layHand) := goodIn_app (goodIn_of _ (by decide +kernel)) ggX9_when_X9_layHand
set_option maxRecDepth 20000 in
theorem ggX9_when_X9_letsIn : GoodIn wsX9_when wsX9_letsIn := goodIn_r _ [26, 27, 28, 5, 29, 30, 31, 32, 33, 34, 35, 36, 37, 38, 39, 40, 41, 42, 43, 44, 45, 46, 47, 48, 49, 50] (by decide +kernel) (by decide +kernel)
set_option maxRecDepth 20000 in
theorem gX9_when_X9_letsIn : GoodIn wsX9_when (va_wsS RX9 121 yX9_letsIn wsX9_letsIn) := goodIn_app (goodIn_of _ (by decide +kernel)) ggX9_when_X9_letsIn
set_option maxRecDepth 20000 in
theorem dA_X9_when_0 : (([(0, .aload_n 0, 1), (1, .iload_n 1, 1), (2, .invokevirtual 129, 3), (5, .ifCond .ne 10, 3), (8, .aload_n 0, 1), (9, .bipush (-2), 2), (11, .invokevirtual 75, 3), (14, .ireturn, 1), (15, .aload_n 0, 1), (16, .invokevirtual 153, 3), (19, .iconst 0, 1), (20, .istore_n 2, 1), (21, .iload_n 2, 1), (22, .bipush 60, 2), (24, .if_icmp .gt 41, 3), (27, .aload_n 0, 1), (28, .getfield 27, 3), (31, .iload_n 1, 1), (32, .invokestatic 121, 3), (35, .ifCond .eq 5, 3), (38, .iload_n 2, 1), (39, .ireturn, 1), (40, .aload_n 0, 1), (41, .getfield 27, 3), (44, .bipush 22, 2), (46, .dup2, 1), (47, .iaload, 1), (48, .iconst 1, 1), (49, .iadd, 1), (50, .iastore, 1), (51, .aload_n 0, 1), (52, .getfield 27, 3), (55, .bipush 20, 2), (57, .iconst 0, 1), (58, .iastore, 1), (59, .iinc 2 1, 3), (62, .goto (-41), 3), (65, .iconst (-1), 1), (66, .ireturn, 1)] : List (Nat × Instr × Nat)).all fun q => decide (decode cX9_when q.1 = .ok (q.2.1, q.2.2))) = true := by decide +kernel
theorem dX9_when_0 : decode cX9_when 0 = .ok (.aload_n 0, 1) := of_decide_eq_true (List.all_eq_true.mp dA_X9_when_0 (0, .aload_n 0, 1) (List.mem_of_getElem? (i := 0) rfl))
theorem dX9_when_1 : decode cX9_when 1 = .ok (.iload_n 1, 1) := of_decide_eq_true (List.all_eq_true.mp dA_X9_when_0 (1, .iload_n 1, 1) (List.mem_of_getElem? (i := 1) rfl))
theorem dX9_when_2 : decode cX9_when 2 = .ok (.invokevirtual 129, 3) := of_decide_eq_true (List.all_eq_true.mp dA_X9_when_0 (2, .invokevirtual 129, 3) (List.mem_of_getElem? (i := 2) rfl))
theorem dX9_when_5 : decode cX9_when 5 = .ok (.ifCond .ne 10, 3) := of_decide_eq_true (List.all_eq_true.mp dA_X9_when_0 (5, .ifCond .ne 10, 3) (List.mem_of_getElem? (i := 3) rfl))
theorem dX9_when_8 : decode cX9_when 8 = .ok (.aload_n 0, 1) := of_decide_eq_true (List.all_eq_true.mp dA_X9_when_0 (8, .aload_n 0, 1) (List.mem_of_getElem? (i := 4) rfl))
theorem dX9_when_9 : decode cX9_when 9 = .ok (.bipush (-2), 2) := of_decide_eq_true (List.all_eq_true.mp dA_X9_when_0 (9, .bipush (-2), 2) (List.mem_of_getElem? (i := 5) rfl))
theorem dX9_when_11 : decode cX9_when 11 = .ok (.invokevirtual 75, 3) := of_decide_eq_true (List.all_eq_true.mp dA_X9_when_0 (11, .invokevirtual 75, 3) (List.mem_of_getElem? (i := 6) rfl))
theorem dX9_when_14 : decode cX9_when 14 = .ok (.ireturn, 1) := of_decide_eq_true (List.all_eq_true.mp dA_X9_when_0 (14, .ireturn, 1) (List.mem_of_getElem? (i := 7) rfl))
theorem dX9_when_15 : decode cX9_when 15 = .ok (.aload_n 0, 1) := of_decide_eq_true (List.all_eq_true.mp dA_X9_when_0 (15, .aload_n 0, 1) (List.mem_of_getElem? (i := 8) rfl))
theorem dX9_when_16 : decode cX9_when 16 = .ok (.invokevirtual 153, 3) := of_decide_eq_true (List.all_eq_true.mp dA_X9_when_0 (16, .invokevirtual 153, 3) (List.mem_of_getElem? (i := 9) rfl))
theorem dX9_when_19 : decode cX9_when 19 = .ok (.iconst 0, 1) := of_decide_eq_true (List.all_eq_true.mp dA_X9_when_0 (19, .iconst 0, 1) (List.mem_of_getElem? (i := 10) rfl))
theorem dX9_when_20 : decode cX9_when 20 = .ok (.istore_n 2, 1) := of_decide_eq_true (List.all_eq_true.mp dA_X9_when_0 (20, .istore_n 2, 1) (List.mem_of_getElem? (i := 11) rfl))
theorem dX9_when_21 : decode cX9_when 21 = .ok (.iload_n 2, 1) := of_decide_eq_true (List.all_eq_true.mp dA_X9_when_0 (21, .iload_n 2, 1) (List.mem_of_getElem? (i := 12) rfl))
theorem dX9_when_22 : decode cX9_when 22 = .ok (.bipush 60, 2) := of_decide_eq_true (List.all_eq_true.mp dA_X9_when_0 (22, .bipush 60, 2) (List.mem_of_getElem? (i := 13) rfl))
theorem dX9_when_24 : decode cX9_when 24 = .ok (.if_icmp .gt 41, 3) := of_decide_eq_true (List.all_eq_true.mp dA_X9_when_0 (24, .if_icmp .gt 41, 3) (List.mem_of_getElem? (i := 14) rfl))
theorem dX9_when_27 : decode cX9_when 27 = .ok (.aload_n 0, 1) := of_decide_eq_true (List.all_eq_true.mp dA_X9_when_0 (27, .aload_n 0, 1) (List.mem_of_getElem? (i := 15) rfl))
theorem dX9_when_28 : decode cX9_when 28 = .ok (.getfield 27, 3) := of_decide_eq_true (List.all_eq_true.mp dA_X9_when_0 (28, .getfield 27, 3) (List.mem_of_getElem? (i := 16) rfl))
theorem dX9_when_31 : decode cX9_when 31 = .ok (.iload_n 1, 1) := of_decide_eq_true (List.all_eq_true.mp dA_X9_when_0 (31, .iload_n 1, 1) (List.mem_of_getElem? (i := 17) rfl))
theorem dX9_when_32 : decode cX9_when 32 = .ok (.invokestatic 121, 3) := of_decide_eq_true (List.all_eq_true.mp dA_X9_when_0 (32, .invokestatic 121, 3) (List.mem_of_getElem? (i := 18) rfl))
theorem dX9_when_35 : decode cX9_when 35 = .ok (.ifCond .eq 5, 3) := of_decide_eq_true (List.all_eq_true.mp dA_X9_when_0 (35, .ifCond .eq 5, 3) (List.mem_of_getElem? (i := 19) rfl))
theorem dX9_when_38 : decode cX9_when 38 = .ok (.iload_n 2, 1) := of_decide_eq_true (List.all_eq_true.mp dA_X9_when_0 (38, .iload_n 2, 1) (List.mem_of_getElem? (i := 20) rfl))
theorem dX9_when_39 : decode cX9_when 39 = .ok (.ireturn, 1) := of_decide_eq_true (List.all_eq_true.mp dA_X9_when_0 (39, .ireturn, 1) (List.mem_of_getElem? (i := 21) rfl))
theorem dX9_when_40 : decode cX9_when 40 = .ok (.aload_n 0, 1) := of_decide_eq_true (List.all_eq_true.mp dA_X9_when_0 (40, .aload_n 0, 1) (List.mem_of_getElem? (i := 22) rfl))
theorem dX9_when_41 : decode cX9_when 41 = .ok (.getfield 27, 3) := of_decide_eq_true (List.all_eq_true.mp dA_X9_when_0 (41, .getfield 27, 3) (List.mem_of_getElem? (i := 23) rfl))
theorem dX9_when_44 : decode cX9_when 44 = .ok (.bipush 22, 2) := of_decide_eq_true (List.all_eq_true.mp dA_X9_when_0 (44, .bipush 22, 2) (List.mem_of_getElem? (i := 24) rfl))
theorem dX9_when_46 : decode cX9_when 46 = .ok (.dup2, 1) := of_decide_eq_true (List.all_eq_true.mp dA_X9_when_0 (46, .dup2, 1) (List.mem_of_getElem? (i := 25) rfl))
theorem dX9_when_47 : decode cX9_when 47 = .ok (.iaload, 1) := of_decide_eq_true (List.all_eq_true.mp dA_X9_when_0 (47, .iaload, 1) (List.mem_of_getElem? (i := 26) rfl))
theorem dX9_when_48 : decode cX9_when 48 = .ok (.iconst 1, 1) := of_decide_eq_true (List.all_eq_true.mp dA_X9_when_0 (48, .iconst 1, 1) (List.mem_of_getElem? (i := 27) rfl))
theorem dX9_when_49 : decode cX9_when 49 = .ok (.iadd, 1) := of_decide_eq_true (List.all_eq_true.mp dA_X9_when_0 (49, .iadd, 1) (List.mem_of_getElem? (i := 28) rfl))
theorem dX9_when_50 : decode cX9_when 50 = .ok (.iastore, 1) := of_decide_eq_true (List.all_eq_true.mp dA_X9_when_0 (50, .iastore, 1) (List.mem_of_getElem? (i := 29) rfl))
theorem dX9_when_51 : decode cX9_when 51 = .ok (.aload_n 0, 1) := of_decide_eq_true (List.all_eq_true.mp dA_X9_when_0 (51, .aload_n 0, 1) (List.mem_of_getElem? (i := 30) rfl))
theorem dX9_when_52 : decode cX9_when 52 = .ok (.getfield 27, 3) := of_decide_eq_true (List.all_eq_true.mp dA_X9_when_0 (52, .getfield 27, 3) (List.mem_of_getElem? (i := 31) rfl))
theorem dX9_when_55 : decode cX9_when 55 = .ok (.bipush 20, 2) := of_decide_eq_true (List.all_eq_true.mp dA_X9_when_0 (55, .bipush 20, 2) (List.mem_of_getElem? (i := 32) rfl))
theorem dX9_when_57 : decode cX9_when 57 = .ok (.iconst 0, 1) := of_decide_eq_true (List.all_eq_true.mp dA_X9_when_0 (57, .iconst 0, 1) (List.mem_of_getElem? (i := 33) rfl))
theorem dX9_when_58 : decode cX9_when 58 = .ok (.iastore, 1) := of_decide_eq_true (List.all_eq_true.mp dA_X9_when_0 (58, .iastore, 1) (List.mem_of_getElem? (i := 34) rfl))
theorem dX9_when_59 : decode cX9_when 59 = .ok (.iinc 2 1, 3) := of_decide_eq_true (List.all_eq_true.mp dA_X9_when_0 (59, .iinc 2 1, 3) (List.mem_of_getElem? (i := 35) rfl))
theorem dX9_when_62 : decode cX9_when 62 = .ok (.goto (-41), 3) := of_decide_eq_true (List.all_eq_true.mp dA_X9_when_0 (62, .goto (-41), 3) (List.mem_of_getElem? (i := 36) rfl))
theorem dX9_when_65 : decode cX9_when 65 = .ok (.iconst (-1), 1) := of_decide_eq_true (List.all_eq_true.mp dA_X9_when_0 (65, .iconst (-1), 1) (List.mem_of_getElem? (i := 37) rfl))
theorem dX9_when_66 : decode cX9_when 66 = .ok (.ireturn, 1) := of_decide_eq_true (List.all_eq_true.mp dA_X9_when_0 (66, .ireturn, 1) (List.mem_of_getElem? (i := 38) rfl))
set_option maxRecDepth 20000 in
theorem ggX9_pen_X9_isOne : GoodIn wsX9_pen wsX9_isOne := goodIn_r _ [6, 7, 8, 9, 5, 10, 11, 12, 13, 14, 51, 52, 53, 54, 55, 56, 57, 58, 59, 60, 61, 62, 63, 64, 65, 66, 67, 68, 69] (by decide +kernel) (by decide +kernel)
set_option maxRecDepth 20000 in
theorem gX9_pen_X9_isOne : GoodIn wsX9_pen (wsV RX9 129 RX9 yX9_isOne wsX9_isOne) := goodIn_app (goodIn_of _ (by decide +kernel)) ggX9_pen_X9_isOne
set_option maxRecDepth 20000 in
theorem ggX9_pen_X9_bad : GoodIn wsX9_pen wsX9_bad := goodIn_r _ [18, 19, 51, 52, 53, 54, 55, 56, 57, 58, 59, 60, 61, 62, 63, 64, 65, 66, 67, 68, 69] (by decide +kernel) (by decide +kernel)
set_option maxRecDepth 20000 in
theorem gX9_pen_X9_bad : GoodIn wsX9_pen (wsV RX9 75 RX9 yX9_bad wsX9_bad) := goodIn_app (goodIn_of _ (by decide +kernel)) ggX9_pen_X9_bad
set_option maxRecDepth 20000 in
theorem ggX9_pen_X9_layHand : GoodIn wsX9_pen wsX9_layHand := goodIn_r _ [23, 1, 11, 51, 52, 53, 54, 55, 56, 57, 58, 59, 60, 61, 62, 63, 64, 65, 66, 67, 68, 69] (by decide +kernel) (by decide +kernel)
set_option maxRecDepth 20000 in
theorem gX9_pen_X9_layHand : GoodIn wsX9_pen (wsV RX9 153 RX9 yX9_layHand wsX9_layHand) := goodIn_app (goodIn_of _ (by decide +kernel)) ggX9_pen_X9_layHand
set_option maxRecDepth 20000 in
theorem ggX9_pen_X9_letsIn : GoodIn wsX9_pen wsX9_letsIn := goodIn_r _ [26, 27, 28, 5, 29, 30, 31, 32, 33, 34, 35, 36, 37, 38, 39, 40, 41, 42, 43, 44, 45, 46, 47, 48, 49, 50] (by decide +kernel) (by decide +kernel)
set_option maxRecDepth 20000 in
theorem gX9_pen_X9_letsIn : GoodIn wsX9_pen (va_wsS RX9 121 yX9_letsIn wsX9_letsIn) := goodIn_app (goodIn_of _ (by decide +kernel)) ggX9_pen_X9_letsIn
set_option maxRecDepth 20000 in
theorem dA_X9_pen_0 : (([(0, .aload_n 0, 1), (1, .iload_n 1, 1), (2, .invokevirtual 129, 3), (5, .ifCond .ne 10, 3), (8, .aload_n 0, 1), (9, .bipush (-2), 2), (11, .invokevirtual 75, 3), (14, .ireturn, 1), (15, .iconst (-1), 1), (16, .istore_n 2, 1), (17, .aload_n 0, 1), (18, .invokevirtual 153, 3), (21, .iconst 0, 1), (22, .istore_n 3, 1), (23, .iload_n 3, 1), (24, .bipush 10, 2), (26, .if_icmp .ge 35, 3), (29, .aload_n 0, 1), (30, .getfield 27, 3), (33, .iconst 5, 1), (34, .iload_n 1, 1), (35, .iadd, 1), (36, .iload_n 3, 1), (37, .iastore, 1), (38, .aload_n 0, 1), (39, .getfield 27, 3), (42, .iload_n 1, 1), (43, .invokestatic 121, 3), (46, .ifCond .eq 7, 3), (49, .iload_n 3, 1), (50, .goto 4, 3), (53, .iload_n 2, 1), (54, .istore_n 2, 1), (55, .iinc 3 1, 3), (58, .goto (-35), 3), (61, .iload_n 2, 1), (62, .ireturn, 1)] : List (Nat × Instr × Nat)).all fun q => decide (decode cX9_pen q.1 = .ok (q.2.1, q.2.2))) = true := by decide +kernel
theorem dX9_pen_0 : decode cX9_pen 0 = .ok (.aload_n 0, 1) := of_decide_eq_true (List.all_eq_true.mp dA_X9_pen_0 (0, .aload_n 0, 1) (List.mem_of_getElem? (i := 0) rfl))
theorem dX9_pen_1 : decode cX9_pen 1 = .ok (.iload_n 1, 1) := of_decide_eq_true (List.all_eq_true.mp dA_X9_pen_0 (1, .iload_n 1, 1) (List.mem_of_getElem? (i := 1) rfl))
theorem dX9_pen_2 : decode cX9_pen 2 = .ok (.invokevirtual 129, 3) := of_decide_eq_true (List.all_eq_true.mp dA_X9_pen_0 (2, .invokevirtual 129, 3) (List.mem_of_getElem? (i := 2) rfl))
theorem dX9_pen_5 : decode cX9_pen 5 = .ok (.ifCond .ne 10, 3) := of_decide_eq_true (List.all_eq_true.mp dA_X9_pen_0 (5, .ifCond .ne 10, 3) (List.mem_of_getElem? (i := 3) rfl))
theorem dX9_pen_8 : decode cX9_pen 8 = .ok (.aload_n 0, 1) := of_decide_eq_true (List.all_eq_true.mp dA_X9_pen_0 (8, .aload_n 0, 1) (List.mem_of_getElem? (i := 4) rfl))
theorem dX9_pen_9 : decode cX9_pen 9 = .ok (.bipush (-2), 2) := of_decide_eq_true (List.all_eq_true.mp dA_X9_pen_0 (9, .bipush (-2), 2) (List.mem_of_getElem? (i := 5) rfl))
theorem dX9_pen_11 : decode cX9_pen 11 = .ok (.invokevirtual 75, 3) := of_decide_eq_true (List.all_eq_true.mp dA_X9_pen_0 (11, .invokevirtual 75, 3) (List.mem_of_getElem? (i := 6) rfl))
theorem dX9_pen_14 : decode cX9_pen 14 = .ok (.ireturn, 1) := of_decide_eq_true (List.all_eq_true.mp dA_X9_pen_0 (14, .ireturn, 1) (List.mem_of_getElem? (i := 7) rfl))
theorem dX9_pen_15 : decode cX9_pen 15 = .ok (.iconst (-1), 1) := of_decide_eq_true (List.all_eq_true.mp dA_X9_pen_0 (15, .iconst (-1), 1) (List.mem_of_getElem? (i := 8) rfl))
theorem dX9_pen_16 : decode cX9_pen 16 = .ok (.istore_n 2, 1) := of_decide_eq_true (List.all_eq_true.mp dA_X9_pen_0 (16, .istore_n 2, 1) (List.mem_of_getElem? (i := 9) rfl))
theorem dX9_pen_17 : decode cX9_pen 17 = .ok (.aload_n 0, 1) := of_decide_eq_true (List.all_eq_true.mp dA_X9_pen_0 (17, .aload_n 0, 1) (List.mem_of_getElem? (i := 10) rfl))
theorem dX9_pen_18 : decode cX9_pen 18 = .ok (.invokevirtual 153, 3) := of_decide_eq_true (List.all_eq_true.mp dA_X9_pen_0 (18, .invokevirtual 153, 3) (List.mem_of_getElem? (i := 11) rfl))
theorem dX9_pen_21 : decode cX9_pen 21 = .ok (.iconst 0, 1) := of_decide_eq_true (List.all_eq_true.mp dA_X9_pen_0 (21, .iconst 0, 1) (List.mem_of_getElem? (i := 12) rfl))
theorem dX9_pen_22 : decode cX9_pen 22 = .ok (.istore_n 3, 1) := of_decide_eq_true (List.all_eq_true.mp dA_X9_pen_0 (22, .istore_n 3, 1) (List.mem_of_getElem? (i := 13) rfl))
theorem dX9_pen_23 : decode cX9_pen 23 = .ok (.iload_n 3, 1) := of_decide_eq_true (List.all_eq_true.mp dA_X9_pen_0 (23, .iload_n 3, 1) (List.mem_of_getElem? (i := 14) rfl))
theorem dX9_pen_24 : decode cX9_pen 24 = .ok (.bipush 10, 2) := of_decide_eq_true (List.all_eq_true.mp dA_X9_pen_0 (24, .bipush 10, 2) (List.mem_of_getElem? (i := 15) rfl))
theorem dX9_pen_26 : decode cX9_pen 26 = .ok (.if_icmp .ge 35, 3) := of_decide_eq_true (List.all_eq_true.mp dA_X9_pen_0 (26, .if_icmp .ge 35, 3) (List.mem_of_getElem? (i := 16) rfl))
theorem dX9_pen_29 : decode cX9_pen 29 = .ok (.aload_n 0, 1) := of_decide_eq_true (List.all_eq_true.mp dA_X9_pen_0 (29, .aload_n 0, 1) (List.mem_of_getElem? (i := 17) rfl))
theorem dX9_pen_30 : decode cX9_pen 30 = .ok (.getfield 27, 3) := of_decide_eq_true (List.all_eq_true.mp dA_X9_pen_0 (30, .getfield 27, 3) (List.mem_of_getElem? (i := 18) rfl))
theorem dX9_pen_33 : decode cX9_pen 33 = .ok (.iconst 5, 1) := of_decide_eq_true (List.all_eq_true.mp dA_X9_pen_0 (33, .iconst 5, 1) (List.mem_of_getElem? (i := 19) rfl))
theorem dX9_pen_34 : decode cX9_pen 34 = .ok (.iload_n 1, 1) := of_decide_eq_true (List.all_eq_true.mp dA_X9_pen_0 (34, .iload_n 1, 1) (List.mem_of_getElem? (i := 20) rfl))
theorem dX9_pen_35 : decode cX9_pen 35 = .ok (.iadd, 1) := of_decide_eq_true (List.all_eq_true.mp dA_X9_pen_0 (35, .iadd, 1) (List.mem_of_getElem? (i := 21) rfl))
theorem dX9_pen_36 : decode cX9_pen 36 = .ok (.iload_n 3, 1) := of_decide_eq_true (List.all_eq_true.mp dA_X9_pen_0 (36, .iload_n 3, 1) (List.mem_of_getElem? (i := 22) rfl))
theorem dX9_pen_37 : decode cX9_pen 37 = .ok (.iastore, 1) := of_decide_eq_true (List.all_eq_true.mp dA_X9_pen_0 (37, .iastore, 1) (List.mem_of_getElem? (i := 23) rfl))
theorem dX9_pen_38 : decode cX9_pen 38 = .ok (.aload_n 0, 1) := of_decide_eq_true (List.all_eq_true.mp dA_X9_pen_0 (38, .aload_n 0, 1) (List.mem_of_getElem? (i := 24) rfl))
theorem dX9_pen_39 : decode cX9_pen 39 = .ok (.getfield 27, 3) := of_decide_eq_true (List.all_eq_true.mp dA_X9_pen_0 (39, .getfield 27, 3) (List.mem_of_getElem? (i := 25) rfl))
theorem dX9_pen_42 : decode cX9_pen 42 = .ok (.iload_n 1, 1) := of_decide_eq_true (List.all_eq_true.mp dA_X9_pen_0 (42, .iload_n 1, 1) (List.mem_of_getElem? (i := 26) rfl))
theorem dX9_pen_43 : decode cX9_pen 43 = .ok (.invokestatic 121, 3) := of_decide_eq_true (List.all_eq_true.mp dA_X9_pen_0 (43, .invokestatic 121, 3) (List.mem_of_getElem? (i := 27) rfl))
theorem dX9_pen_46 : decode cX9_pen 46 = .ok (.ifCond .eq 7, 3) := of_decide_eq_true (List.all_eq_true.mp dA_X9_pen_0 (46, .ifCond .eq 7, 3) (List.mem_of_getElem? (i := 28) rfl))
theorem dX9_pen_49 : decode cX9_pen 49 = .ok (.iload_n 3, 1) := of_decide_eq_true (List.all_eq_true.mp dA_X9_pen_0 (49, .iload_n 3, 1) (List.mem_of_getElem? (i := 29) rfl))
theorem dX9_pen_50 : decode cX9_pen 50 = .ok (.goto 4, 3) := of_decide_eq_true (List.all_eq_true.mp dA_X9_pen_0 (50, .goto 4, 3) (List.mem_of_getElem? (i := 30) rfl))
theorem dX9_pen_53 : decode cX9_pen 53 = .ok (.iload_n 2, 1) := of_decide_eq_true (List.all_eq_true.mp dA_X9_pen_0 (53, .iload_n 2, 1) (List.mem_of_getElem? (i := 31) rfl))
theorem dX9_pen_54 : decode cX9_pen 54 = .ok (.istore_n 2, 1) := of_decide_eq_true (List.all_eq_true.mp dA_X9_pen_0 (54, .istore_n 2, 1) (List.mem_of_getElem? (i := 32) rfl))
theorem dX9_pen_55 : decode cX9_pen 55 = .ok (.iinc 3 1, 3) := of_decide_eq_true (List.all_eq_true.mp dA_X9_pen_0 (55, .iinc 3 1, 3) (List.mem_of_getElem? (i := 33) rfl))
theorem dX9_pen_58 : decode cX9_pen 58 = .ok (.goto (-35), 3) := of_decide_eq_true (List.all_eq_true.mp dA_X9_pen_0 (58, .goto (-35), 3) (List.mem_of_getElem? (i := 34) rfl))
theorem dX9_pen_61 : decode cX9_pen 61 = .ok (.iload_n 2, 1) := of_decide_eq_true (List.all_eq_true.mp dA_X9_pen_0 (61, .iload_n 2, 1) (List.mem_of_getElem? (i := 35) rfl))
theorem dX9_pen_62 : decode cX9_pen 62 = .ok (.ireturn, 1) := of_decide_eq_true (List.all_eq_true.mp dA_X9_pen_0 (62, .ireturn, 1) (List.mem_of_getElem? (i := 36) rfl))
set_option maxRecDepth 20000 in
theorem ggX9_layOuts_X9_many : GoodIn wsX9_layOuts wsX9_many := goodIn_r _ [7, 1, 11, 12, 13, 14, 15, 16, 17, 18, 19, 20, 21, 22, 23, 24, 25, 26, 27, 28, 29] (by decide +kernel) (by decide +kernel)
set_option maxRecDepth 20000 in
theorem gX9_layOuts_X9_many : GoodIn wsX9_layOuts (wsV RX9 55 RX9 yX9_many wsX9_many) := goodIn_app (goodIn_of _ (by decide +kernel)) ggX9_layOuts_X9_many
set_option maxRecDepth 20000 in
theorem ggX9_layOuts_X9_has : GoodIn wsX9_layOuts wsX9_has := goodIn_r _ [10] (by decide +kernel) (by decide +kernel)
set_option maxRecDepth 20000 in
theorem gX9_layOuts_X9_has : GoodIn wsX9_layOuts (va_wsS RX9 106 yX9_has wsX9_has) := goodIn_app (goodIn_of _ (by decide +kernel)) ggX9_layOuts_X9_has
set_option maxRecDepth 20000 in
theorem dA_X9_layOuts_0 : (([(0, .iconst 0, 1), (1, .istore_n 1, 1), (2, .iconst 0, 1), (3, .istore_n 2, 1), (4, .iload_n 2, 1), (5, .aload_n 0, 1), (6, .invokevirtual 55, 3), (9, .if_icmp .ge 33, 3), (12, .aload_n 0, 1), (13, .getfield 7, 3), (16, .bipush 19, 2), (18, .iaload, 1), (19, .iload_n 2, 1), (20, .invokestatic 106, 3), (23, .ifCond .ne 13, 3), (26, .aload_n 0, 1), (27, .getfield 30, 3), (30, .iload_n 1, 1), (31, .iload_n 2, 1), (32, .iastore, 1), (33, .iinc 1 1, 3), (36, .iinc 2 1, 3), (39, .goto (-35), 3), (42, .iload_n 1, 1), (43, .ireturn, 1)] : List (Nat × Instr × Nat)).all fun q => decide (decode cX9_layOuts q.1 = .ok (q.2.1, q.2.2))) = true := by decide +kernel
theorem dX9_layOuts_0 : decode cX9_layOuts 0 = .ok (.iconst 0, 1) := of_decide_eq_true (List.all_eq_true.mp dA_X9_layOuts_0 (0, .iconst 0, 1) (List.mem_of_getElem? (i := 0) rfl))
theorem dX9_layOuts_1 : decode cX9_layOuts 1 = .ok (.istore_n 1, 1) := of_decide_eq_true (List.all_eq_true.mp dA_X9_layOuts_0 (1, .istore_n 1, 1) (List.mem_of_getElem? (i := 1) rfl))
theorem dX9_layOuts_2 : decode cX9_layOuts 2 = .ok (.iconst 0, 1) := of_decide_eq_true (List.all_eq_true.mp dA_X9_layOuts_0 (2, .iconst 0, 1) (List.mem_of_getElem? (i := 2) rfl))
theorem dX9_layOuts_3 : decode cX9_layOuts 3 = .ok (.istore_n 2, 1) := of_decide_eq_true (List.all_eq_true.mp dA_X9_layOuts_0 (3, .istore_n 2, 1) (List.mem_of_getElem? (i := 3) rfl))
theorem dX9_layOuts_4 : decode cX9_layOuts 4 = .ok (.iload_n 2, 1) := of_decide_eq_true (List.all_eq_true.mp dA_X9_layOuts_0 (4, .iload_n 2, 1) (List.mem_of_getElem? (i := 4) rfl))
theorem dX9_layOuts_5 : decode cX9_layOuts 5 = .ok (.aload_n 0, 1) := of_decide_eq_true (List.all_eq_true.mp dA_X9_layOuts_0 (5, .aload_n 0, 1) (List.mem_of_getElem? (i := 5) rfl))
theorem dX9_layOuts_6 : decode cX9_layOuts 6 = .ok (.invokevirtual 55, 3) := of_decide_eq_true (List.all_eq_true.mp dA_X9_layOuts_0 (6, .invokevirtual 55, 3) (List.mem_of_getElem? (i := 6) rfl))
theorem dX9_layOuts_9 : decode cX9_layOuts 9 = .ok (.if_icmp .ge 33, 3) := of_decide_eq_true (List.all_eq_true.mp dA_X9_layOuts_0 (9, .if_icmp .ge 33, 3) (List.mem_of_getElem? (i := 7) rfl))
theorem dX9_layOuts_12 : decode cX9_layOuts 12 = .ok (.aload_n 0, 1) := of_decide_eq_true (List.all_eq_true.mp dA_X9_layOuts_0 (12, .aload_n 0, 1) (List.mem_of_getElem? (i := 8) rfl))
theorem dX9_layOuts_13 : decode cX9_layOuts 13 = .ok (.getfield 7, 3) := of_decide_eq_true (List.all_eq_true.mp dA_X9_layOuts_0 (13, .getfield 7, 3) (List.mem_of_getElem? (i := 9) rfl))
theorem dX9_layOuts_16 : decode cX9_layOuts 16 = .ok (.bipush 19, 2) := of_decide_eq_true (List.all_eq_true.mp dA_X9_layOuts_0 (16, .bipush 19, 2) (List.mem_of_getElem? (i := 10) rfl))
theorem dX9_layOuts_18 : decode cX9_layOuts 18 = .ok (.iaload, 1) := of_decide_eq_true (List.all_eq_true.mp dA_X9_layOuts_0 (18, .iaload, 1) (List.mem_of_getElem? (i := 11) rfl))
theorem dX9_layOuts_19 : decode cX9_layOuts 19 = .ok (.iload_n 2, 1) := of_decide_eq_true (List.all_eq_true.mp dA_X9_layOuts_0 (19, .iload_n 2, 1) (List.mem_of_getElem? (i := 12) rfl))
theorem dX9_layOuts_20 : decode cX9_layOuts 20 = .ok (.invokestatic 106, 3) := of_decide_eq_true (List.all_eq_true.mp dA_X9_layOuts_0 (20, .invokestatic 106, 3) (List.mem_of_getElem? (i := 13) rfl))
theorem dX9_layOuts_23 : decode cX9_layOuts 23 = .ok (.ifCond .ne 13, 3) := of_decide_eq_true (List.all_eq_true.mp dA_X9_layOuts_0 (23, .ifCond .ne 13, 3) (List.mem_of_getElem? (i := 14) rfl))
theorem dX9_layOuts_26 : decode cX9_layOuts 26 = .ok (.aload_n 0, 1) := of_decide_eq_true (List.all_eq_true.mp dA_X9_layOuts_0 (26, .aload_n 0, 1) (List.mem_of_getElem? (i := 15) rfl))
theorem dX9_layOuts_27 : decode cX9_layOuts 27 = .ok (.getfield 30, 3) := of_decide_eq_true (List.all_eq_true.mp dA_X9_layOuts_0 (27, .getfield 30, 3) (List.mem_of_getElem? (i := 16) rfl))
theorem dX9_layOuts_30 : decode cX9_layOuts 30 = .ok (.iload_n 1, 1) := of_decide_eq_true (List.all_eq_true.mp dA_X9_layOuts_0 (30, .iload_n 1, 1) (List.mem_of_getElem? (i := 17) rfl))
theorem dX9_layOuts_31 : decode cX9_layOuts 31 = .ok (.iload_n 2, 1) := of_decide_eq_true (List.all_eq_true.mp dA_X9_layOuts_0 (31, .iload_n 2, 1) (List.mem_of_getElem? (i := 18) rfl))
theorem dX9_layOuts_32 : decode cX9_layOuts 32 = .ok (.iastore, 1) := of_decide_eq_true (List.all_eq_true.mp dA_X9_layOuts_0 (32, .iastore, 1) (List.mem_of_getElem? (i := 19) rfl))
theorem dX9_layOuts_33 : decode cX9_layOuts 33 = .ok (.iinc 1 1, 3) := of_decide_eq_true (List.all_eq_true.mp dA_X9_layOuts_0 (33, .iinc 1 1, 3) (List.mem_of_getElem? (i := 20) rfl))
theorem dX9_layOuts_36 : decode cX9_layOuts 36 = .ok (.iinc 2 1, 3) := of_decide_eq_true (List.all_eq_true.mp dA_X9_layOuts_0 (36, .iinc 2 1, 3) (List.mem_of_getElem? (i := 21) rfl))
theorem dX9_layOuts_39 : decode cX9_layOuts 39 = .ok (.goto (-35), 3) := of_decide_eq_true (List.all_eq_true.mp dA_X9_layOuts_0 (39, .goto (-35), 3) (List.mem_of_getElem? (i := 22) rfl))
theorem dX9_layOuts_42 : decode cX9_layOuts 42 = .ok (.iload_n 1, 1) := of_decide_eq_true (List.all_eq_true.mp dA_X9_layOuts_0 (42, .iload_n 1, 1) (List.mem_of_getElem? (i := 23) rfl))
theorem dX9_layOuts_43 : decode cX9_layOuts 43 = .ok (.ireturn, 1) := of_decide_eq_true (List.all_eq_true.mp dA_X9_layOuts_0 (43, .ireturn, 1) (List.mem_of_getElem? (i := 24) rfl))
set_option maxRecDepth 20000 in
theorem ggX9_layOrder_X9_has : GoodIn wsX9_layOrder wsX9_has := goodIn_r _ [6] (by decide +kernel) (by decide +kernel)
set_option maxRecDepth 20000 in
theorem gX9_layOrder_X9_has : GoodIn wsX9_layOrder (va_wsS RX9 106 yX9_has wsX9_has) := goodIn_app (goodIn_of _ (by decide +kernel)) ggX9_layOrder_X9_has
set_option maxRecDepth 20000 in
theorem dA_X9_layOrder_0 : (([(0, .iconst 1, 1), (1, .iload_n 2, 1), (2, .ishl, 1), (3, .iconst 1, 1), (4, .isub, 1), (5, .istore_n 3, 1), (6, .iload_n 1, 1), (7, .istore 4, 2), (9, .iconst 1, 1), (10, .istore 5, 2), (12, .iconst 2, 1), (13, .istore 6, 2), (15, .iload 6, 2), (17, .iload_n 2, 1), (18, .if_icmp .ge 16, 3), (21, .iload 5, 2), (23, .iload 6, 2), (25, .imul, 1), (26, .istore 5, 2), (28, .iinc 6 1, 3), (31, .goto (-16), 3), (34, .iconst 0, 1), (35, .istore 6, 2), (37, .iload 6, 2), (39, .iload_n 2, 1), (40, .if_icmp .ge 111, 3), (43, .iload 4, 2), (45, .iload 5, 2), (47, .idiv, 1), (48, .istore 7, 2), (50, .iconst 0, 1), (51, .istore 8, 2), (53, .iload 4, 2), (55, .iload 5, 2), (57, .irem, 1), (58, .istore 4, 2), (60, .iload 6, 2), (62, .iload_n 2, 1), (63, .iconst 2, 1), (64, .isub, 1)] : List (Nat × Instr × Nat)).all fun q => decide (decode cX9_layOrder q.1 = .ok (q.2.1, q.2.2))) = true := by decide +kernel
theorem dX9_layOrder_0 : decode cX9_layOrder 0 = .ok (.iconst 1, 1) := of_decide_eq_true (List.all_eq_true.mp dA_X9_layOrder_0 (0, .iconst 1, 1) (List.mem_of_getElem? (i := 0) rfl))
theorem dX9_layOrder_1 : decode cX9_layOrder 1 = .ok (.iload_n 2, 1) := of_decide_eq_true (List.all_eq_true.mp dA_X9_layOrder_0 (1, .iload_n 2, 1) (List.mem_of_getElem? (i := 1) rfl))
theorem dX9_layOrder_2 : decode cX9_layOrder 2 = .ok (.ishl, 1) := of_decide_eq_true (List.all_eq_true.mp dA_X9_layOrder_0 (2, .ishl, 1) (List.mem_of_getElem? (i := 2) rfl))
theorem dX9_layOrder_3 : decode cX9_layOrder 3 = .ok (.iconst 1, 1) := of_decide_eq_true (List.all_eq_true.mp dA_X9_layOrder_0 (3, .iconst 1, 1) (List.mem_of_getElem? (i := 3) rfl))
theorem dX9_layOrder_4 : decode cX9_layOrder 4 = .ok (.isub, 1) := of_decide_eq_true (List.all_eq_true.mp dA_X9_layOrder_0 (4, .isub, 1) (List.mem_of_getElem? (i := 4) rfl))
theorem dX9_layOrder_5 : decode cX9_layOrder 5 = .ok (.istore_n 3, 1) := of_decide_eq_true (List.all_eq_true.mp dA_X9_layOrder_0 (5, .istore_n 3, 1) (List.mem_of_getElem? (i := 5) rfl))
theorem dX9_layOrder_6 : decode cX9_layOrder 6 = .ok (.iload_n 1, 1) := of_decide_eq_true (List.all_eq_true.mp dA_X9_layOrder_0 (6, .iload_n 1, 1) (List.mem_of_getElem? (i := 6) rfl))
theorem dX9_layOrder_7 : decode cX9_layOrder 7 = .ok (.istore 4, 2) := of_decide_eq_true (List.all_eq_true.mp dA_X9_layOrder_0 (7, .istore 4, 2) (List.mem_of_getElem? (i := 7) rfl))
theorem dX9_layOrder_9 : decode cX9_layOrder 9 = .ok (.iconst 1, 1) := of_decide_eq_true (List.all_eq_true.mp dA_X9_layOrder_0 (9, .iconst 1, 1) (List.mem_of_getElem? (i := 8) rfl))
theorem dX9_layOrder_10 : decode cX9_layOrder 10 = .ok (.istore 5, 2) := of_decide_eq_true (List.all_eq_true.mp dA_X9_layOrder_0 (10, .istore 5, 2) (List.mem_of_getElem? (i := 9) rfl))
theorem dX9_layOrder_12 : decode cX9_layOrder 12 = .ok (.iconst 2, 1) := of_decide_eq_true (List.all_eq_true.mp dA_X9_layOrder_0 (12, .iconst 2, 1) (List.mem_of_getElem? (i := 10) rfl))
theorem dX9_layOrder_13 : decode cX9_layOrder 13 = .ok (.istore 6, 2) := of_decide_eq_true (List.all_eq_true.mp dA_X9_layOrder_0 (13, .istore 6, 2) (List.mem_of_getElem? (i := 11) rfl))
theorem dX9_layOrder_15 : decode cX9_layOrder 15 = .ok (.iload 6, 2) := of_decide_eq_true (List.all_eq_true.mp dA_X9_layOrder_0 (15, .iload 6, 2) (List.mem_of_getElem? (i := 12) rfl))
theorem dX9_layOrder_17 : decode cX9_layOrder 17 = .ok (.iload_n 2, 1) := of_decide_eq_true (List.all_eq_true.mp dA_X9_layOrder_0 (17, .iload_n 2, 1) (List.mem_of_getElem? (i := 13) rfl))
theorem dX9_layOrder_18 : decode cX9_layOrder 18 = .ok (.if_icmp .ge 16, 3) := of_decide_eq_true (List.all_eq_true.mp dA_X9_layOrder_0 (18, .if_icmp .ge 16, 3) (List.mem_of_getElem? (i := 14) rfl))
theorem dX9_layOrder_21 : decode cX9_layOrder 21 = .ok (.iload 5, 2) := of_decide_eq_true (List.all_eq_true.mp dA_X9_layOrder_0 (21, .iload 5, 2) (List.mem_of_getElem? (i := 15) rfl))
theorem dX9_layOrder_23 : decode cX9_layOrder 23 = .ok (.iload 6, 2) := of_decide_eq_true (List.all_eq_true.mp dA_X9_layOrder_0 (23, .iload 6, 2) (List.mem_of_getElem? (i := 16) rfl))
theorem dX9_layOrder_25 : decode cX9_layOrder 25 = .ok (.imul, 1) := of_decide_eq_true (List.all_eq_true.mp dA_X9_layOrder_0 (25, .imul, 1) (List.mem_of_getElem? (i := 17) rfl))
theorem dX9_layOrder_26 : decode cX9_layOrder 26 = .ok (.istore 5, 2) := of_decide_eq_true (List.all_eq_true.mp dA_X9_layOrder_0 (26, .istore 5, 2) (List.mem_of_getElem? (i := 18) rfl))
theorem dX9_layOrder_28 : decode cX9_layOrder 28 = .ok (.iinc 6 1, 3) := of_decide_eq_true (List.all_eq_true.mp dA_X9_layOrder_0 (28, .iinc 6 1, 3) (List.mem_of_getElem? (i := 19) rfl))
theorem dX9_layOrder_31 : decode cX9_layOrder 31 = .ok (.goto (-16), 3) := of_decide_eq_true (List.all_eq_true.mp dA_X9_layOrder_0 (31, .goto (-16), 3) (List.mem_of_getElem? (i := 20) rfl))
theorem dX9_layOrder_34 : decode cX9_layOrder 34 = .ok (.iconst 0, 1) := of_decide_eq_true (List.all_eq_true.mp dA_X9_layOrder_0 (34, .iconst 0, 1) (List.mem_of_getElem? (i := 21) rfl))
theorem dX9_layOrder_35 : decode cX9_layOrder 35 = .ok (.istore 6, 2) := of_decide_eq_true (List.all_eq_true.mp dA_X9_layOrder_0 (35, .istore 6, 2) (List.mem_of_getElem? (i := 22) rfl))
theorem dX9_layOrder_37 : decode cX9_layOrder 37 = .ok (.iload 6, 2) := of_decide_eq_true (List.all_eq_true.mp dA_X9_layOrder_0 (37, .iload 6, 2) (List.mem_of_getElem? (i := 23) rfl))
theorem dX9_layOrder_39 : decode cX9_layOrder 39 = .ok (.iload_n 2, 1) := of_decide_eq_true (List.all_eq_true.mp dA_X9_layOrder_0 (39, .iload_n 2, 1) (List.mem_of_getElem? (i := 24) rfl))
theorem dX9_layOrder_40 : decode cX9_layOrder 40 = .ok (.if_icmp .ge 111, 3) := of_decide_eq_true (List.all_eq_true.mp dA_X9_layOrder_0 (40, .if_icmp .ge 111, 3) (List.mem_of_getElem? (i := 25) rfl))
theorem dX9_layOrder_43 : decode cX9_layOrder 43 = .ok (.iload 4, 2) := of_decide_eq_true (List.all_eq_true.mp dA_X9_layOrder_0 (43, .iload 4, 2) (List.mem_of_getElem? (i := 26) rfl))
theorem dX9_layOrder_45 : decode cX9_layOrder 45 = .ok (.iload 5, 2) := of_decide_eq_true (List.all_eq_true.mp dA_X9_layOrder_0 (45, .iload 5, 2) (List.mem_of_getElem? (i := 27) rfl))
theorem dX9_layOrder_47 : decode cX9_layOrder 47 = .ok (.idiv, 1) := of_decide_eq_true (List.all_eq_true.mp dA_X9_layOrder_0 (47, .idiv, 1) (List.mem_of_getElem? (i := 28) rfl))
theorem dX9_layOrder_48 : decode cX9_layOrder 48 = .ok (.istore 7, 2) := of_decide_eq_true (List.all_eq_true.mp dA_X9_layOrder_0 (48, .istore 7, 2) (List.mem_of_getElem? (i := 29) rfl))
theorem dX9_layOrder_50 : decode cX9_layOrder 50 = .ok (.iconst 0, 1) := of_decide_eq_true (List.all_eq_true.mp dA_X9_layOrder_0 (50, .iconst 0, 1) (List.mem_of_getElem? (i := 30) rfl))
theorem dX9_layOrder_51 : decode cX9_layOrder 51 = .ok (.istore 8, 2) := of_decide_eq_true (List.all_eq_true.mp dA_X9_layOrder_0 (51, .istore 8, 2) (List.mem_of_getElem? (i := 31) rfl))
theorem dX9_layOrder_53 : decode cX9_layOrder 53 = .ok (.iload 4, 2) := of_decide_eq_true (List.all_eq_true.mp dA_X9_layOrder_0 (53, .iload 4, 2) (List.mem_of_getElem? (i := 32) rfl))
theorem dX9_layOrder_55 : decode cX9_layOrder 55 = .ok (.iload 5, 2) := of_decide_eq_true (List.all_eq_true.mp dA_X9_layOrder_0 (55, .iload 5, 2) (List.mem_of_getElem? (i := 33) rfl))
theorem dX9_layOrder_57 : decode cX9_layOrder 57 = .ok (.irem, 1) := of_decide_eq_true (List.all_eq_true.mp dA_X9_layOrder_0 (57, .irem, 1) (List.mem_of_getElem? (i := 34) rfl))
theorem dX9_layOrder_58 : decode cX9_layOrder 58 = .ok (.istore 4, 2) := of_decide_eq_true (List.all_eq_true.mp dA_X9_layOrder_0 (58, .istore 4, 2) (List.mem_of_getElem? (i := 35) rfl))
theorem dX9_layOrder_60 : decode cX9_layOrder 60 = .ok (.iload 6, 2) := of_decide_eq_true (List.all_eq_true.mp dA_X9_layOrder_0 (60, .iload 6, 2) (List.mem_of_getElem? (i := 36) rfl))
theorem dX9_layOrder_62 : decode cX9_layOrder 62 = .ok (.iload_n 2, 1) := of_decide_eq_true (List.all_eq_true.mp dA_X9_layOrder_0 (62, .iload_n 2, 1) (List.mem_of_getElem? (i := 37) rfl))
theorem dX9_layOrder_63 : decode cX9_layOrder 63 = .ok (.iconst 2, 1) := of_decide_eq_true (List.all_eq_true.mp dA_X9_layOrder_0 (63, .iconst 2, 1) (List.mem_of_getElem? (i := 38) rfl))
theorem dX9_layOrder_64 : decode cX9_layOrder 64 = .ok (.isub, 1) := of_decide_eq_true (List.all_eq_true.mp dA_X9_layOrder_0 (64, .isub, 1) (List.mem_of_getElem? (i := 39) rfl))
set_option maxRecDepth 20000 in
theorem dA_X9_layOrder_65 : (([(65, .if_icmp .ge 15, 3), (68, .iload 5, 2), (70, .iload_n 2, 1), (71, .iconst 1, 1), (72, .isub, 1), (73, .iload 6, 2), (75, .isub, 1), (76, .idiv, 1), (77, .goto 4, 3), (80, .iconst 1, 1), (81, .istore 5, 2), (83, .iload_n 3, 1), (84, .iload 8, 2), (86, .invokestatic 106, 3), (89, .ifCond .eq 8, 3), (92, .iload 7, 2), (94, .ifCond .le 28, 3), (97, .iload 7, 2), (99, .iload_n 3, 1), (100, .iload 8, 2), (102, .invokestatic 106, 3), (105, .ifCond .eq 7, 3), (108, .iconst 1, 1), (109, .goto 4, 3), (112, .iconst 0, 1), (113, .isub, 1), (114, .istore 7, 2), (116, .iinc 8 1, 3), (119, .goto (-36), 3), (122, .aload_n 0, 1), (123, .getfield 33, 3), (126, .iload 6, 2), (128, .aload_n 0, 1), (129, .getfield 30, 3), (132, .iload 8, 2), (134, .iaload, 1), (135, .iastore, 1), (136, .iload_n 3, 1), (137, .iconst 1, 1), (138, .iload 8, 2)] : List (Nat × Instr × Nat)).all fun q => decide (decode cX9_layOrder q.1 = .ok (q.2.1, q.2.2))) = true := by decide +kernel
theorem dX9_layOrder_65 : decode cX9_layOrder 65 = .ok (.if_icmp .ge 15, 3) := of_decide_eq_true (List.all_eq_true.mp dA_X9_layOrder_65 (65, .if_icmp .ge 15, 3) (List.mem_of_getElem? (i := 0) rfl))
theorem dX9_layOrder_68 : decode cX9_layOrder 68 = .ok (.iload 5, 2) := of_decide_eq_true (List.all_eq_true.mp dA_X9_layOrder_65 (68, .iload 5, 2) (List.mem_of_getElem? (i := 1) rfl))
theorem dX9_layOrder_70 : decode cX9_layOrder 70 = .ok (.iload_n 2, 1) := of_decide_eq_true (List.all_eq_true.mp dA_X9_layOrder_65 (70, .iload_n 2, 1) (List.mem_of_getElem? (i := 2) rfl))
theorem dX9_layOrder_71 : decode cX9_layOrder 71 = .ok (.iconst 1, 1) := of_decide_eq_true (List.all_eq_true.mp dA_X9_layOrder_65 (71, .iconst 1, 1) (List.mem_of_getElem? (i := 3) rfl))
theorem dX9_layOrder_72 : decode cX9_layOrder 72 = .ok (.isub, 1) := of_decide_eq_true (List.all_eq_true.mp dA_X9_layOrder_65 (72, .isub, 1) (List.mem_of_getElem? (i := 4) rfl))
theorem dX9_layOrder_73 : decode cX9_layOrder 73 = .ok (.iload 6, 2) := of_decide_eq_true (List.all_eq_true.mp dA_X9_layOrder_65 (73, .iload 6, 2) (List.mem_of_getElem? (i := 5) rfl))
theorem dX9_layOrder_75 : decode cX9_layOrder 75 = .ok (.isub, 1) := of_decide_eq_true (List.all_eq_true.mp dA_X9_layOrder_65 (75, .isub, 1) (List.mem_of_getElem? (i := 6) rfl))
theorem dX9_layOrder_76 : decode cX9_layOrder 76 = .ok (.idiv, 1) := of_decide_eq_true (List.all_eq_true.mp dA_X9_layOrder_65 (76, .idiv, 1) (List.mem_of_getElem? (i := 7) rfl))
theorem dX9_layOrder_77 : decode cX9_layOrder 77 = .ok (.goto 4, 3) := of_decide_eq_true (List.all_eq_true.mp dA_X9_layOrder_65 (77, .goto 4, 3) (List.mem_of_getElem? (i := 8) rfl))
theorem dX9_layOrder_80 : decode cX9_layOrder 80 = .ok (.iconst 1, 1) := of_decide_eq_true (List.all_eq_true.mp dA_X9_layOrder_65 (80, .iconst 1, 1) (List.mem_of_getElem? (i := 9) rfl))
theorem dX9_layOrder_81 : decode cX9_layOrder 81 = .ok (.istore 5, 2) := of_decide_eq_true (List.all_eq_true.mp dA_X9_layOrder_65 (81, .istore 5, 2) (List.mem_of_getElem? (i := 10) rfl))
theorem dX9_layOrder_83 : decode cX9_layOrder 83 = .ok (.iload_n 3, 1) := of_decide_eq_true (List.all_eq_true.mp dA_X9_layOrder_65 (83, .iload_n 3, 1) (List.mem_of_getElem? (i := 11) rfl))
theorem dX9_layOrder_84 : decode cX9_layOrder 84 = .ok (.iload 8, 2) := of_decide_eq_true (List.all_eq_true.mp dA_X9_layOrder_65 (84, .iload 8, 2) (List.mem_of_getElem? (i := 12) rfl))
theorem dX9_layOrder_86 : decode cX9_layOrder 86 = .ok (.invokestatic 106, 3) := of_decide_eq_true (List.all_eq_true.mp dA_X9_layOrder_65 (86, .invokestatic 106, 3) (List.mem_of_getElem? (i := 13) rfl))
theorem dX9_layOrder_89 : decode cX9_layOrder 89 = .ok (.ifCond .eq 8, 3) := of_decide_eq_true (List.all_eq_true.mp dA_X9_layOrder_65 (89, .ifCond .eq 8, 3) (List.mem_of_getElem? (i := 14) rfl))
theorem dX9_layOrder_92 : decode cX9_layOrder 92 = .ok (.iload 7, 2) := of_decide_eq_true (List.all_eq_true.mp dA_X9_layOrder_65 (92, .iload 7, 2) (List.mem_of_getElem? (i := 15) rfl))
theorem dX9_layOrder_94 : decode cX9_layOrder 94 = .ok (.ifCond .le 28, 3) := of_decide_eq_true (List.all_eq_true.mp dA_X9_layOrder_65 (94, .ifCond .le 28, 3) (List.mem_of_getElem? (i := 16) rfl))
theorem dX9_layOrder_97 : decode cX9_layOrder 97 = .ok (.iload 7, 2) := of_decide_eq_true (List.all_eq_true.mp dA_X9_layOrder_65 (97, .iload 7, 2) (List.mem_of_getElem? (i := 17) rfl))
theorem dX9_layOrder_99 : decode cX9_layOrder 99 = .ok (.iload_n 3, 1) := of_decide_eq_true (List.all_eq_true.mp dA_X9_layOrder_65 (99, .iload_n 3, 1) (List.mem_of_getElem? (i := 18) rfl))
theorem dX9_layOrder_100 : decode cX9_layOrder 100 = .ok (.iload 8, 2) := of_decide_eq_true (List.all_eq_true.mp dA_X9_layOrder_65 (100, .iload 8, 2) (List.mem_of_getElem? (i := 19) rfl))
theorem dX9_layOrder_102 : decode cX9_layOrder 102 = .ok (.invokestatic 106, 3) := of_decide_eq_true (List.all_eq_true.mp dA_X9_layOrder_65 (102, .invokestatic 106, 3) (List.mem_of_getElem? (i := 20) rfl))
theorem dX9_layOrder_105 : decode cX9_layOrder 105 = .ok (.ifCond .eq 7, 3) := of_decide_eq_true (List.all_eq_true.mp dA_X9_layOrder_65 (105, .ifCond .eq 7, 3) (List.mem_of_getElem? (i := 21) rfl))
theorem dX9_layOrder_108 : decode cX9_layOrder 108 = .ok (.iconst 1, 1) := of_decide_eq_true (List.all_eq_true.mp dA_X9_layOrder_65 (108, .iconst 1, 1) (List.mem_of_getElem? (i := 22) rfl))
theorem dX9_layOrder_109 : decode cX9_layOrder 109 = .ok (.goto 4, 3) := of_decide_eq_true (List.all_eq_true.mp dA_X9_layOrder_65 (109, .goto 4, 3) (List.mem_of_getElem? (i := 23) rfl))
theorem dX9_layOrder_112 : decode cX9_layOrder 112 = .ok (.iconst 0, 1) := of_decide_eq_true (List.all_eq_true.mp dA_X9_layOrder_65 (112, .iconst 0, 1) (List.mem_of_getElem? (i := 24) rfl))
theorem dX9_layOrder_113 : decode cX9_layOrder 113 = .ok (.isub, 1) := of_decide_eq_true (List.all_eq_true.mp dA_X9_layOrder_65 (113, .isub, 1) (List.mem_of_getElem? (i := 25) rfl))
theorem dX9_layOrder_114 : decode cX9_layOrder 114 = .ok (.istore 7, 2) := of_decide_eq_true (List.all_eq_true.mp dA_X9_layOrder_65 (114, .istore 7, 2) (List.mem_of_getElem? (i := 26) rfl))
theorem dX9_layOrder_116 : decode cX9_layOrder 116 = .ok (.iinc 8 1, 3) := of_decide_eq_true (List.all_eq_true.mp dA_X9_layOrder_65 (116, .iinc 8 1, 3) (List.mem_of_getElem? (i := 27) rfl))
theorem dX9_layOrder_119 : decode cX9_layOrder 119 = .ok (.goto (-36), 3) := of_decide_eq_true (List.all_eq_true.mp dA_X9_layOrder_65 (119, .goto (-36), 3) (List.mem_of_getElem? (i := 28) rfl))
theorem dX9_layOrder_122 : decode cX9_layOrder 122 = .ok (.aload_n 0, 1) := of_decide_eq_true (List.all_eq_true.mp dA_X9_layOrder_65 (122, .aload_n 0, 1) (List.mem_of_getElem? (i := 29) rfl))
theorem dX9_layOrder_123 : decode cX9_layOrder 123 = .ok (.getfield 33, 3) := of_decide_eq_true (List.all_eq_true.mp dA_X9_layOrder_65 (123, .getfield 33, 3) (List.mem_of_getElem? (i := 30) rfl))
theorem dX9_layOrder_126 : decode cX9_layOrder 126 = .ok (.iload 6, 2) := of_decide_eq_true (List.all_eq_true.mp dA_X9_layOrder_65 (126, .iload 6, 2) (List.mem_of_getElem? (i := 31) rfl))
theorem dX9_layOrder_128 : decode cX9_layOrder 128 = .ok (.aload_n 0, 1) := of_decide_eq_true (List.all_eq_true.mp dA_X9_layOrder_65 (128, .aload_n 0, 1) (List.mem_of_getElem? (i := 32) rfl))
theorem dX9_layOrder_129 : decode cX9_layOrder 129 = .ok (.getfield 30, 3) := of_decide_eq_true (List.all_eq_true.mp dA_X9_layOrder_65 (129, .getfield 30, 3) (List.mem_of_getElem? (i := 33) rfl))
theorem dX9_layOrder_132 : decode cX9_layOrder 132 = .ok (.iload 8, 2) := of_decide_eq_true (List.all_eq_true.mp dA_X9_layOrder_65 (132, .iload 8, 2) (List.mem_of_getElem? (i := 34) rfl))
theorem dX9_layOrder_134 : decode cX9_layOrder 134 = .ok (.iaload, 1) := of_decide_eq_true (List.all_eq_true.mp dA_X9_layOrder_65 (134, .iaload, 1) (List.mem_of_getElem? (i := 35) rfl))
theorem dX9_layOrder_135 : decode cX9_layOrder 135 = .ok (.iastore, 1) := of_decide_eq_true (List.all_eq_true.mp dA_X9_layOrder_65 (135, .iastore, 1) (List.mem_of_getElem? (i := 36) rfl))
theorem dX9_layOrder_136 : decode cX9_layOrder 136 = .ok (.iload_n 3, 1) := of_decide_eq_true (List.all_eq_true.mp dA_X9_layOrder_65 (136, .iload_n 3, 1) (List.mem_of_getElem? (i := 37) rfl))
theorem dX9_layOrder_137 : decode cX9_layOrder 137 = .ok (.iconst 1, 1) := of_decide_eq_true (List.all_eq_true.mp dA_X9_layOrder_65 (137, .iconst 1, 1) (List.mem_of_getElem? (i := 38) rfl))
theorem dX9_layOrder_138 : decode cX9_layOrder 138 = .ok (.iload 8, 2) := of_decide_eq_true (List.all_eq_true.mp dA_X9_layOrder_65 (138, .iload 8, 2) (List.mem_of_getElem? (i := 39) rfl))
set_option maxRecDepth 20000 in
theorem dA_X9_layOrder_140 : (([(140, .ishl, 1), (141, .iconst (-1), 1), (142, .ixor, 1), (143, .iand, 1), (144, .istore_n 3, 1), (145, .iinc 6 1, 3), (148, .goto (-111), 3), (151, .return_, 1)] : List (Nat × Instr × Nat)).all fun q => decide (decode cX9_layOrder q.1 = .ok (q.2.1, q.2.2))) = true := by decide +kernel
theorem dX9_layOrder_140 : decode cX9_layOrder 140 = .ok (.ishl, 1) := of_decide_eq_true (List.all_eq_true.mp dA_X9_layOrder_140 (140, .ishl, 1) (List.mem_of_getElem? (i := 0) rfl))
theorem dX9_layOrder_141 : decode cX9_layOrder 141 = .ok (.iconst (-1), 1) := of_decide_eq_true (List.all_eq_true.mp dA_X9_layOrder_140 (141, .iconst (-1), 1) (List.mem_of_getElem? (i := 1) rfl))
theorem dX9_layOrder_142 : decode cX9_layOrder 142 = .ok (.ixor, 1) := of_decide_eq_true (List.all_eq_true.mp dA_X9_layOrder_140 (142, .ixor, 1) (List.mem_of_getElem? (i := 2) rfl))
theorem dX9_layOrder_143 : decode cX9_layOrder 143 = .ok (.iand, 1) := of_decide_eq_true (List.all_eq_true.mp dA_X9_layOrder_140 (143, .iand, 1) (List.mem_of_getElem? (i := 3) rfl))
theorem dX9_layOrder_144 : decode cX9_layOrder 144 = .ok (.istore_n 3, 1) := of_decide_eq_true (List.all_eq_true.mp dA_X9_layOrder_140 (144, .istore_n 3, 1) (List.mem_of_getElem? (i := 4) rfl))
theorem dX9_layOrder_145 : decode cX9_layOrder 145 = .ok (.iinc 6 1, 3) := of_decide_eq_true (List.all_eq_true.mp dA_X9_layOrder_140 (145, .iinc 6 1, 3) (List.mem_of_getElem? (i := 5) rfl))
theorem dX9_layOrder_148 : decode cX9_layOrder 148 = .ok (.goto (-111), 3) := of_decide_eq_true (List.all_eq_true.mp dA_X9_layOrder_140 (148, .goto (-111), 3) (List.mem_of_getElem? (i := 6) rfl))
theorem dX9_layOrder_151 : decode cX9_layOrder 151 = .ok (.return_, 1) := of_decide_eq_true (List.all_eq_true.mp dA_X9_layOrder_140 (151, .return_, 1) (List.mem_of_getElem? (i := 7) rfl))
set_option maxRecDepth 20000 in
theorem ggX9_order_X9_bad : GoodIn wsX9_order wsX9_bad := goodIn_r _ [8, 9, 61, 62, 63, 64, 65, 66, 67, 68, 69, 70, 71, 72, 73, 74, 75, 76, 77, 78, 79] (by decide +kernel) (by decide +kernel)
set_option maxRecDepth 20000 in
theorem gX9_order_X9_bad : GoodIn wsX9_order (wsV RX9 75 RX9 yX9_bad wsX9_bad) := goodIn_app (goodIn_of _ (by decide +kernel)) ggX9_order_X9_bad
set_option maxRecDepth 20000 in
theorem ggX9_order_X9_layOuts : GoodIn wsX9_order wsX9_layOuts := goodIn_r _ [13, 14, 15, 16, 17, 18, 7, 19, 20, 21, 22, 61, 62, 63, 64, 65, 66, 67, 68, 69, 70, 71, 72, 73, 74, 75, 76, 77, 78, 79] (by decide +kernel) (by decide +kernel)
set_option maxRecDepth 20000 in
theorem gX9_order_X9_layOuts : GoodIn wsX9_order (wsV RX9 156 RX9 yX9_layOuts wsX9_layOuts) := goodIn_app (goodIn_of _ (by decide +kernel)) ggX9_order_X9_layOuts
set_option maxRecDepth 20000 in
theorem ggX9_order_X9_layOrder : GoodIn wsX9_order wsX9_layOrder := goodIn_r _ [26, 2, 15, 20, 21, 7, 22, 61, 62, 63, 64, 65, 66, 67, 68, 69, 70, 71, 72, 73, 74, 75, 76, 77, 78, 79] (by decide +kernel) (by decide +kernel)
set_option maxRecDepth 20000 in
theorem gX9_order_X9_layOrder : GoodIn wsX9_order (wsV RX9 159 RX9 yX9_layOrder wsX9_layOrder) := goodIn_app (goodIn_of _ (by decide +kernel)) ggX9_order_X9_layOrder
set_option maxRecDepth 20000 in
theorem ggX9_order_X9_layHand : GoodIn wsX9_order wsX9_layHand := goodIn_r _ [30, 1, 14, 61, 62, 63, 64, 65, 66, 67, 68, 69, 70, 71, 72, 73, 74, 75, 76, 77, 78, 79] (by decide +kernel) (by decide +kernel)
set_option maxRecDepth 20000 in
theorem gX9_order_X9_layHand : GoodIn wsX9_order (wsV RX9 153 RX9 yX9_layHand wsX9_layHand) := goodIn_app (goodIn_of _ (by decide +kernel)) ggX9_order_X9_layHand
set_option maxRecDepth 20000 in
theorem ggX9_order_X9_goCome : GoodIn wsX9_order wsX9_goCome := goodIn_r _ [33, 34, 35, 7, 36, 20, 21, 22, 37, 38, 39, 40, 41, 42, 43, 44, 45, 46, 47, 48, 49, 50, 51, 52, 53, 54, 55, 56, 57, 58, 59, 60] (by decide +kernel) (by decide +kernel)
set_option maxRecDepth 20000 in
theorem gX9_order_X9_goCome : GoodIn wsX9_order (va_wsS RX9 138 yX9_goCome wsX9_goCome) := goodIn_app (goodIn_of _ (by decide +kernel)) ggX9_order_X9_goCome
set_option maxRecDepth 20000 in
theorem dA_X9_order_0 : (([(0, .iload_n 1, 1), (1, .iconst (-1), 1), (2, .if_icmp .ge 10, 3), (5, .aload_n 0, 1), (6, .bipush (-10), 2), (8, .invokevirtual 75, 3), (11, .ireturn, 1), (12, .aload_n 0, 1), (13, .invokevirtual 156, 3), (16, .istore_n 2, 1), (17, .iconst 1, 1), (18, .istore_n 3, 1), (19, .iconst (-1), 1), (20, .istore 4, 2), (22, .iconst 2, 1), (23, .istore 5, 2), (25, .iload 5, 2), (27, .iload_n 2, 1), (28, .if_icmp .gt 14, 3), (31, .iload_n 3, 1), (32, .iload 5, 2), (34, .imul, 1), (35, .istore_n 3, 1), (36, .iinc 5 1, 3), (39, .goto (-14), 3), (42, .iconst 0, 1), (43, .istore 5, 2), (45, .iload 5, 2), (47, .iload_n 3, 1), (48, .if_icmp .ge 97, 3), (51, .iconst 0, 1), (52, .istore 6, 2), (54, .aload_n 0, 1), (55, .iload 5, 2), (57, .iload_n 2, 1), (58, .invokevirtual 159, 3), (61, .aload_n 0, 1), (62, .invokevirtual 153, 3), (65, .iconst 0, 1), (66, .istore 7, 2)] : List (Nat × Instr × Nat)).all fun q => decide (decode cX9_order q.1 = .ok (q.2.1, q.2.2))) = true := by decide +kernel
theorem dX9_order_0 : decode cX9_order 0 = .ok (.iload_n 1, 1) := of_decide_eq_true (List.all_eq_true.mp dA_X9_order_0 (0, .iload_n 1, 1) (List.mem_of_getElem? (i := 0) rfl))
theorem dX9_order_1 : decode cX9_order 1 = .ok (.iconst (-1), 1) := of_decide_eq_true (List.all_eq_true.mp dA_X9_order_0 (1, .iconst (-1), 1) (List.mem_of_getElem? (i := 1) rfl))
theorem dX9_order_2 : decode cX9_order 2 = .ok (.if_icmp .ge 10, 3) := of_decide_eq_true (List.all_eq_true.mp dA_X9_order_0 (2, .if_icmp .ge 10, 3) (List.mem_of_getElem? (i := 2) rfl))
theorem dX9_order_5 : decode cX9_order 5 = .ok (.aload_n 0, 1) := of_decide_eq_true (List.all_eq_true.mp dA_X9_order_0 (5, .aload_n 0, 1) (List.mem_of_getElem? (i := 3) rfl))
theorem dX9_order_6 : decode cX9_order 6 = .ok (.bipush (-10), 2) := of_decide_eq_true (List.all_eq_true.mp dA_X9_order_0 (6, .bipush (-10), 2) (List.mem_of_getElem? (i := 4) rfl))
theorem dX9_order_8 : decode cX9_order 8 = .ok (.invokevirtual 75, 3) := of_decide_eq_true (List.all_eq_true.mp dA_X9_order_0 (8, .invokevirtual 75, 3) (List.mem_of_getElem? (i := 5) rfl))
theorem dX9_order_11 : decode cX9_order 11 = .ok (.ireturn, 1) := of_decide_eq_true (List.all_eq_true.mp dA_X9_order_0 (11, .ireturn, 1) (List.mem_of_getElem? (i := 6) rfl))
theorem dX9_order_12 : decode cX9_order 12 = .ok (.aload_n 0, 1) := of_decide_eq_true (List.all_eq_true.mp dA_X9_order_0 (12, .aload_n 0, 1) (List.mem_of_getElem? (i := 7) rfl))
theorem dX9_order_13 : decode cX9_order 13 = .ok (.invokevirtual 156, 3) := of_decide_eq_true (List.all_eq_true.mp dA_X9_order_0 (13, .invokevirtual 156, 3) (List.mem_of_getElem? (i := 8) rfl))
theorem dX9_order_16 : decode cX9_order 16 = .ok (.istore_n 2, 1) := of_decide_eq_true (List.all_eq_true.mp dA_X9_order_0 (16, .istore_n 2, 1) (List.mem_of_getElem? (i := 9) rfl))
theorem dX9_order_17 : decode cX9_order 17 = .ok (.iconst 1, 1) := of_decide_eq_true (List.all_eq_true.mp dA_X9_order_0 (17, .iconst 1, 1) (List.mem_of_getElem? (i := 10) rfl))
theorem dX9_order_18 : decode cX9_order 18 = .ok (.istore_n 3, 1) := of_decide_eq_true (List.all_eq_true.mp dA_X9_order_0 (18, .istore_n 3, 1) (List.mem_of_getElem? (i := 11) rfl))
theorem dX9_order_19 : decode cX9_order 19 = .ok (.iconst (-1), 1) := of_decide_eq_true (List.all_eq_true.mp dA_X9_order_0 (19, .iconst (-1), 1) (List.mem_of_getElem? (i := 12) rfl))
theorem dX9_order_20 : decode cX9_order 20 = .ok (.istore 4, 2) := of_decide_eq_true (List.all_eq_true.mp dA_X9_order_0 (20, .istore 4, 2) (List.mem_of_getElem? (i := 13) rfl))
theorem dX9_order_22 : decode cX9_order 22 = .ok (.iconst 2, 1) := of_decide_eq_true (List.all_eq_true.mp dA_X9_order_0 (22, .iconst 2, 1) (List.mem_of_getElem? (i := 14) rfl))
theorem dX9_order_23 : decode cX9_order 23 = .ok (.istore 5, 2) := of_decide_eq_true (List.all_eq_true.mp dA_X9_order_0 (23, .istore 5, 2) (List.mem_of_getElem? (i := 15) rfl))
theorem dX9_order_25 : decode cX9_order 25 = .ok (.iload 5, 2) := of_decide_eq_true (List.all_eq_true.mp dA_X9_order_0 (25, .iload 5, 2) (List.mem_of_getElem? (i := 16) rfl))
theorem dX9_order_27 : decode cX9_order 27 = .ok (.iload_n 2, 1) := of_decide_eq_true (List.all_eq_true.mp dA_X9_order_0 (27, .iload_n 2, 1) (List.mem_of_getElem? (i := 17) rfl))
theorem dX9_order_28 : decode cX9_order 28 = .ok (.if_icmp .gt 14, 3) := of_decide_eq_true (List.all_eq_true.mp dA_X9_order_0 (28, .if_icmp .gt 14, 3) (List.mem_of_getElem? (i := 18) rfl))
theorem dX9_order_31 : decode cX9_order 31 = .ok (.iload_n 3, 1) := of_decide_eq_true (List.all_eq_true.mp dA_X9_order_0 (31, .iload_n 3, 1) (List.mem_of_getElem? (i := 19) rfl))
theorem dX9_order_32 : decode cX9_order 32 = .ok (.iload 5, 2) := of_decide_eq_true (List.all_eq_true.mp dA_X9_order_0 (32, .iload 5, 2) (List.mem_of_getElem? (i := 20) rfl))
theorem dX9_order_34 : decode cX9_order 34 = .ok (.imul, 1) := of_decide_eq_true (List.all_eq_true.mp dA_X9_order_0 (34, .imul, 1) (List.mem_of_getElem? (i := 21) rfl))
theorem dX9_order_35 : decode cX9_order 35 = .ok (.istore_n 3, 1) := of_decide_eq_true (List.all_eq_true.mp dA_X9_order_0 (35, .istore_n 3, 1) (List.mem_of_getElem? (i := 22) rfl))
theorem dX9_order_36 : decode cX9_order 36 = .ok (.iinc 5 1, 3) := of_decide_eq_true (List.all_eq_true.mp dA_X9_order_0 (36, .iinc 5 1, 3) (List.mem_of_getElem? (i := 23) rfl))
theorem dX9_order_39 : decode cX9_order 39 = .ok (.goto (-14), 3) := of_decide_eq_true (List.all_eq_true.mp dA_X9_order_0 (39, .goto (-14), 3) (List.mem_of_getElem? (i := 24) rfl))
theorem dX9_order_42 : decode cX9_order 42 = .ok (.iconst 0, 1) := of_decide_eq_true (List.all_eq_true.mp dA_X9_order_0 (42, .iconst 0, 1) (List.mem_of_getElem? (i := 25) rfl))
theorem dX9_order_43 : decode cX9_order 43 = .ok (.istore 5, 2) := of_decide_eq_true (List.all_eq_true.mp dA_X9_order_0 (43, .istore 5, 2) (List.mem_of_getElem? (i := 26) rfl))
theorem dX9_order_45 : decode cX9_order 45 = .ok (.iload 5, 2) := of_decide_eq_true (List.all_eq_true.mp dA_X9_order_0 (45, .iload 5, 2) (List.mem_of_getElem? (i := 27) rfl))
theorem dX9_order_47 : decode cX9_order 47 = .ok (.iload_n 3, 1) := of_decide_eq_true (List.all_eq_true.mp dA_X9_order_0 (47, .iload_n 3, 1) (List.mem_of_getElem? (i := 28) rfl))
theorem dX9_order_48 : decode cX9_order 48 = .ok (.if_icmp .ge 97, 3) := of_decide_eq_true (List.all_eq_true.mp dA_X9_order_0 (48, .if_icmp .ge 97, 3) (List.mem_of_getElem? (i := 29) rfl))
theorem dX9_order_51 : decode cX9_order 51 = .ok (.iconst 0, 1) := of_decide_eq_true (List.all_eq_true.mp dA_X9_order_0 (51, .iconst 0, 1) (List.mem_of_getElem? (i := 30) rfl))
theorem dX9_order_52 : decode cX9_order 52 = .ok (.istore 6, 2) := of_decide_eq_true (List.all_eq_true.mp dA_X9_order_0 (52, .istore 6, 2) (List.mem_of_getElem? (i := 31) rfl))
theorem dX9_order_54 : decode cX9_order 54 = .ok (.aload_n 0, 1) := of_decide_eq_true (List.all_eq_true.mp dA_X9_order_0 (54, .aload_n 0, 1) (List.mem_of_getElem? (i := 32) rfl))
theorem dX9_order_55 : decode cX9_order 55 = .ok (.iload 5, 2) := of_decide_eq_true (List.all_eq_true.mp dA_X9_order_0 (55, .iload 5, 2) (List.mem_of_getElem? (i := 33) rfl))
theorem dX9_order_57 : decode cX9_order 57 = .ok (.iload_n 2, 1) := of_decide_eq_true (List.all_eq_true.mp dA_X9_order_0 (57, .iload_n 2, 1) (List.mem_of_getElem? (i := 34) rfl))
theorem dX9_order_58 : decode cX9_order 58 = .ok (.invokevirtual 159, 3) := of_decide_eq_true (List.all_eq_true.mp dA_X9_order_0 (58, .invokevirtual 159, 3) (List.mem_of_getElem? (i := 35) rfl))
theorem dX9_order_61 : decode cX9_order 61 = .ok (.aload_n 0, 1) := of_decide_eq_true (List.all_eq_true.mp dA_X9_order_0 (61, .aload_n 0, 1) (List.mem_of_getElem? (i := 36) rfl))
theorem dX9_order_62 : decode cX9_order 62 = .ok (.invokevirtual 153, 3) := of_decide_eq_true (List.all_eq_true.mp dA_X9_order_0 (62, .invokevirtual 153, 3) (List.mem_of_getElem? (i := 37) rfl))
theorem dX9_order_65 : decode cX9_order 65 = .ok (.iconst 0, 1) := of_decide_eq_true (List.all_eq_true.mp dA_X9_order_0 (65, .iconst 0, 1) (List.mem_of_getElem? (i := 38) rfl))
theorem dX9_order_66 : decode cX9_order 66 = .ok (.istore 7, 2) := of_decide_eq_true (List.all_eq_true.mp dA_X9_order_0 (66, .istore 7, 2) (List.mem_of_getElem? (i := 39) rfl))
set_option maxRecDepth 20000 in
theorem dA_X9_order_68 : (([(68, .iload 7, 2), (70, .iload_n 2, 1), (71, .if_icmp .ge 28, 3), (74, .iload 6, 2), (76, .aload_n 0, 1), (77, .getfield 27, 3), (80, .aload_n 0, 1), (81, .getfield 33, 3), (84, .iload 7, 2), (86, .iaload, 1), (87, .invokestatic 138, 3), (90, .iadd, 1), (91, .istore 6, 2), (93, .iinc 7 1, 3), (96, .goto (-28), 3), (99, .iload 6, 2), (101, .iload 4, 2), (103, .if_icmp .le 36, 3), (106, .iload 6, 2), (108, .istore 4, 2), (110, .iconst 0, 1), (111, .istore 7, 2), (113, .iload 7, 2), (115, .iload_n 2, 1), (116, .if_icmp .ge 23, 3), (119, .aload_n 0, 1), (120, .getfield 36, 3), (123, .iload 7, 2), (125, .aload_n 0, 1), (126, .getfield 33, 3), (129, .iload 7, 2), (131, .iaload, 1), (132, .iastore, 1), (133, .iinc 7 1, 3), (136, .goto (-23), 3), (139, .iinc 5 1, 3), (142, .goto (-97), 3), (145, .iload_n 1, 1), (146, .iconst (-1), 1), (147, .if_icmp .ne 8, 3)] : List (Nat × Instr × Nat)).all fun q => decide (decode cX9_order q.1 = .ok (q.2.1, q.2.2))) = true := by decide +kernel
theorem dX9_order_68 : decode cX9_order 68 = .ok (.iload 7, 2) := of_decide_eq_true (List.all_eq_true.mp dA_X9_order_68 (68, .iload 7, 2) (List.mem_of_getElem? (i := 0) rfl))
theorem dX9_order_70 : decode cX9_order 70 = .ok (.iload_n 2, 1) := of_decide_eq_true (List.all_eq_true.mp dA_X9_order_68 (70, .iload_n 2, 1) (List.mem_of_getElem? (i := 1) rfl))
theorem dX9_order_71 : decode cX9_order 71 = .ok (.if_icmp .ge 28, 3) := of_decide_eq_true (List.all_eq_true.mp dA_X9_order_68 (71, .if_icmp .ge 28, 3) (List.mem_of_getElem? (i := 2) rfl))
theorem dX9_order_74 : decode cX9_order 74 = .ok (.iload 6, 2) := of_decide_eq_true (List.all_eq_true.mp dA_X9_order_68 (74, .iload 6, 2) (List.mem_of_getElem? (i := 3) rfl))
theorem dX9_order_76 : decode cX9_order 76 = .ok (.aload_n 0, 1) := of_decide_eq_true (List.all_eq_true.mp dA_X9_order_68 (76, .aload_n 0, 1) (List.mem_of_getElem? (i := 4) rfl))
theorem dX9_order_77 : decode cX9_order 77 = .ok (.getfield 27, 3) := of_decide_eq_true (List.all_eq_true.mp dA_X9_order_68 (77, .getfield 27, 3) (List.mem_of_getElem? (i := 5) rfl))
theorem dX9_order_80 : decode cX9_order 80 = .ok (.aload_n 0, 1) := of_decide_eq_true (List.all_eq_true.mp dA_X9_order_68 (80, .aload_n 0, 1) (List.mem_of_getElem? (i := 6) rfl))
theorem dX9_order_81 : decode cX9_order 81 = .ok (.getfield 33, 3) := of_decide_eq_true (List.all_eq_true.mp dA_X9_order_68 (81, .getfield 33, 3) (List.mem_of_getElem? (i := 7) rfl))
theorem dX9_order_84 : decode cX9_order 84 = .ok (.iload 7, 2) := of_decide_eq_true (List.all_eq_true.mp dA_X9_order_68 (84, .iload 7, 2) (List.mem_of_getElem? (i := 8) rfl))
theorem dX9_order_86 : decode cX9_order 86 = .ok (.iaload, 1) := of_decide_eq_true (List.all_eq_true.mp dA_X9_order_68 (86, .iaload, 1) (List.mem_of_getElem? (i := 9) rfl))
theorem dX9_order_87 : decode cX9_order 87 = .ok (.invokestatic 138, 3) := of_decide_eq_true (List.all_eq_true.mp dA_X9_order_68 (87, .invokestatic 138, 3) (List.mem_of_getElem? (i := 10) rfl))
theorem dX9_order_90 : decode cX9_order 90 = .ok (.iadd, 1) := of_decide_eq_true (List.all_eq_true.mp dA_X9_order_68 (90, .iadd, 1) (List.mem_of_getElem? (i := 11) rfl))
theorem dX9_order_91 : decode cX9_order 91 = .ok (.istore 6, 2) := of_decide_eq_true (List.all_eq_true.mp dA_X9_order_68 (91, .istore 6, 2) (List.mem_of_getElem? (i := 12) rfl))
theorem dX9_order_93 : decode cX9_order 93 = .ok (.iinc 7 1, 3) := of_decide_eq_true (List.all_eq_true.mp dA_X9_order_68 (93, .iinc 7 1, 3) (List.mem_of_getElem? (i := 13) rfl))
theorem dX9_order_96 : decode cX9_order 96 = .ok (.goto (-28), 3) := of_decide_eq_true (List.all_eq_true.mp dA_X9_order_68 (96, .goto (-28), 3) (List.mem_of_getElem? (i := 14) rfl))
theorem dX9_order_99 : decode cX9_order 99 = .ok (.iload 6, 2) := of_decide_eq_true (List.all_eq_true.mp dA_X9_order_68 (99, .iload 6, 2) (List.mem_of_getElem? (i := 15) rfl))
theorem dX9_order_101 : decode cX9_order 101 = .ok (.iload 4, 2) := of_decide_eq_true (List.all_eq_true.mp dA_X9_order_68 (101, .iload 4, 2) (List.mem_of_getElem? (i := 16) rfl))
theorem dX9_order_103 : decode cX9_order 103 = .ok (.if_icmp .le 36, 3) := of_decide_eq_true (List.all_eq_true.mp dA_X9_order_68 (103, .if_icmp .le 36, 3) (List.mem_of_getElem? (i := 17) rfl))
theorem dX9_order_106 : decode cX9_order 106 = .ok (.iload 6, 2) := of_decide_eq_true (List.all_eq_true.mp dA_X9_order_68 (106, .iload 6, 2) (List.mem_of_getElem? (i := 18) rfl))
theorem dX9_order_108 : decode cX9_order 108 = .ok (.istore 4, 2) := of_decide_eq_true (List.all_eq_true.mp dA_X9_order_68 (108, .istore 4, 2) (List.mem_of_getElem? (i := 19) rfl))
theorem dX9_order_110 : decode cX9_order 110 = .ok (.iconst 0, 1) := of_decide_eq_true (List.all_eq_true.mp dA_X9_order_68 (110, .iconst 0, 1) (List.mem_of_getElem? (i := 20) rfl))
theorem dX9_order_111 : decode cX9_order 111 = .ok (.istore 7, 2) := of_decide_eq_true (List.all_eq_true.mp dA_X9_order_68 (111, .istore 7, 2) (List.mem_of_getElem? (i := 21) rfl))
theorem dX9_order_113 : decode cX9_order 113 = .ok (.iload 7, 2) := of_decide_eq_true (List.all_eq_true.mp dA_X9_order_68 (113, .iload 7, 2) (List.mem_of_getElem? (i := 22) rfl))
theorem dX9_order_115 : decode cX9_order 115 = .ok (.iload_n 2, 1) := of_decide_eq_true (List.all_eq_true.mp dA_X9_order_68 (115, .iload_n 2, 1) (List.mem_of_getElem? (i := 23) rfl))
theorem dX9_order_116 : decode cX9_order 116 = .ok (.if_icmp .ge 23, 3) := of_decide_eq_true (List.all_eq_true.mp dA_X9_order_68 (116, .if_icmp .ge 23, 3) (List.mem_of_getElem? (i := 24) rfl))
theorem dX9_order_119 : decode cX9_order 119 = .ok (.aload_n 0, 1) := of_decide_eq_true (List.all_eq_true.mp dA_X9_order_68 (119, .aload_n 0, 1) (List.mem_of_getElem? (i := 25) rfl))
theorem dX9_order_120 : decode cX9_order 120 = .ok (.getfield 36, 3) := of_decide_eq_true (List.all_eq_true.mp dA_X9_order_68 (120, .getfield 36, 3) (List.mem_of_getElem? (i := 26) rfl))
theorem dX9_order_123 : decode cX9_order 123 = .ok (.iload 7, 2) := of_decide_eq_true (List.all_eq_true.mp dA_X9_order_68 (123, .iload 7, 2) (List.mem_of_getElem? (i := 27) rfl))
theorem dX9_order_125 : decode cX9_order 125 = .ok (.aload_n 0, 1) := of_decide_eq_true (List.all_eq_true.mp dA_X9_order_68 (125, .aload_n 0, 1) (List.mem_of_getElem? (i := 28) rfl))
theorem dX9_order_126 : decode cX9_order 126 = .ok (.getfield 33, 3) := of_decide_eq_true (List.all_eq_true.mp dA_X9_order_68 (126, .getfield 33, 3) (List.mem_of_getElem? (i := 29) rfl))
theorem dX9_order_129 : decode cX9_order 129 = .ok (.iload 7, 2) := of_decide_eq_true (List.all_eq_true.mp dA_X9_order_68 (129, .iload 7, 2) (List.mem_of_getElem? (i := 30) rfl))
theorem dX9_order_131 : decode cX9_order 131 = .ok (.iaload, 1) := of_decide_eq_true (List.all_eq_true.mp dA_X9_order_68 (131, .iaload, 1) (List.mem_of_getElem? (i := 31) rfl))
theorem dX9_order_132 : decode cX9_order 132 = .ok (.iastore, 1) := of_decide_eq_true (List.all_eq_true.mp dA_X9_order_68 (132, .iastore, 1) (List.mem_of_getElem? (i := 32) rfl))
theorem dX9_order_133 : decode cX9_order 133 = .ok (.iinc 7 1, 3) := of_decide_eq_true (List.all_eq_true.mp dA_X9_order_68 (133, .iinc 7 1, 3) (List.mem_of_getElem? (i := 33) rfl))
theorem dX9_order_136 : decode cX9_order 136 = .ok (.goto (-23), 3) := of_decide_eq_true (List.all_eq_true.mp dA_X9_order_68 (136, .goto (-23), 3) (List.mem_of_getElem? (i := 34) rfl))
theorem dX9_order_139 : decode cX9_order 139 = .ok (.iinc 5 1, 3) := of_decide_eq_true (List.all_eq_true.mp dA_X9_order_68 (139, .iinc 5 1, 3) (List.mem_of_getElem? (i := 35) rfl))
theorem dX9_order_142 : decode cX9_order 142 = .ok (.goto (-97), 3) := of_decide_eq_true (List.all_eq_true.mp dA_X9_order_68 (142, .goto (-97), 3) (List.mem_of_getElem? (i := 36) rfl))
theorem dX9_order_145 : decode cX9_order 145 = .ok (.iload_n 1, 1) := of_decide_eq_true (List.all_eq_true.mp dA_X9_order_68 (145, .iload_n 1, 1) (List.mem_of_getElem? (i := 37) rfl))
theorem dX9_order_146 : decode cX9_order 146 = .ok (.iconst (-1), 1) := of_decide_eq_true (List.all_eq_true.mp dA_X9_order_68 (146, .iconst (-1), 1) (List.mem_of_getElem? (i := 38) rfl))
theorem dX9_order_147 : decode cX9_order 147 = .ok (.if_icmp .ne 8, 3) := of_decide_eq_true (List.all_eq_true.mp dA_X9_order_68 (147, .if_icmp .ne 8, 3) (List.mem_of_getElem? (i := 39) rfl))
set_option maxRecDepth 20000 in
theorem dA_X9_order_150 : (([(150, .iload 4, 2), (152, .goto 19, 3), (155, .iload_n 1, 1), (156, .iload_n 2, 1), (157, .if_icmp .lt 8, 3), (160, .bipush (-5), 2), (162, .goto 9, 3), (165, .aload_n 0, 1), (166, .getfield 36, 3), (169, .iload_n 1, 1), (170, .iaload, 1), (171, .ireturn, 1)] : List (Nat × Instr × Nat)).all fun q => decide (decode cX9_order q.1 = .ok (q.2.1, q.2.2))) = true := by decide +kernel
theorem dX9_order_150 : decode cX9_order 150 = .ok (.iload 4, 2) := of_decide_eq_true (List.all_eq_true.mp dA_X9_order_150 (150, .iload 4, 2) (List.mem_of_getElem? (i := 0) rfl))
theorem dX9_order_152 : decode cX9_order 152 = .ok (.goto 19, 3) := of_decide_eq_true (List.all_eq_true.mp dA_X9_order_150 (152, .goto 19, 3) (List.mem_of_getElem? (i := 1) rfl))
theorem dX9_order_155 : decode cX9_order 155 = .ok (.iload_n 1, 1) := of_decide_eq_true (List.all_eq_true.mp dA_X9_order_150 (155, .iload_n 1, 1) (List.mem_of_getElem? (i := 2) rfl))
theorem dX9_order_156 : decode cX9_order 156 = .ok (.iload_n 2, 1) := of_decide_eq_true (List.all_eq_true.mp dA_X9_order_150 (156, .iload_n 2, 1) (List.mem_of_getElem? (i := 3) rfl))
theorem dX9_order_157 : decode cX9_order 157 = .ok (.if_icmp .lt 8, 3) := of_decide_eq_true (List.all_eq_true.mp dA_X9_order_150 (157, .if_icmp .lt 8, 3) (List.mem_of_getElem? (i := 4) rfl))
theorem dX9_order_160 : decode cX9_order 160 = .ok (.bipush (-5), 2) := of_decide_eq_true (List.all_eq_true.mp dA_X9_order_150 (160, .bipush (-5), 2) (List.mem_of_getElem? (i := 5) rfl))
theorem dX9_order_162 : decode cX9_order 162 = .ok (.goto 9, 3) := of_decide_eq_true (List.all_eq_true.mp dA_X9_order_150 (162, .goto 9, 3) (List.mem_of_getElem? (i := 6) rfl))
theorem dX9_order_165 : decode cX9_order 165 = .ok (.aload_n 0, 1) := of_decide_eq_true (List.all_eq_true.mp dA_X9_order_150 (165, .aload_n 0, 1) (List.mem_of_getElem? (i := 7) rfl))
theorem dX9_order_166 : decode cX9_order 166 = .ok (.getfield 36, 3) := of_decide_eq_true (List.all_eq_true.mp dA_X9_order_150 (166, .getfield 36, 3) (List.mem_of_getElem? (i := 8) rfl))
theorem dX9_order_169 : decode cX9_order 169 = .ok (.iload_n 1, 1) := of_decide_eq_true (List.all_eq_true.mp dA_X9_order_150 (169, .iload_n 1, 1) (List.mem_of_getElem? (i := 9) rfl))
theorem dX9_order_170 : decode cX9_order 170 = .ok (.iaload, 1) := of_decide_eq_true (List.all_eq_true.mp dA_X9_order_150 (170, .iaload, 1) (List.mem_of_getElem? (i := 10) rfl))
theorem dX9_order_171 : decode cX9_order 171 = .ok (.ireturn, 1) := of_decide_eq_true (List.all_eq_true.mp dA_X9_order_150 (171, .ireturn, 1) (List.mem_of_getElem? (i := 11) rfl))
set_option maxRecDepth 20000 in
theorem ggX9_seen_X9_isOne : GoodIn wsX9_seen wsX9_isOne := goodIn_r _ [7, 8, 9, 10, 6, 11, 2, 12, 13, 14, 28, 29, 30, 31, 32, 33, 34, 35, 36, 37, 38, 39, 40, 41, 42, 43, 44, 45, 46] (by decide +kernel) (by decide +kernel)
set_option maxRecDepth 20000 in
theorem gX9_seen_X9_isOne : GoodIn wsX9_seen (wsV RX9 129 RX9 yX9_isOne wsX9_isOne) := goodIn_app (goodIn_of _ (by decide +kernel)) ggX9_seen_X9_isOne
set_option maxRecDepth 20000 in
theorem ggX9_seen_X9_isWord : GoodIn wsX9_seen wsX9_isWord := goodIn_r _ [17, 18, 12, 13, 6, 14] (by decide +kernel) (by decide +kernel)
set_option maxRecDepth 20000 in
theorem gX9_seen_X9_isWord : GoodIn wsX9_seen (va_wsS RX9 82 yX9_isWord wsX9_isWord) := goodIn_app (goodIn_of _ (by decide +kernel)) ggX9_seen_X9_isWord
set_option maxRecDepth 20000 in
theorem ggX9_seen_X9_in : GoodIn wsX9_seen wsX9_in := goodIn_r _ [14] (by decide +kernel) (by decide +kernel)
set_option maxRecDepth 20000 in
theorem gX9_seen_X9_in : GoodIn wsX9_seen (va_wsS RX9 59 yX9_in wsX9_in) := goodIn_app (goodIn_of _ (by decide +kernel)) ggX9_seen_X9_in
set_option maxRecDepth 20000 in
theorem ggX9_seen_X9_bad : GoodIn wsX9_seen wsX9_bad := goodIn_r _ [22, 23, 28, 29, 30, 31, 32, 33, 34, 35, 36, 37, 38, 39, 40, 41, 42, 43, 44, 45, 46] (by decide +kernel) (by decide +kernel)
set_option maxRecDepth 20000 in
theorem gX9_seen_X9_bad : GoodIn wsX9_seen (wsV RX9 75 RX9 yX9_bad wsX9_bad) := goodIn_app (goodIn_of _ (by decide +kernel)) ggX9_seen_X9_bad
set_option maxRecDepth 20000 in
theorem ggX9_seen_X9_full : GoodIn wsX9_seen wsX9_full := goodIn_r _ [27, 23, 28, 29, 30, 31, 32, 33, 34, 35, 36, 37, 38, 39, 40, 41, 42, 43, 44, 45, 46] (by decide +kernel) (by decide +kernel)
set_option maxRecDepth 20000 in
theorem gX9_seen_X9_full : GoodIn wsX9_seen (wsV RX9 85 RX9 yX9_full wsX9_full) := goodIn_app (goodIn_of _ (by decide +kernel)) ggX9_seen_X9_full
set_option maxRecDepth 20000 in
theorem dA_X9_seen_0 : (([(0, .aload_n 0, 1), (1, .iload_n 1, 1), (2, .invokevirtual 129, 3), (5, .ifCond .eq 33, 3), (8, .iload_n 2, 1), (9, .invokestatic 82, 3), (12, .ifCond .eq 26, 3), (15, .iload_n 3, 1), (16, .i2l, 1), (17, .lconst 0, 1), (18, .ldc2_w 141, 3), (21, .invokestatic 59, 3), (24, .ifCond .eq 14, 3), (27, .iload 4, 2), (29, .i2l, 1), (30, .lconst 0, 1), (31, .lconst 1, 1), (32, .invokestatic 59, 3), (35, .ifCond .ne 10, 3), (38, .aload_n 0, 1), (39, .bipush (-2), 2), (41, .invokevirtual 75, 3), (44, .ireturn, 1), (45, .aload_n 0, 1), (46, .getfield 7, 3), (49, .iconst 1, 1), (50, .iaload, 1), (51, .iconst 5, 1), (52, .if_icmp .ne 8, 3), (55, .aload_n 0, 1), (56, .invokevirtual 85, 3), (59, .ireturn, 1), (60, .bipush 38, 2), (62, .iconst 4, 1), (63, .aload_n 0, 1), (64, .getfield 7, 3), (67, .iconst 1, 1), (68, .iaload, 1), (69, .imul, 1), (70, .iadd, 1)] : List (Nat × Instr × Nat)).all fun q => decide (decode cX9_seen q.1 = .ok (q.2.1, q.2.2))) = true := by decide +kernel
theorem dX9_seen_0 : decode cX9_seen 0 = .ok (.aload_n 0, 1) := of_decide_eq_true (List.all_eq_true.mp dA_X9_seen_0 (0, .aload_n 0, 1) (List.mem_of_getElem? (i := 0) rfl))
theorem dX9_seen_1 : decode cX9_seen 1 = .ok (.iload_n 1, 1) := of_decide_eq_true (List.all_eq_true.mp dA_X9_seen_0 (1, .iload_n 1, 1) (List.mem_of_getElem? (i := 1) rfl))
theorem dX9_seen_2 : decode cX9_seen 2 = .ok (.invokevirtual 129, 3) := of_decide_eq_true (List.all_eq_true.mp dA_X9_seen_0 (2, .invokevirtual 129, 3) (List.mem_of_getElem? (i := 2) rfl))
theorem dX9_seen_5 : decode cX9_seen 5 = .ok (.ifCond .eq 33, 3) := of_decide_eq_true (List.all_eq_true.mp dA_X9_seen_0 (5, .ifCond .eq 33, 3) (List.mem_of_getElem? (i := 3) rfl))
theorem dX9_seen_8 : decode cX9_seen 8 = .ok (.iload_n 2, 1) := of_decide_eq_true (List.all_eq_true.mp dA_X9_seen_0 (8, .iload_n 2, 1) (List.mem_of_getElem? (i := 4) rfl))
theorem dX9_seen_9 : decode cX9_seen 9 = .ok (.invokestatic 82, 3) := of_decide_eq_true (List.all_eq_true.mp dA_X9_seen_0 (9, .invokestatic 82, 3) (List.mem_of_getElem? (i := 5) rfl))
theorem dX9_seen_12 : decode cX9_seen 12 = .ok (.ifCond .eq 26, 3) := of_decide_eq_true (List.all_eq_true.mp dA_X9_seen_0 (12, .ifCond .eq 26, 3) (List.mem_of_getElem? (i := 6) rfl))
theorem dX9_seen_15 : decode cX9_seen 15 = .ok (.iload_n 3, 1) := of_decide_eq_true (List.all_eq_true.mp dA_X9_seen_0 (15, .iload_n 3, 1) (List.mem_of_getElem? (i := 7) rfl))
theorem dX9_seen_16 : decode cX9_seen 16 = .ok (.i2l, 1) := of_decide_eq_true (List.all_eq_true.mp dA_X9_seen_0 (16, .i2l, 1) (List.mem_of_getElem? (i := 8) rfl))
theorem dX9_seen_17 : decode cX9_seen 17 = .ok (.lconst 0, 1) := of_decide_eq_true (List.all_eq_true.mp dA_X9_seen_0 (17, .lconst 0, 1) (List.mem_of_getElem? (i := 9) rfl))
theorem dX9_seen_18 : decode cX9_seen 18 = .ok (.ldc2_w 141, 3) := of_decide_eq_true (List.all_eq_true.mp dA_X9_seen_0 (18, .ldc2_w 141, 3) (List.mem_of_getElem? (i := 10) rfl))
theorem dX9_seen_21 : decode cX9_seen 21 = .ok (.invokestatic 59, 3) := of_decide_eq_true (List.all_eq_true.mp dA_X9_seen_0 (21, .invokestatic 59, 3) (List.mem_of_getElem? (i := 11) rfl))
theorem dX9_seen_24 : decode cX9_seen 24 = .ok (.ifCond .eq 14, 3) := of_decide_eq_true (List.all_eq_true.mp dA_X9_seen_0 (24, .ifCond .eq 14, 3) (List.mem_of_getElem? (i := 12) rfl))
theorem dX9_seen_27 : decode cX9_seen 27 = .ok (.iload 4, 2) := of_decide_eq_true (List.all_eq_true.mp dA_X9_seen_0 (27, .iload 4, 2) (List.mem_of_getElem? (i := 13) rfl))
theorem dX9_seen_29 : decode cX9_seen 29 = .ok (.i2l, 1) := of_decide_eq_true (List.all_eq_true.mp dA_X9_seen_0 (29, .i2l, 1) (List.mem_of_getElem? (i := 14) rfl))
theorem dX9_seen_30 : decode cX9_seen 30 = .ok (.lconst 0, 1) := of_decide_eq_true (List.all_eq_true.mp dA_X9_seen_0 (30, .lconst 0, 1) (List.mem_of_getElem? (i := 15) rfl))
theorem dX9_seen_31 : decode cX9_seen 31 = .ok (.lconst 1, 1) := of_decide_eq_true (List.all_eq_true.mp dA_X9_seen_0 (31, .lconst 1, 1) (List.mem_of_getElem? (i := 16) rfl))
theorem dX9_seen_32 : decode cX9_seen 32 = .ok (.invokestatic 59, 3) := of_decide_eq_true (List.all_eq_true.mp dA_X9_seen_0 (32, .invokestatic 59, 3) (List.mem_of_getElem? (i := 17) rfl))
theorem dX9_seen_35 : decode cX9_seen 35 = .ok (.ifCond .ne 10, 3) := of_decide_eq_true (List.all_eq_true.mp dA_X9_seen_0 (35, .ifCond .ne 10, 3) (List.mem_of_getElem? (i := 18) rfl))
theorem dX9_seen_38 : decode cX9_seen 38 = .ok (.aload_n 0, 1) := of_decide_eq_true (List.all_eq_true.mp dA_X9_seen_0 (38, .aload_n 0, 1) (List.mem_of_getElem? (i := 19) rfl))
theorem dX9_seen_39 : decode cX9_seen 39 = .ok (.bipush (-2), 2) := of_decide_eq_true (List.all_eq_true.mp dA_X9_seen_0 (39, .bipush (-2), 2) (List.mem_of_getElem? (i := 20) rfl))
theorem dX9_seen_41 : decode cX9_seen 41 = .ok (.invokevirtual 75, 3) := of_decide_eq_true (List.all_eq_true.mp dA_X9_seen_0 (41, .invokevirtual 75, 3) (List.mem_of_getElem? (i := 21) rfl))
theorem dX9_seen_44 : decode cX9_seen 44 = .ok (.ireturn, 1) := of_decide_eq_true (List.all_eq_true.mp dA_X9_seen_0 (44, .ireturn, 1) (List.mem_of_getElem? (i := 22) rfl))
theorem dX9_seen_45 : decode cX9_seen 45 = .ok (.aload_n 0, 1) := of_decide_eq_true (List.all_eq_true.mp dA_X9_seen_0 (45, .aload_n 0, 1) (List.mem_of_getElem? (i := 23) rfl))
theorem dX9_seen_46 : decode cX9_seen 46 = .ok (.getfield 7, 3) := of_decide_eq_true (List.all_eq_true.mp dA_X9_seen_0 (46, .getfield 7, 3) (List.mem_of_getElem? (i := 24) rfl))
theorem dX9_seen_49 : decode cX9_seen 49 = .ok (.iconst 1, 1) := of_decide_eq_true (List.all_eq_true.mp dA_X9_seen_0 (49, .iconst 1, 1) (List.mem_of_getElem? (i := 25) rfl))
theorem dX9_seen_50 : decode cX9_seen 50 = .ok (.iaload, 1) := of_decide_eq_true (List.all_eq_true.mp dA_X9_seen_0 (50, .iaload, 1) (List.mem_of_getElem? (i := 26) rfl))
theorem dX9_seen_51 : decode cX9_seen 51 = .ok (.iconst 5, 1) := of_decide_eq_true (List.all_eq_true.mp dA_X9_seen_0 (51, .iconst 5, 1) (List.mem_of_getElem? (i := 27) rfl))
theorem dX9_seen_52 : decode cX9_seen 52 = .ok (.if_icmp .ne 8, 3) := of_decide_eq_true (List.all_eq_true.mp dA_X9_seen_0 (52, .if_icmp .ne 8, 3) (List.mem_of_getElem? (i := 28) rfl))
theorem dX9_seen_55 : decode cX9_seen 55 = .ok (.aload_n 0, 1) := of_decide_eq_true (List.all_eq_true.mp dA_X9_seen_0 (55, .aload_n 0, 1) (List.mem_of_getElem? (i := 29) rfl))
theorem dX9_seen_56 : decode cX9_seen 56 = .ok (.invokevirtual 85, 3) := of_decide_eq_true (List.all_eq_true.mp dA_X9_seen_0 (56, .invokevirtual 85, 3) (List.mem_of_getElem? (i := 30) rfl))
theorem dX9_seen_59 : decode cX9_seen 59 = .ok (.ireturn, 1) := of_decide_eq_true (List.all_eq_true.mp dA_X9_seen_0 (59, .ireturn, 1) (List.mem_of_getElem? (i := 31) rfl))
theorem dX9_seen_60 : decode cX9_seen 60 = .ok (.bipush 38, 2) := of_decide_eq_true (List.all_eq_true.mp dA_X9_seen_0 (60, .bipush 38, 2) (List.mem_of_getElem? (i := 32) rfl))
theorem dX9_seen_62 : decode cX9_seen 62 = .ok (.iconst 4, 1) := of_decide_eq_true (List.all_eq_true.mp dA_X9_seen_0 (62, .iconst 4, 1) (List.mem_of_getElem? (i := 33) rfl))
theorem dX9_seen_63 : decode cX9_seen 63 = .ok (.aload_n 0, 1) := of_decide_eq_true (List.all_eq_true.mp dA_X9_seen_0 (63, .aload_n 0, 1) (List.mem_of_getElem? (i := 34) rfl))
theorem dX9_seen_64 : decode cX9_seen 64 = .ok (.getfield 7, 3) := of_decide_eq_true (List.all_eq_true.mp dA_X9_seen_0 (64, .getfield 7, 3) (List.mem_of_getElem? (i := 35) rfl))
theorem dX9_seen_67 : decode cX9_seen 67 = .ok (.iconst 1, 1) := of_decide_eq_true (List.all_eq_true.mp dA_X9_seen_0 (67, .iconst 1, 1) (List.mem_of_getElem? (i := 36) rfl))
theorem dX9_seen_68 : decode cX9_seen 68 = .ok (.iaload, 1) := of_decide_eq_true (List.all_eq_true.mp dA_X9_seen_0 (68, .iaload, 1) (List.mem_of_getElem? (i := 37) rfl))
theorem dX9_seen_69 : decode cX9_seen 69 = .ok (.imul, 1) := of_decide_eq_true (List.all_eq_true.mp dA_X9_seen_0 (69, .imul, 1) (List.mem_of_getElem? (i := 38) rfl))
theorem dX9_seen_70 : decode cX9_seen 70 = .ok (.iadd, 1) := of_decide_eq_true (List.all_eq_true.mp dA_X9_seen_0 (70, .iadd, 1) (List.mem_of_getElem? (i := 39) rfl))
set_option maxRecDepth 20000 in
theorem dA_X9_seen_71 : (([(71, .istore 5, 2), (73, .aload_n 0, 1), (74, .getfield 7, 3), (77, .iload 5, 2), (79, .iload_n 1, 1), (80, .iastore, 1), (81, .aload_n 0, 1), (82, .getfield 7, 3), (85, .iload 5, 2), (87, .iconst 1, 1), (88, .iadd, 1), (89, .iload_n 2, 1), (90, .iastore, 1), (91, .aload_n 0, 1), (92, .getfield 7, 3), (95, .iload 5, 2), (97, .iconst 2, 1), (98, .iadd, 1), (99, .iload_n 3, 1), (100, .iastore, 1), (101, .aload_n 0, 1), (102, .getfield 7, 3), (105, .iload 5, 2), (107, .iconst 3, 1), (108, .iadd, 1), (109, .iload 4, 2), (111, .iastore, 1), (112, .aload_n 0, 1), (113, .getfield 7, 3), (116, .iconst 1, 1), (117, .dup2, 1), (118, .iaload, 1), (119, .iconst 1, 1), (120, .iadd, 1), (121, .iastore, 1), (122, .aload_n 0, 1), (123, .getfield 7, 3), (126, .iconst 1, 1), (127, .iaload, 1), (128, .ireturn, 1)] : List (Nat × Instr × Nat)).all fun q => decide (decode cX9_seen q.1 = .ok (q.2.1, q.2.2))) = true := by decide +kernel
theorem dX9_seen_71 : decode cX9_seen 71 = .ok (.istore 5, 2) := of_decide_eq_true (List.all_eq_true.mp dA_X9_seen_71 (71, .istore 5, 2) (List.mem_of_getElem? (i := 0) rfl))
theorem dX9_seen_73 : decode cX9_seen 73 = .ok (.aload_n 0, 1) := of_decide_eq_true (List.all_eq_true.mp dA_X9_seen_71 (73, .aload_n 0, 1) (List.mem_of_getElem? (i := 1) rfl))
theorem dX9_seen_74 : decode cX9_seen 74 = .ok (.getfield 7, 3) := of_decide_eq_true (List.all_eq_true.mp dA_X9_seen_71 (74, .getfield 7, 3) (List.mem_of_getElem? (i := 2) rfl))
theorem dX9_seen_77 : decode cX9_seen 77 = .ok (.iload 5, 2) := of_decide_eq_true (List.all_eq_true.mp dA_X9_seen_71 (77, .iload 5, 2) (List.mem_of_getElem? (i := 3) rfl))
theorem dX9_seen_79 : decode cX9_seen 79 = .ok (.iload_n 1, 1) := of_decide_eq_true (List.all_eq_true.mp dA_X9_seen_71 (79, .iload_n 1, 1) (List.mem_of_getElem? (i := 4) rfl))
theorem dX9_seen_80 : decode cX9_seen 80 = .ok (.iastore, 1) := of_decide_eq_true (List.all_eq_true.mp dA_X9_seen_71 (80, .iastore, 1) (List.mem_of_getElem? (i := 5) rfl))
theorem dX9_seen_81 : decode cX9_seen 81 = .ok (.aload_n 0, 1) := of_decide_eq_true (List.all_eq_true.mp dA_X9_seen_71 (81, .aload_n 0, 1) (List.mem_of_getElem? (i := 6) rfl))
theorem dX9_seen_82 : decode cX9_seen 82 = .ok (.getfield 7, 3) := of_decide_eq_true (List.all_eq_true.mp dA_X9_seen_71 (82, .getfield 7, 3) (List.mem_of_getElem? (i := 7) rfl))
theorem dX9_seen_85 : decode cX9_seen 85 = .ok (.iload 5, 2) := of_decide_eq_true (List.all_eq_true.mp dA_X9_seen_71 (85, .iload 5, 2) (List.mem_of_getElem? (i := 8) rfl))
theorem dX9_seen_87 : decode cX9_seen 87 = .ok (.iconst 1, 1) := of_decide_eq_true (List.all_eq_true.mp dA_X9_seen_71 (87, .iconst 1, 1) (List.mem_of_getElem? (i := 9) rfl))
theorem dX9_seen_88 : decode cX9_seen 88 = .ok (.iadd, 1) := of_decide_eq_true (List.all_eq_true.mp dA_X9_seen_71 (88, .iadd, 1) (List.mem_of_getElem? (i := 10) rfl))
theorem dX9_seen_89 : decode cX9_seen 89 = .ok (.iload_n 2, 1) := of_decide_eq_true (List.all_eq_true.mp dA_X9_seen_71 (89, .iload_n 2, 1) (List.mem_of_getElem? (i := 11) rfl))
theorem dX9_seen_90 : decode cX9_seen 90 = .ok (.iastore, 1) := of_decide_eq_true (List.all_eq_true.mp dA_X9_seen_71 (90, .iastore, 1) (List.mem_of_getElem? (i := 12) rfl))
theorem dX9_seen_91 : decode cX9_seen 91 = .ok (.aload_n 0, 1) := of_decide_eq_true (List.all_eq_true.mp dA_X9_seen_71 (91, .aload_n 0, 1) (List.mem_of_getElem? (i := 13) rfl))
theorem dX9_seen_92 : decode cX9_seen 92 = .ok (.getfield 7, 3) := of_decide_eq_true (List.all_eq_true.mp dA_X9_seen_71 (92, .getfield 7, 3) (List.mem_of_getElem? (i := 14) rfl))
theorem dX9_seen_95 : decode cX9_seen 95 = .ok (.iload 5, 2) := of_decide_eq_true (List.all_eq_true.mp dA_X9_seen_71 (95, .iload 5, 2) (List.mem_of_getElem? (i := 15) rfl))
theorem dX9_seen_97 : decode cX9_seen 97 = .ok (.iconst 2, 1) := of_decide_eq_true (List.all_eq_true.mp dA_X9_seen_71 (97, .iconst 2, 1) (List.mem_of_getElem? (i := 16) rfl))
theorem dX9_seen_98 : decode cX9_seen 98 = .ok (.iadd, 1) := of_decide_eq_true (List.all_eq_true.mp dA_X9_seen_71 (98, .iadd, 1) (List.mem_of_getElem? (i := 17) rfl))
theorem dX9_seen_99 : decode cX9_seen 99 = .ok (.iload_n 3, 1) := of_decide_eq_true (List.all_eq_true.mp dA_X9_seen_71 (99, .iload_n 3, 1) (List.mem_of_getElem? (i := 18) rfl))
theorem dX9_seen_100 : decode cX9_seen 100 = .ok (.iastore, 1) := of_decide_eq_true (List.all_eq_true.mp dA_X9_seen_71 (100, .iastore, 1) (List.mem_of_getElem? (i := 19) rfl))
theorem dX9_seen_101 : decode cX9_seen 101 = .ok (.aload_n 0, 1) := of_decide_eq_true (List.all_eq_true.mp dA_X9_seen_71 (101, .aload_n 0, 1) (List.mem_of_getElem? (i := 20) rfl))
theorem dX9_seen_102 : decode cX9_seen 102 = .ok (.getfield 7, 3) := of_decide_eq_true (List.all_eq_true.mp dA_X9_seen_71 (102, .getfield 7, 3) (List.mem_of_getElem? (i := 21) rfl))
theorem dX9_seen_105 : decode cX9_seen 105 = .ok (.iload 5, 2) := of_decide_eq_true (List.all_eq_true.mp dA_X9_seen_71 (105, .iload 5, 2) (List.mem_of_getElem? (i := 22) rfl))
theorem dX9_seen_107 : decode cX9_seen 107 = .ok (.iconst 3, 1) := of_decide_eq_true (List.all_eq_true.mp dA_X9_seen_71 (107, .iconst 3, 1) (List.mem_of_getElem? (i := 23) rfl))
theorem dX9_seen_108 : decode cX9_seen 108 = .ok (.iadd, 1) := of_decide_eq_true (List.all_eq_true.mp dA_X9_seen_71 (108, .iadd, 1) (List.mem_of_getElem? (i := 24) rfl))
theorem dX9_seen_109 : decode cX9_seen 109 = .ok (.iload 4, 2) := of_decide_eq_true (List.all_eq_true.mp dA_X9_seen_71 (109, .iload 4, 2) (List.mem_of_getElem? (i := 25) rfl))
theorem dX9_seen_111 : decode cX9_seen 111 = .ok (.iastore, 1) := of_decide_eq_true (List.all_eq_true.mp dA_X9_seen_71 (111, .iastore, 1) (List.mem_of_getElem? (i := 26) rfl))
theorem dX9_seen_112 : decode cX9_seen 112 = .ok (.aload_n 0, 1) := of_decide_eq_true (List.all_eq_true.mp dA_X9_seen_71 (112, .aload_n 0, 1) (List.mem_of_getElem? (i := 27) rfl))
theorem dX9_seen_113 : decode cX9_seen 113 = .ok (.getfield 7, 3) := of_decide_eq_true (List.all_eq_true.mp dA_X9_seen_71 (113, .getfield 7, 3) (List.mem_of_getElem? (i := 28) rfl))
theorem dX9_seen_116 : decode cX9_seen 116 = .ok (.iconst 1, 1) := of_decide_eq_true (List.all_eq_true.mp dA_X9_seen_71 (116, .iconst 1, 1) (List.mem_of_getElem? (i := 29) rfl))
theorem dX9_seen_117 : decode cX9_seen 117 = .ok (.dup2, 1) := of_decide_eq_true (List.all_eq_true.mp dA_X9_seen_71 (117, .dup2, 1) (List.mem_of_getElem? (i := 30) rfl))
theorem dX9_seen_118 : decode cX9_seen 118 = .ok (.iaload, 1) := of_decide_eq_true (List.all_eq_true.mp dA_X9_seen_71 (118, .iaload, 1) (List.mem_of_getElem? (i := 31) rfl))
theorem dX9_seen_119 : decode cX9_seen 119 = .ok (.iconst 1, 1) := of_decide_eq_true (List.all_eq_true.mp dA_X9_seen_71 (119, .iconst 1, 1) (List.mem_of_getElem? (i := 32) rfl))
theorem dX9_seen_120 : decode cX9_seen 120 = .ok (.iadd, 1) := of_decide_eq_true (List.all_eq_true.mp dA_X9_seen_71 (120, .iadd, 1) (List.mem_of_getElem? (i := 33) rfl))
theorem dX9_seen_121 : decode cX9_seen 121 = .ok (.iastore, 1) := of_decide_eq_true (List.all_eq_true.mp dA_X9_seen_71 (121, .iastore, 1) (List.mem_of_getElem? (i := 34) rfl))
theorem dX9_seen_122 : decode cX9_seen 122 = .ok (.aload_n 0, 1) := of_decide_eq_true (List.all_eq_true.mp dA_X9_seen_71 (122, .aload_n 0, 1) (List.mem_of_getElem? (i := 35) rfl))
theorem dX9_seen_123 : decode cX9_seen 123 = .ok (.getfield 7, 3) := of_decide_eq_true (List.all_eq_true.mp dA_X9_seen_71 (123, .getfield 7, 3) (List.mem_of_getElem? (i := 36) rfl))
theorem dX9_seen_126 : decode cX9_seen 126 = .ok (.iconst 1, 1) := of_decide_eq_true (List.all_eq_true.mp dA_X9_seen_71 (126, .iconst 1, 1) (List.mem_of_getElem? (i := 37) rfl))
theorem dX9_seen_127 : decode cX9_seen 127 = .ok (.iaload, 1) := of_decide_eq_true (List.all_eq_true.mp dA_X9_seen_71 (127, .iaload, 1) (List.mem_of_getElem? (i := 38) rfl))
theorem dX9_seen_128 : decode cX9_seen 128 = .ok (.ireturn, 1) := of_decide_eq_true (List.all_eq_true.mp dA_X9_seen_71 (128, .ireturn, 1) (List.mem_of_getElem? (i := 39) rfl))
set_option maxRecDepth 20000 in
theorem ggX9_isInBy_X9_likelyAs : GoodIn wsX9_isInBy wsX9_likelyAs := goodIn_r _ [5] (by decide +kernel) (by decide +kernel)
set_option maxRecDepth 20000 in
theorem gX9_isInBy_X9_likelyAs : GoodIn wsX9_isInBy (va_wsS RX9 91 yX9_likelyAs wsX9_likelyAs) := goodIn_app (goodIn_of _ (by decide +kernel)) ggX9_isInBy_X9_likelyAs
set_option maxRecDepth 20000 in
theorem ggX9_isInBy_X9_wetOf : GoodIn wsX9_isInBy wsX9_wetOf := goodIn_r _ [8] (by decide +kernel) (by decide +kernel)
set_option maxRecDepth 20000 in
theorem gX9_isInBy_X9_wetOf : GoodIn wsX9_isInBy (va_wsS RX9 95 yX9_wetOf wsX9_wetOf) := goodIn_app (goodIn_of _ (by decide +kernel)) ggX9_isInBy_X9_wetOf
set_option maxRecDepth 20000 in
theorem ggX9_isInBy_X9_passesAs : GoodIn wsX9_isInBy wsX9_passesAs := goodIn_r _ [11] (by decide +kernel) (by decide +kernel)
set_option maxRecDepth 20000 in
theorem gX9_isInBy_X9_passesAs : GoodIn wsX9_isInBy (va_wsS RX9 99 yX9_passesAs wsX9_passesAs) := goodIn_app (goodIn_of _ (by decide +kernel)) ggX9_isInBy_X9_passesAs
set_option maxRecDepth 20000 in
theorem dA_X9_isInBy_0 : (([(0, .aload_n 0, 1), (1, .getfield 7, 3), (4, .bipush 31, 2), (6, .iload_n 1, 1), (7, .iadd, 1), (8, .iaload, 1), (9, .iload_n 2, 1), (10, .iload_n 3, 1), (11, .iload 4, 2), (13, .invokestatic 91, 3), (16, .aload_n 0, 1), (17, .getfield 7, 3), (20, .bipush 23, 2), (22, .iaload, 1), (23, .aload_n 0, 1), (24, .getfield 7, 3), (27, .iload 4, 2), (29, .invokestatic 95, 3), (32, .iconst 0, 1), (33, .invokestatic 99, 3), (36, .if_icmp .gt 7, 3), (39, .iconst 1, 1), (40, .goto 4, 3), (43, .iconst 0, 1), (44, .ireturn, 1)] : List (Nat × Instr × Nat)).all fun q => decide (decode cX9_isInBy q.1 = .ok (q.2.1, q.2.2))) = true := by decide +kernel
theorem dX9_isInBy_0 : decode cX9_isInBy 0 = .ok (.aload_n 0, 1) := of_decide_eq_true (List.all_eq_true.mp dA_X9_isInBy_0 (0, .aload_n 0, 1) (List.mem_of_getElem? (i := 0) rfl))
theorem dX9_isInBy_1 : decode cX9_isInBy 1 = .ok (.getfield 7, 3) := of_decide_eq_true (List.all_eq_true.mp dA_X9_isInBy_0 (1, .getfield 7, 3) (List.mem_of_getElem? (i := 1) rfl))
theorem dX9_isInBy_4 : decode cX9_isInBy 4 = .ok (.bipush 31, 2) := of_decide_eq_true (List.all_eq_true.mp dA_X9_isInBy_0 (4, .bipush 31, 2) (List.mem_of_getElem? (i := 2) rfl))
theorem dX9_isInBy_6 : decode cX9_isInBy 6 = .ok (.iload_n 1, 1) := of_decide_eq_true (List.all_eq_true.mp dA_X9_isInBy_0 (6, .iload_n 1, 1) (List.mem_of_getElem? (i := 3) rfl))
theorem dX9_isInBy_7 : decode cX9_isInBy 7 = .ok (.iadd, 1) := of_decide_eq_true (List.all_eq_true.mp dA_X9_isInBy_0 (7, .iadd, 1) (List.mem_of_getElem? (i := 4) rfl))
theorem dX9_isInBy_8 : decode cX9_isInBy 8 = .ok (.iaload, 1) := of_decide_eq_true (List.all_eq_true.mp dA_X9_isInBy_0 (8, .iaload, 1) (List.mem_of_getElem? (i := 5) rfl))
theorem dX9_isInBy_9 : decode cX9_isInBy 9 = .ok (.iload_n 2, 1) := of_decide_eq_true (List.all_eq_true.mp dA_X9_isInBy_0 (9, .iload_n 2, 1) (List.mem_of_getElem? (i := 6) rfl))
theorem dX9_isInBy_10 : decode cX9_isInBy 10 = .ok (.iload_n 3, 1) := of_decide_eq_true (List.all_eq_true.mp dA_X9_isInBy_0 (10, .iload_n 3, 1) (List.mem_of_getElem? (i := 7) rfl))
theorem dX9_isInBy_11 : decode cX9_isInBy 11 = .ok (.iload 4, 2) := of_decide_eq_true (List.all_eq_true.mp dA_X9_isInBy_0 (11, .iload 4, 2) (List.mem_of_getElem? (i := 8) rfl))
theorem dX9_isInBy_13 : decode cX9_isInBy 13 = .ok (.invokestatic 91, 3) := of_decide_eq_true (List.all_eq_true.mp dA_X9_isInBy_0 (13, .invokestatic 91, 3) (List.mem_of_getElem? (i := 9) rfl))
theorem dX9_isInBy_16 : decode cX9_isInBy 16 = .ok (.aload_n 0, 1) := of_decide_eq_true (List.all_eq_true.mp dA_X9_isInBy_0 (16, .aload_n 0, 1) (List.mem_of_getElem? (i := 10) rfl))
theorem dX9_isInBy_17 : decode cX9_isInBy 17 = .ok (.getfield 7, 3) := of_decide_eq_true (List.all_eq_true.mp dA_X9_isInBy_0 (17, .getfield 7, 3) (List.mem_of_getElem? (i := 11) rfl))
theorem dX9_isInBy_20 : decode cX9_isInBy 20 = .ok (.bipush 23, 2) := of_decide_eq_true (List.all_eq_true.mp dA_X9_isInBy_0 (20, .bipush 23, 2) (List.mem_of_getElem? (i := 12) rfl))
theorem dX9_isInBy_22 : decode cX9_isInBy 22 = .ok (.iaload, 1) := of_decide_eq_true (List.all_eq_true.mp dA_X9_isInBy_0 (22, .iaload, 1) (List.mem_of_getElem? (i := 13) rfl))
theorem dX9_isInBy_23 : decode cX9_isInBy 23 = .ok (.aload_n 0, 1) := of_decide_eq_true (List.all_eq_true.mp dA_X9_isInBy_0 (23, .aload_n 0, 1) (List.mem_of_getElem? (i := 14) rfl))
theorem dX9_isInBy_24 : decode cX9_isInBy 24 = .ok (.getfield 7, 3) := of_decide_eq_true (List.all_eq_true.mp dA_X9_isInBy_0 (24, .getfield 7, 3) (List.mem_of_getElem? (i := 15) rfl))
theorem dX9_isInBy_27 : decode cX9_isInBy 27 = .ok (.iload 4, 2) := of_decide_eq_true (List.all_eq_true.mp dA_X9_isInBy_0 (27, .iload 4, 2) (List.mem_of_getElem? (i := 16) rfl))
theorem dX9_isInBy_29 : decode cX9_isInBy 29 = .ok (.invokestatic 95, 3) := of_decide_eq_true (List.all_eq_true.mp dA_X9_isInBy_0 (29, .invokestatic 95, 3) (List.mem_of_getElem? (i := 17) rfl))
theorem dX9_isInBy_32 : decode cX9_isInBy 32 = .ok (.iconst 0, 1) := of_decide_eq_true (List.all_eq_true.mp dA_X9_isInBy_0 (32, .iconst 0, 1) (List.mem_of_getElem? (i := 18) rfl))
theorem dX9_isInBy_33 : decode cX9_isInBy 33 = .ok (.invokestatic 99, 3) := of_decide_eq_true (List.all_eq_true.mp dA_X9_isInBy_0 (33, .invokestatic 99, 3) (List.mem_of_getElem? (i := 19) rfl))
theorem dX9_isInBy_36 : decode cX9_isInBy 36 = .ok (.if_icmp .gt 7, 3) := of_decide_eq_true (List.all_eq_true.mp dA_X9_isInBy_0 (36, .if_icmp .gt 7, 3) (List.mem_of_getElem? (i := 20) rfl))
theorem dX9_isInBy_39 : decode cX9_isInBy 39 = .ok (.iconst 1, 1) := of_decide_eq_true (List.all_eq_true.mp dA_X9_isInBy_0 (39, .iconst 1, 1) (List.mem_of_getElem? (i := 21) rfl))
theorem dX9_isInBy_40 : decode cX9_isInBy 40 = .ok (.goto 4, 3) := of_decide_eq_true (List.all_eq_true.mp dA_X9_isInBy_0 (40, .goto 4, 3) (List.mem_of_getElem? (i := 22) rfl))
theorem dX9_isInBy_43 : decode cX9_isInBy 43 = .ok (.iconst 0, 1) := of_decide_eq_true (List.all_eq_true.mp dA_X9_isInBy_0 (43, .iconst 0, 1) (List.mem_of_getElem? (i := 23) rfl))
theorem dX9_isInBy_44 : decode cX9_isInBy 44 = .ok (.ireturn, 1) := of_decide_eq_true (List.all_eq_true.mp dA_X9_isInBy_0 (44, .ireturn, 1) (List.mem_of_getElem? (i := 24) rfl))
set_option maxRecDepth 20000 in
theorem ggX9_isOften_X9_isInBy : GoodIn wsX9_isOften wsX9_isInBy := goodIn_r _ [6, 1, 7, 8, 5, 9, 10, 11, 12, 13, 14, 15, 16, 17, 18, 19, 20, 21, 22, 23, 24, 25, 26, 27, 28, 29, 30, 31, 32, 33, 34] (by decide +kernel) (by decide +kernel)
set_option maxRecDepth 20000 in
theorem gX9_isOften_X9_isInBy : GoodIn wsX9_isOften (wsV RX9 163 RX9 yX9_isInBy wsX9_isInBy) := goodIn_app (goodIn_of _ (by decide +kernel)) ggX9_isOften_X9_isInBy
set_option maxRecDepth 20000 in
theorem dA_X9_isOften_0 : (([(0, .iconst 1, 1), (1, .istore_n 3, 1), (2, .iconst 0, 1), (3, .istore 4, 2), (5, .iload 4, 2), (7, .aload_n 0, 1), (8, .getfield 7, 3), (11, .iconst 1, 1), (12, .iaload, 1), (13, .if_icmp .ge 84, 3), (16, .bipush 38, 2), (18, .iconst 4, 1), (19, .iload 4, 2), (21, .imul, 1), (22, .iadd, 1), (23, .istore 5, 2), (25, .iload_n 3, 1), (26, .ifCond .eq 63, 3), (29, .aload_n 0, 1), (30, .getfield 7, 3), (33, .iload 5, 2), (35, .iaload, 1), (36, .iload_n 1, 1), (37, .if_icmp .ne 48, 3), (40, .aload_n 0, 1), (41, .iload_n 1, 1), (42, .aload_n 0, 1), (43, .getfield 7, 3), (46, .iload 5, 2), (48, .iconst 1, 1), (49, .iadd, 1), (50, .iaload, 1), (51, .iload_n 2, 1), (52, .aload_n 0, 1), (53, .getfield 7, 3), (56, .iload 5, 2), (58, .iconst 2, 1), (59, .iadd, 1), (60, .iaload, 1), (61, .invokevirtual 163, 3)] : List (Nat × Instr × Nat)).all fun q => decide (decode cX9_isOften q.1 = .ok (q.2.1, q.2.2))) = true := by decide +kernel
theorem dX9_isOften_0 : decode cX9_isOften 0 = .ok (.iconst 1, 1) := of_decide_eq_true (List.all_eq_true.mp dA_X9_isOften_0 (0, .iconst 1, 1) (List.mem_of_getElem? (i := 0) rfl))
theorem dX9_isOften_1 : decode cX9_isOften 1 = .ok (.istore_n 3, 1) := of_decide_eq_true (List.all_eq_true.mp dA_X9_isOften_0 (1, .istore_n 3, 1) (List.mem_of_getElem? (i := 1) rfl))
theorem dX9_isOften_2 : decode cX9_isOften 2 = .ok (.iconst 0, 1) := of_decide_eq_true (List.all_eq_true.mp dA_X9_isOften_0 (2, .iconst 0, 1) (List.mem_of_getElem? (i := 2) rfl))
theorem dX9_isOften_3 : decode cX9_isOften 3 = .ok (.istore 4, 2) := of_decide_eq_true (List.all_eq_true.mp dA_X9_isOften_0 (3, .istore 4, 2) (List.mem_of_getElem? (i := 3) rfl))
theorem dX9_isOften_5 : decode cX9_isOften 5 = .ok (.iload 4, 2) := of_decide_eq_true (List.all_eq_true.mp dA_X9_isOften_0 (5, .iload 4, 2) (List.mem_of_getElem? (i := 4) rfl))
theorem dX9_isOften_7 : decode cX9_isOften 7 = .ok (.aload_n 0, 1) := of_decide_eq_true (List.all_eq_true.mp dA_X9_isOften_0 (7, .aload_n 0, 1) (List.mem_of_getElem? (i := 5) rfl))
theorem dX9_isOften_8 : decode cX9_isOften 8 = .ok (.getfield 7, 3) := of_decide_eq_true (List.all_eq_true.mp dA_X9_isOften_0 (8, .getfield 7, 3) (List.mem_of_getElem? (i := 6) rfl))
theorem dX9_isOften_11 : decode cX9_isOften 11 = .ok (.iconst 1, 1) := of_decide_eq_true (List.all_eq_true.mp dA_X9_isOften_0 (11, .iconst 1, 1) (List.mem_of_getElem? (i := 7) rfl))
theorem dX9_isOften_12 : decode cX9_isOften 12 = .ok (.iaload, 1) := of_decide_eq_true (List.all_eq_true.mp dA_X9_isOften_0 (12, .iaload, 1) (List.mem_of_getElem? (i := 8) rfl))
theorem dX9_isOften_13 : decode cX9_isOften 13 = .ok (.if_icmp .ge 84, 3) := of_decide_eq_true (List.all_eq_true.mp dA_X9_isOften_0 (13, .if_icmp .ge 84, 3) (List.mem_of_getElem? (i := 9) rfl))
theorem dX9_isOften_16 : decode cX9_isOften 16 = .ok (.bipush 38, 2) := of_decide_eq_true (List.all_eq_true.mp dA_X9_isOften_0 (16, .bipush 38, 2) (List.mem_of_getElem? (i := 10) rfl))
theorem dX9_isOften_18 : decode cX9_isOften 18 = .ok (.iconst 4, 1) := of_decide_eq_true (List.all_eq_true.mp dA_X9_isOften_0 (18, .iconst 4, 1) (List.mem_of_getElem? (i := 11) rfl))
theorem dX9_isOften_19 : decode cX9_isOften 19 = .ok (.iload 4, 2) := of_decide_eq_true (List.all_eq_true.mp dA_X9_isOften_0 (19, .iload 4, 2) (List.mem_of_getElem? (i := 12) rfl))
theorem dX9_isOften_21 : decode cX9_isOften 21 = .ok (.imul, 1) := of_decide_eq_true (List.all_eq_true.mp dA_X9_isOften_0 (21, .imul, 1) (List.mem_of_getElem? (i := 13) rfl))
theorem dX9_isOften_22 : decode cX9_isOften 22 = .ok (.iadd, 1) := of_decide_eq_true (List.all_eq_true.mp dA_X9_isOften_0 (22, .iadd, 1) (List.mem_of_getElem? (i := 14) rfl))
theorem dX9_isOften_23 : decode cX9_isOften 23 = .ok (.istore 5, 2) := of_decide_eq_true (List.all_eq_true.mp dA_X9_isOften_0 (23, .istore 5, 2) (List.mem_of_getElem? (i := 15) rfl))
theorem dX9_isOften_25 : decode cX9_isOften 25 = .ok (.iload_n 3, 1) := of_decide_eq_true (List.all_eq_true.mp dA_X9_isOften_0 (25, .iload_n 3, 1) (List.mem_of_getElem? (i := 16) rfl))
theorem dX9_isOften_26 : decode cX9_isOften 26 = .ok (.ifCond .eq 63, 3) := of_decide_eq_true (List.all_eq_true.mp dA_X9_isOften_0 (26, .ifCond .eq 63, 3) (List.mem_of_getElem? (i := 17) rfl))
theorem dX9_isOften_29 : decode cX9_isOften 29 = .ok (.aload_n 0, 1) := of_decide_eq_true (List.all_eq_true.mp dA_X9_isOften_0 (29, .aload_n 0, 1) (List.mem_of_getElem? (i := 18) rfl))
theorem dX9_isOften_30 : decode cX9_isOften 30 = .ok (.getfield 7, 3) := of_decide_eq_true (List.all_eq_true.mp dA_X9_isOften_0 (30, .getfield 7, 3) (List.mem_of_getElem? (i := 19) rfl))
theorem dX9_isOften_33 : decode cX9_isOften 33 = .ok (.iload 5, 2) := of_decide_eq_true (List.all_eq_true.mp dA_X9_isOften_0 (33, .iload 5, 2) (List.mem_of_getElem? (i := 20) rfl))
theorem dX9_isOften_35 : decode cX9_isOften 35 = .ok (.iaload, 1) := of_decide_eq_true (List.all_eq_true.mp dA_X9_isOften_0 (35, .iaload, 1) (List.mem_of_getElem? (i := 21) rfl))
theorem dX9_isOften_36 : decode cX9_isOften 36 = .ok (.iload_n 1, 1) := of_decide_eq_true (List.all_eq_true.mp dA_X9_isOften_0 (36, .iload_n 1, 1) (List.mem_of_getElem? (i := 22) rfl))
theorem dX9_isOften_37 : decode cX9_isOften 37 = .ok (.if_icmp .ne 48, 3) := of_decide_eq_true (List.all_eq_true.mp dA_X9_isOften_0 (37, .if_icmp .ne 48, 3) (List.mem_of_getElem? (i := 23) rfl))
theorem dX9_isOften_40 : decode cX9_isOften 40 = .ok (.aload_n 0, 1) := of_decide_eq_true (List.all_eq_true.mp dA_X9_isOften_0 (40, .aload_n 0, 1) (List.mem_of_getElem? (i := 24) rfl))
theorem dX9_isOften_41 : decode cX9_isOften 41 = .ok (.iload_n 1, 1) := of_decide_eq_true (List.all_eq_true.mp dA_X9_isOften_0 (41, .iload_n 1, 1) (List.mem_of_getElem? (i := 25) rfl))
theorem dX9_isOften_42 : decode cX9_isOften 42 = .ok (.aload_n 0, 1) := of_decide_eq_true (List.all_eq_true.mp dA_X9_isOften_0 (42, .aload_n 0, 1) (List.mem_of_getElem? (i := 26) rfl))
theorem dX9_isOften_43 : decode cX9_isOften 43 = .ok (.getfield 7, 3) := of_decide_eq_true (List.all_eq_true.mp dA_X9_isOften_0 (43, .getfield 7, 3) (List.mem_of_getElem? (i := 27) rfl))
theorem dX9_isOften_46 : decode cX9_isOften 46 = .ok (.iload 5, 2) := of_decide_eq_true (List.all_eq_true.mp dA_X9_isOften_0 (46, .iload 5, 2) (List.mem_of_getElem? (i := 28) rfl))
theorem dX9_isOften_48 : decode cX9_isOften 48 = .ok (.iconst 1, 1) := of_decide_eq_true (List.all_eq_true.mp dA_X9_isOften_0 (48, .iconst 1, 1) (List.mem_of_getElem? (i := 29) rfl))
theorem dX9_isOften_49 : decode cX9_isOften 49 = .ok (.iadd, 1) := of_decide_eq_true (List.all_eq_true.mp dA_X9_isOften_0 (49, .iadd, 1) (List.mem_of_getElem? (i := 30) rfl))
theorem dX9_isOften_50 : decode cX9_isOften 50 = .ok (.iaload, 1) := of_decide_eq_true (List.all_eq_true.mp dA_X9_isOften_0 (50, .iaload, 1) (List.mem_of_getElem? (i := 31) rfl))
theorem dX9_isOften_51 : decode cX9_isOften 51 = .ok (.iload_n 2, 1) := of_decide_eq_true (List.all_eq_true.mp dA_X9_isOften_0 (51, .iload_n 2, 1) (List.mem_of_getElem? (i := 32) rfl))
theorem dX9_isOften_52 : decode cX9_isOften 52 = .ok (.aload_n 0, 1) := of_decide_eq_true (List.all_eq_true.mp dA_X9_isOften_0 (52, .aload_n 0, 1) (List.mem_of_getElem? (i := 33) rfl))
theorem dX9_isOften_53 : decode cX9_isOften 53 = .ok (.getfield 7, 3) := of_decide_eq_true (List.all_eq_true.mp dA_X9_isOften_0 (53, .getfield 7, 3) (List.mem_of_getElem? (i := 34) rfl))
theorem dX9_isOften_56 : decode cX9_isOften 56 = .ok (.iload 5, 2) := of_decide_eq_true (List.all_eq_true.mp dA_X9_isOften_0 (56, .iload 5, 2) (List.mem_of_getElem? (i := 35) rfl))
theorem dX9_isOften_58 : decode cX9_isOften 58 = .ok (.iconst 2, 1) := of_decide_eq_true (List.all_eq_true.mp dA_X9_isOften_0 (58, .iconst 2, 1) (List.mem_of_getElem? (i := 36) rfl))
theorem dX9_isOften_59 : decode cX9_isOften 59 = .ok (.iadd, 1) := of_decide_eq_true (List.all_eq_true.mp dA_X9_isOften_0 (59, .iadd, 1) (List.mem_of_getElem? (i := 37) rfl))
theorem dX9_isOften_60 : decode cX9_isOften 60 = .ok (.iaload, 1) := of_decide_eq_true (List.all_eq_true.mp dA_X9_isOften_0 (60, .iaload, 1) (List.mem_of_getElem? (i := 38) rfl))
theorem dX9_isOften_61 : decode cX9_isOften 61 = .ok (.invokevirtual 163, 3) := of_decide_eq_true (List.all_eq_true.mp dA_X9_isOften_0 (61, .invokevirtual 163, 3) (List.mem_of_getElem? (i := 39) rfl))
set_option maxRecDepth 20000 in
theorem dA_X9_isOften_64 : (([(64, .aload_n 0, 1), (65, .getfield 7, 3), (68, .iload 5, 2), (70, .iconst 3, 1), (71, .iadd, 1), (72, .iaload, 1), (73, .iconst 1, 1), (74, .if_icmp .ne 7, 3), (77, .iconst 1, 1), (78, .goto 4, 3), (81, .iconst 0, 1), (82, .if_icmp .ne 7, 3), (85, .iconst 1, 1), (86, .goto 4, 3), (89, .iconst 0, 1), (90, .istore_n 3, 1), (91, .iinc 4 1, 3), (94, .goto (-89), 3), (97, .iload_n 3, 1), (98, .ireturn, 1)] : List (Nat × Instr × Nat)).all fun q => decide (decode cX9_isOften q.1 = .ok (q.2.1, q.2.2))) = true := by decide +kernel
theorem dX9_isOften_64 : decode cX9_isOften 64 = .ok (.aload_n 0, 1) := of_decide_eq_true (List.all_eq_true.mp dA_X9_isOften_64 (64, .aload_n 0, 1) (List.mem_of_getElem? (i := 0) rfl))
theorem dX9_isOften_65 : decode cX9_isOften 65 = .ok (.getfield 7, 3) := of_decide_eq_true (List.all_eq_true.mp dA_X9_isOften_64 (65, .getfield 7, 3) (List.mem_of_getElem? (i := 1) rfl))
theorem dX9_isOften_68 : decode cX9_isOften 68 = .ok (.iload 5, 2) := of_decide_eq_true (List.all_eq_true.mp dA_X9_isOften_64 (68, .iload 5, 2) (List.mem_of_getElem? (i := 2) rfl))
theorem dX9_isOften_70 : decode cX9_isOften 70 = .ok (.iconst 3, 1) := of_decide_eq_true (List.all_eq_true.mp dA_X9_isOften_64 (70, .iconst 3, 1) (List.mem_of_getElem? (i := 3) rfl))
theorem dX9_isOften_71 : decode cX9_isOften 71 = .ok (.iadd, 1) := of_decide_eq_true (List.all_eq_true.mp dA_X9_isOften_64 (71, .iadd, 1) (List.mem_of_getElem? (i := 4) rfl))
theorem dX9_isOften_72 : decode cX9_isOften 72 = .ok (.iaload, 1) := of_decide_eq_true (List.all_eq_true.mp dA_X9_isOften_64 (72, .iaload, 1) (List.mem_of_getElem? (i := 5) rfl))
theorem dX9_isOften_73 : decode cX9_isOften 73 = .ok (.iconst 1, 1) := of_decide_eq_true (List.all_eq_true.mp dA_X9_isOften_64 (73, .iconst 1, 1) (List.mem_of_getElem? (i := 6) rfl))
theorem dX9_isOften_74 : decode cX9_isOften 74 = .ok (.if_icmp .ne 7, 3) := of_decide_eq_true (List.all_eq_true.mp dA_X9_isOften_64 (74, .if_icmp .ne 7, 3) (List.mem_of_getElem? (i := 7) rfl))
theorem dX9_isOften_77 : decode cX9_isOften 77 = .ok (.iconst 1, 1) := of_decide_eq_true (List.all_eq_true.mp dA_X9_isOften_64 (77, .iconst 1, 1) (List.mem_of_getElem? (i := 8) rfl))
theorem dX9_isOften_78 : decode cX9_isOften 78 = .ok (.goto 4, 3) := of_decide_eq_true (List.all_eq_true.mp dA_X9_isOften_64 (78, .goto 4, 3) (List.mem_of_getElem? (i := 9) rfl))
theorem dX9_isOften_81 : decode cX9_isOften 81 = .ok (.iconst 0, 1) := of_decide_eq_true (List.all_eq_true.mp dA_X9_isOften_64 (81, .iconst 0, 1) (List.mem_of_getElem? (i := 10) rfl))
theorem dX9_isOften_82 : decode cX9_isOften 82 = .ok (.if_icmp .ne 7, 3) := of_decide_eq_true (List.all_eq_true.mp dA_X9_isOften_64 (82, .if_icmp .ne 7, 3) (List.mem_of_getElem? (i := 11) rfl))
theorem dX9_isOften_85 : decode cX9_isOften 85 = .ok (.iconst 1, 1) := of_decide_eq_true (List.all_eq_true.mp dA_X9_isOften_64 (85, .iconst 1, 1) (List.mem_of_getElem? (i := 12) rfl))
theorem dX9_isOften_86 : decode cX9_isOften 86 = .ok (.goto 4, 3) := of_decide_eq_true (List.all_eq_true.mp dA_X9_isOften_64 (86, .goto 4, 3) (List.mem_of_getElem? (i := 13) rfl))
theorem dX9_isOften_89 : decode cX9_isOften 89 = .ok (.iconst 0, 1) := of_decide_eq_true (List.all_eq_true.mp dA_X9_isOften_64 (89, .iconst 0, 1) (List.mem_of_getElem? (i := 14) rfl))
theorem dX9_isOften_90 : decode cX9_isOften 90 = .ok (.istore_n 3, 1) := of_decide_eq_true (List.all_eq_true.mp dA_X9_isOften_64 (90, .istore_n 3, 1) (List.mem_of_getElem? (i := 15) rfl))
theorem dX9_isOften_91 : decode cX9_isOften 91 = .ok (.iinc 4 1, 3) := of_decide_eq_true (List.all_eq_true.mp dA_X9_isOften_64 (91, .iinc 4 1, 3) (List.mem_of_getElem? (i := 16) rfl))
theorem dX9_isOften_94 : decode cX9_isOften 94 = .ok (.goto (-89), 3) := of_decide_eq_true (List.all_eq_true.mp dA_X9_isOften_64 (94, .goto (-89), 3) (List.mem_of_getElem? (i := 17) rfl))
theorem dX9_isOften_97 : decode cX9_isOften 97 = .ok (.iload_n 3, 1) := of_decide_eq_true (List.all_eq_true.mp dA_X9_isOften_64 (97, .iload_n 3, 1) (List.mem_of_getElem? (i := 18) rfl))
theorem dX9_isOften_98 : decode cX9_isOften 98 = .ok (.ireturn, 1) := of_decide_eq_true (List.all_eq_true.mp dA_X9_isOften_64 (98, .ireturn, 1) (List.mem_of_getElem? (i := 19) rfl))
set_option maxRecDepth 20000 in
theorem ggX9_often_X9_isOne : GoodIn wsX9_often wsX9_isOne := goodIn_r _ [6, 7, 8, 9, 5, 10, 11, 12, 13, 14, 37, 38, 39, 40, 41, 42, 43, 44, 45, 46, 47, 48, 49, 50, 51, 52, 53, 54, 55] (by decide +kernel) (by decide +kernel)
set_option maxRecDepth 20000 in
theorem gX9_often_X9_isOne : GoodIn wsX9_often (wsV RX9 129 RX9 yX9_isOne wsX9_isOne) := goodIn_app (goodIn_of _ (by decide +kernel)) ggX9_often_X9_isOne
set_option maxRecDepth 20000 in
theorem ggX9_often_X9_in : GoodIn wsX9_often wsX9_in := goodIn_r _ [14] (by decide +kernel) (by decide +kernel)
set_option maxRecDepth 20000 in
theorem gX9_often_X9_in : GoodIn wsX9_often (va_wsS RX9 59 yX9_in wsX9_in) := goodIn_app (goodIn_of _ (by decide +kernel)) ggX9_often_X9_in
set_option maxRecDepth 20000 in
theorem ggX9_often_X9_bad : GoodIn wsX9_often wsX9_bad := goodIn_r _ [18, 19, 37, 38, 39, 40, 41, 42, 43, 44, 45, 46, 47, 48, 49, 50, 51, 52, 53, 54, 55] (by decide +kernel) (by decide +kernel)
set_option maxRecDepth 20000 in
theorem gX9_often_X9_bad : GoodIn wsX9_often (wsV RX9 75 RX9 yX9_bad wsX9_bad) := goodIn_app (goodIn_of _ (by decide +kernel)) ggX9_often_X9_bad
set_option maxRecDepth 20000 in
theorem ggX9_often_X9_isOften : GoodIn wsX9_often wsX9_isOften := goodIn_r _ [23, 11, 24, 25, 26, 5, 27, 28, 29, 30, 31, 32, 33, 34, 35, 36, 37, 38, 39, 40, 41, 42, 43, 44, 45, 46, 47, 48, 49, 50, 51, 52, 53, 54, 55] (by decide +kernel) (by decide +kernel)
set_option maxRecDepth 20000 in
theorem gX9_often_X9_isOften : GoodIn wsX9_often (wsV RX9 169 RX9 yX9_isOften wsX9_isOften) := goodIn_app (goodIn_of _ (by decide +kernel)) ggX9_often_X9_isOften
set_option maxRecDepth 20000 in
theorem dA_X9_often_0 : (([(0, .aload_n 0, 1), (1, .iload_n 1, 1), (2, .invokevirtual 129, 3), (5, .ifCond .eq 15, 3), (8, .iload_n 2, 1), (9, .i2l, 1), (10, .lconst 0, 1), (11, .ldc2_w 167, 3), (14, .invokestatic 59, 3), (17, .ifCond .ne 10, 3), (20, .aload_n 0, 1), (21, .bipush (-2), 2), (23, .invokevirtual 75, 3), (26, .ireturn, 1), (27, .iconst 0, 1), (28, .istore_n 3, 1), (29, .iconst (-1), 1), (30, .istore 4, 2), (32, .iconst (-1), 1), (33, .istore 5, 2), (35, .iconst 0, 1), (36, .istore 6, 2), (38, .iload 6, 2), (40, .bipush 30, 2), (42, .if_icmp .gt 39, 3), (45, .aload_n 0, 1), (46, .iload_n 1, 1), (47, .iload 6, 2), (49, .invokevirtual 169, 3), (52, .ifCond .eq 23, 3), (55, .iload_n 3, 1), (56, .ifCond .ne 8, 3), (59, .iload 6, 2), (61, .goto 5, 3), (64, .iload 4, 2), (66, .istore 4, 2), (68, .iload 6, 2), (70, .istore 5, 2), (72, .iinc 3 1, 3), (75, .iinc 6 1, 3)] : List (Nat × Instr × Nat)).all fun q => decide (decode cX9_often q.1 = .ok (q.2.1, q.2.2))) = true := by decide +kernel
theorem dX9_often_0 : decode cX9_often 0 = .ok (.aload_n 0, 1) := of_decide_eq_true (List.all_eq_true.mp dA_X9_often_0 (0, .aload_n 0, 1) (List.mem_of_getElem? (i := 0) rfl))
theorem dX9_often_1 : decode cX9_often 1 = .ok (.iload_n 1, 1) := of_decide_eq_true (List.all_eq_true.mp dA_X9_often_0 (1, .iload_n 1, 1) (List.mem_of_getElem? (i := 1) rfl))
theorem dX9_often_2 : decode cX9_often 2 = .ok (.invokevirtual 129, 3) := of_decide_eq_true (List.all_eq_true.mp dA_X9_often_0 (2, .invokevirtual 129, 3) (List.mem_of_getElem? (i := 2) rfl))
theorem dX9_often_5 : decode cX9_often 5 = .ok (.ifCond .eq 15, 3) := of_decide_eq_true (List.all_eq_true.mp dA_X9_often_0 (5, .ifCond .eq 15, 3) (List.mem_of_getElem? (i := 3) rfl))
theorem dX9_often_8 : decode cX9_often 8 = .ok (.iload_n 2, 1) := of_decide_eq_true (List.all_eq_true.mp dA_X9_often_0 (8, .iload_n 2, 1) (List.mem_of_getElem? (i := 4) rfl))
theorem dX9_often_9 : decode cX9_often 9 = .ok (.i2l, 1) := of_decide_eq_true (List.all_eq_true.mp dA_X9_often_0 (9, .i2l, 1) (List.mem_of_getElem? (i := 5) rfl))
theorem dX9_often_10 : decode cX9_often 10 = .ok (.lconst 0, 1) := of_decide_eq_true (List.all_eq_true.mp dA_X9_often_0 (10, .lconst 0, 1) (List.mem_of_getElem? (i := 6) rfl))
theorem dX9_often_11 : decode cX9_often 11 = .ok (.ldc2_w 167, 3) := of_decide_eq_true (List.all_eq_true.mp dA_X9_often_0 (11, .ldc2_w 167, 3) (List.mem_of_getElem? (i := 7) rfl))
theorem dX9_often_14 : decode cX9_often 14 = .ok (.invokestatic 59, 3) := of_decide_eq_true (List.all_eq_true.mp dA_X9_often_0 (14, .invokestatic 59, 3) (List.mem_of_getElem? (i := 8) rfl))
theorem dX9_often_17 : decode cX9_often 17 = .ok (.ifCond .ne 10, 3) := of_decide_eq_true (List.all_eq_true.mp dA_X9_often_0 (17, .ifCond .ne 10, 3) (List.mem_of_getElem? (i := 9) rfl))
theorem dX9_often_20 : decode cX9_often 20 = .ok (.aload_n 0, 1) := of_decide_eq_true (List.all_eq_true.mp dA_X9_often_0 (20, .aload_n 0, 1) (List.mem_of_getElem? (i := 10) rfl))
theorem dX9_often_21 : decode cX9_often 21 = .ok (.bipush (-2), 2) := of_decide_eq_true (List.all_eq_true.mp dA_X9_often_0 (21, .bipush (-2), 2) (List.mem_of_getElem? (i := 11) rfl))
theorem dX9_often_23 : decode cX9_often 23 = .ok (.invokevirtual 75, 3) := of_decide_eq_true (List.all_eq_true.mp dA_X9_often_0 (23, .invokevirtual 75, 3) (List.mem_of_getElem? (i := 12) rfl))
theorem dX9_often_26 : decode cX9_often 26 = .ok (.ireturn, 1) := of_decide_eq_true (List.all_eq_true.mp dA_X9_often_0 (26, .ireturn, 1) (List.mem_of_getElem? (i := 13) rfl))
theorem dX9_often_27 : decode cX9_often 27 = .ok (.iconst 0, 1) := of_decide_eq_true (List.all_eq_true.mp dA_X9_often_0 (27, .iconst 0, 1) (List.mem_of_getElem? (i := 14) rfl))
theorem dX9_often_28 : decode cX9_often 28 = .ok (.istore_n 3, 1) := of_decide_eq_true (List.all_eq_true.mp dA_X9_often_0 (28, .istore_n 3, 1) (List.mem_of_getElem? (i := 15) rfl))
theorem dX9_often_29 : decode cX9_often 29 = .ok (.iconst (-1), 1) := of_decide_eq_true (List.all_eq_true.mp dA_X9_often_0 (29, .iconst (-1), 1) (List.mem_of_getElem? (i := 16) rfl))
theorem dX9_often_30 : decode cX9_often 30 = .ok (.istore 4, 2) := of_decide_eq_true (List.all_eq_true.mp dA_X9_often_0 (30, .istore 4, 2) (List.mem_of_getElem? (i := 17) rfl))
theorem dX9_often_32 : decode cX9_often 32 = .ok (.iconst (-1), 1) := of_decide_eq_true (List.all_eq_true.mp dA_X9_often_0 (32, .iconst (-1), 1) (List.mem_of_getElem? (i := 18) rfl))
theorem dX9_often_33 : decode cX9_often 33 = .ok (.istore 5, 2) := of_decide_eq_true (List.all_eq_true.mp dA_X9_often_0 (33, .istore 5, 2) (List.mem_of_getElem? (i := 19) rfl))
theorem dX9_often_35 : decode cX9_often 35 = .ok (.iconst 0, 1) := of_decide_eq_true (List.all_eq_true.mp dA_X9_often_0 (35, .iconst 0, 1) (List.mem_of_getElem? (i := 20) rfl))
theorem dX9_often_36 : decode cX9_often 36 = .ok (.istore 6, 2) := of_decide_eq_true (List.all_eq_true.mp dA_X9_often_0 (36, .istore 6, 2) (List.mem_of_getElem? (i := 21) rfl))
theorem dX9_often_38 : decode cX9_often 38 = .ok (.iload 6, 2) := of_decide_eq_true (List.all_eq_true.mp dA_X9_often_0 (38, .iload 6, 2) (List.mem_of_getElem? (i := 22) rfl))
theorem dX9_often_40 : decode cX9_often 40 = .ok (.bipush 30, 2) := of_decide_eq_true (List.all_eq_true.mp dA_X9_often_0 (40, .bipush 30, 2) (List.mem_of_getElem? (i := 23) rfl))
theorem dX9_often_42 : decode cX9_often 42 = .ok (.if_icmp .gt 39, 3) := of_decide_eq_true (List.all_eq_true.mp dA_X9_often_0 (42, .if_icmp .gt 39, 3) (List.mem_of_getElem? (i := 24) rfl))
theorem dX9_often_45 : decode cX9_often 45 = .ok (.aload_n 0, 1) := of_decide_eq_true (List.all_eq_true.mp dA_X9_often_0 (45, .aload_n 0, 1) (List.mem_of_getElem? (i := 25) rfl))
theorem dX9_often_46 : decode cX9_often 46 = .ok (.iload_n 1, 1) := of_decide_eq_true (List.all_eq_true.mp dA_X9_often_0 (46, .iload_n 1, 1) (List.mem_of_getElem? (i := 26) rfl))
theorem dX9_often_47 : decode cX9_often 47 = .ok (.iload 6, 2) := of_decide_eq_true (List.all_eq_true.mp dA_X9_often_0 (47, .iload 6, 2) (List.mem_of_getElem? (i := 27) rfl))
theorem dX9_often_49 : decode cX9_often 49 = .ok (.invokevirtual 169, 3) := of_decide_eq_true (List.all_eq_true.mp dA_X9_often_0 (49, .invokevirtual 169, 3) (List.mem_of_getElem? (i := 28) rfl))
theorem dX9_often_52 : decode cX9_often 52 = .ok (.ifCond .eq 23, 3) := of_decide_eq_true (List.all_eq_true.mp dA_X9_often_0 (52, .ifCond .eq 23, 3) (List.mem_of_getElem? (i := 29) rfl))
theorem dX9_often_55 : decode cX9_often 55 = .ok (.iload_n 3, 1) := of_decide_eq_true (List.all_eq_true.mp dA_X9_often_0 (55, .iload_n 3, 1) (List.mem_of_getElem? (i := 30) rfl))
theorem dX9_often_56 : decode cX9_often 56 = .ok (.ifCond .ne 8, 3) := of_decide_eq_true (List.all_eq_true.mp dA_X9_often_0 (56, .ifCond .ne 8, 3) (List.mem_of_getElem? (i := 31) rfl))
theorem dX9_often_59 : decode cX9_often 59 = .ok (.iload 6, 2) := of_decide_eq_true (List.all_eq_true.mp dA_X9_often_0 (59, .iload 6, 2) (List.mem_of_getElem? (i := 32) rfl))
theorem dX9_often_61 : decode cX9_often 61 = .ok (.goto 5, 3) := of_decide_eq_true (List.all_eq_true.mp dA_X9_often_0 (61, .goto 5, 3) (List.mem_of_getElem? (i := 33) rfl))
theorem dX9_often_64 : decode cX9_often 64 = .ok (.iload 4, 2) := of_decide_eq_true (List.all_eq_true.mp dA_X9_often_0 (64, .iload 4, 2) (List.mem_of_getElem? (i := 34) rfl))
theorem dX9_often_66 : decode cX9_often 66 = .ok (.istore 4, 2) := of_decide_eq_true (List.all_eq_true.mp dA_X9_often_0 (66, .istore 4, 2) (List.mem_of_getElem? (i := 35) rfl))
theorem dX9_often_68 : decode cX9_often 68 = .ok (.iload 6, 2) := of_decide_eq_true (List.all_eq_true.mp dA_X9_often_0 (68, .iload 6, 2) (List.mem_of_getElem? (i := 36) rfl))
theorem dX9_often_70 : decode cX9_often 70 = .ok (.istore 5, 2) := of_decide_eq_true (List.all_eq_true.mp dA_X9_often_0 (70, .istore 5, 2) (List.mem_of_getElem? (i := 37) rfl))
theorem dX9_often_72 : decode cX9_often 72 = .ok (.iinc 3 1, 3) := of_decide_eq_true (List.all_eq_true.mp dA_X9_often_0 (72, .iinc 3 1, 3) (List.mem_of_getElem? (i := 38) rfl))
theorem dX9_often_75 : decode cX9_often 75 = .ok (.iinc 6 1, 3) := of_decide_eq_true (List.all_eq_true.mp dA_X9_often_0 (75, .iinc 6 1, 3) (List.mem_of_getElem? (i := 39) rfl))
set_option maxRecDepth 20000 in
theorem dA_X9_often_78 : (([(78, .goto (-40), 3), (81, .iload_n 2, 1), (82, .ifCond .ne 7, 3), (85, .iload_n 3, 1), (86, .goto 15, 3), (89, .iload_n 2, 1), (90, .iconst 1, 1), (91, .if_icmp .ne 8, 3), (94, .iload 4, 2), (96, .goto 5, 3), (99, .iload 5, 2), (101, .ireturn, 1)] : List (Nat × Instr × Nat)).all fun q => decide (decode cX9_often q.1 = .ok (q.2.1, q.2.2))) = true := by decide +kernel
theorem dX9_often_78 : decode cX9_often 78 = .ok (.goto (-40), 3) := of_decide_eq_true (List.all_eq_true.mp dA_X9_often_78 (78, .goto (-40), 3) (List.mem_of_getElem? (i := 0) rfl))
theorem dX9_often_81 : decode cX9_often 81 = .ok (.iload_n 2, 1) := of_decide_eq_true (List.all_eq_true.mp dA_X9_often_78 (81, .iload_n 2, 1) (List.mem_of_getElem? (i := 1) rfl))
theorem dX9_often_82 : decode cX9_often 82 = .ok (.ifCond .ne 7, 3) := of_decide_eq_true (List.all_eq_true.mp dA_X9_often_78 (82, .ifCond .ne 7, 3) (List.mem_of_getElem? (i := 2) rfl))
theorem dX9_often_85 : decode cX9_often 85 = .ok (.iload_n 3, 1) := of_decide_eq_true (List.all_eq_true.mp dA_X9_often_78 (85, .iload_n 3, 1) (List.mem_of_getElem? (i := 3) rfl))
theorem dX9_often_86 : decode cX9_often 86 = .ok (.goto 15, 3) := of_decide_eq_true (List.all_eq_true.mp dA_X9_often_78 (86, .goto 15, 3) (List.mem_of_getElem? (i := 4) rfl))
theorem dX9_often_89 : decode cX9_often 89 = .ok (.iload_n 2, 1) := of_decide_eq_true (List.all_eq_true.mp dA_X9_often_78 (89, .iload_n 2, 1) (List.mem_of_getElem? (i := 5) rfl))
theorem dX9_often_90 : decode cX9_often 90 = .ok (.iconst 1, 1) := of_decide_eq_true (List.all_eq_true.mp dA_X9_often_78 (90, .iconst 1, 1) (List.mem_of_getElem? (i := 6) rfl))
theorem dX9_often_91 : decode cX9_often 91 = .ok (.if_icmp .ne 8, 3) := of_decide_eq_true (List.all_eq_true.mp dA_X9_often_78 (91, .if_icmp .ne 8, 3) (List.mem_of_getElem? (i := 7) rfl))
theorem dX9_often_94 : decode cX9_often 94 = .ok (.iload 4, 2) := of_decide_eq_true (List.all_eq_true.mp dA_X9_often_78 (94, .iload 4, 2) (List.mem_of_getElem? (i := 8) rfl))
theorem dX9_often_96 : decode cX9_often 96 = .ok (.goto 5, 3) := of_decide_eq_true (List.all_eq_true.mp dA_X9_often_78 (96, .goto 5, 3) (List.mem_of_getElem? (i := 9) rfl))
theorem dX9_often_99 : decode cX9_often 99 = .ok (.iload 5, 2) := of_decide_eq_true (List.all_eq_true.mp dA_X9_often_78 (99, .iload 5, 2) (List.mem_of_getElem? (i := 10) rfl))
theorem dX9_often_101 : decode cX9_often 101 = .ok (.ireturn, 1) := of_decide_eq_true (List.all_eq_true.mp dA_X9_often_78 (101, .ireturn, 1) (List.mem_of_getElem? (i := 11) rfl))
set_option maxRecDepth 20000 in
theorem ggX9_tell_X9_isOne : GoodIn wsX9_tell wsX9_isOne := goodIn_r _ [6, 7, 8, 9, 5, 10, 11, 12, 13, 14, 37, 38, 39, 40, 41, 42, 43, 44, 45, 46, 47, 48, 49, 50, 51, 52, 53, 54, 55] (by decide +kernel) (by decide +kernel)
set_option maxRecDepth 20000 in
theorem gX9_tell_X9_isOne : GoodIn wsX9_tell (wsV RX9 129 RX9 yX9_isOne wsX9_isOne) := goodIn_app (goodIn_of _ (by decide +kernel)) ggX9_tell_X9_isOne
set_option maxRecDepth 20000 in
theorem ggX9_tell_X9_bad : GoodIn wsX9_tell wsX9_bad := goodIn_r _ [18, 19, 37, 38, 39, 40, 41, 42, 43, 44, 45, 46, 47, 48, 49, 50, 51, 52, 53, 54, 55] (by decide +kernel) (by decide +kernel)
set_option maxRecDepth 20000 in
theorem gX9_tell_X9_bad : GoodIn wsX9_tell (wsV RX9 75 RX9 yX9_bad wsX9_bad) := goodIn_app (goodIn_of _ (by decide +kernel)) ggX9_tell_X9_bad
set_option maxRecDepth 20000 in
theorem ggX9_tell_X9_isInBy : GoodIn wsX9_tell wsX9_isInBy := goodIn_r _ [23, 11, 24, 25, 5, 26, 27, 28, 29, 30, 31, 32, 37, 38, 39, 40, 41, 42, 43, 44, 45, 46, 47, 48, 49, 50, 51, 52, 53, 54, 55] (by decide +kernel) (by decide +kernel)
set_option maxRecDepth 20000 in
theorem gX9_tell_X9_isInBy : GoodIn wsX9_tell (wsV RX9 163 RX9 yX9_isInBy wsX9_isInBy) := goodIn_app (goodIn_of _ (by decide +kernel)) ggX9_tell_X9_isInBy
set_option maxRecDepth 20000 in
theorem ggX9_tell_X9_isOften : GoodIn wsX9_tell wsX9_isOften := goodIn_r _ [36, 11, 20, 21, 22, 5, 23, 24, 25, 26, 27, 28, 29, 30, 31, 32, 37, 38, 39, 40, 41, 42, 43, 44, 45, 46, 47, 48, 49, 50, 51, 52, 53, 54, 55] (by decide +kernel) (by decide +kernel)
set_option maxRecDepth 20000 in
theorem gX9_tell_X9_isOften : GoodIn wsX9_tell (wsV RX9 169 RX9 yX9_isOften wsX9_isOften) := goodIn_app (goodIn_of _ (by decide +kernel)) ggX9_tell_X9_isOften
set_option maxRecDepth 20000 in
theorem dA_X9_tell_0 : (([(0, .aload_n 0, 1), (1, .iload_n 1, 1), (2, .invokevirtual 129, 3), (5, .ifCond .ne 10, 3), (8, .aload_n 0, 1), (9, .bipush (-2), 2), (11, .invokevirtual 75, 3), (14, .ireturn, 1), (15, .iconst (-1), 1), (16, .istore_n 2, 1), (17, .ldc 172, 2), (19, .istore_n 3, 1), (20, .iconst 0, 1), (21, .istore 4, 2), (23, .iload 4, 2), (25, .bipush 14, 2), (27, .if_icmp .ge 168, 3), (30, .iconst 0, 1), (31, .istore 5, 2), (33, .iload 5, 2), (35, .bipush 10, 2), (37, .if_icmp .ge 152, 3), (40, .iconst 0, 1), (41, .istore 6, 2), (43, .iconst 0, 1), (44, .istore 7, 2), (46, .iconst 0, 1), (47, .istore 8, 2), (49, .iload 8, 2), (51, .bipush 30, 2), (53, .if_icmp .gt 72, 3), (56, .aload_n 0, 1), (57, .iload_n 1, 1), (58, .iload 5, 2), (60, .iload 8, 2), (62, .iload 4, 2), (64, .invokevirtual 163, 3), (67, .istore 9, 2), (69, .iload 6, 2), (71, .aload_n 0, 1)] : List (Nat × Instr × Nat)).all fun q => decide (decode cX9_tell q.1 = .ok (q.2.1, q.2.2))) = true := by decide +kernel
theorem dX9_tell_0 : decode cX9_tell 0 = .ok (.aload_n 0, 1) := of_decide_eq_true (List.all_eq_true.mp dA_X9_tell_0 (0, .aload_n 0, 1) (List.mem_of_getElem? (i := 0) rfl))
theorem dX9_tell_1 : decode cX9_tell 1 = .ok (.iload_n 1, 1) := of_decide_eq_true (List.all_eq_true.mp dA_X9_tell_0 (1, .iload_n 1, 1) (List.mem_of_getElem? (i := 1) rfl))
theorem dX9_tell_2 : decode cX9_tell 2 = .ok (.invokevirtual 129, 3) := of_decide_eq_true (List.all_eq_true.mp dA_X9_tell_0 (2, .invokevirtual 129, 3) (List.mem_of_getElem? (i := 2) rfl))
theorem dX9_tell_5 : decode cX9_tell 5 = .ok (.ifCond .ne 10, 3) := of_decide_eq_true (List.all_eq_true.mp dA_X9_tell_0 (5, .ifCond .ne 10, 3) (List.mem_of_getElem? (i := 3) rfl))
theorem dX9_tell_8 : decode cX9_tell 8 = .ok (.aload_n 0, 1) := of_decide_eq_true (List.all_eq_true.mp dA_X9_tell_0 (8, .aload_n 0, 1) (List.mem_of_getElem? (i := 4) rfl))
theorem dX9_tell_9 : decode cX9_tell 9 = .ok (.bipush (-2), 2) := of_decide_eq_true (List.all_eq_true.mp dA_X9_tell_0 (9, .bipush (-2), 2) (List.mem_of_getElem? (i := 5) rfl))
theorem dX9_tell_11 : decode cX9_tell 11 = .ok (.invokevirtual 75, 3) := of_decide_eq_true (List.all_eq_true.mp dA_X9_tell_0 (11, .invokevirtual 75, 3) (List.mem_of_getElem? (i := 6) rfl))
theorem dX9_tell_14 : decode cX9_tell 14 = .ok (.ireturn, 1) := of_decide_eq_true (List.all_eq_true.mp dA_X9_tell_0 (14, .ireturn, 1) (List.mem_of_getElem? (i := 7) rfl))
theorem dX9_tell_15 : decode cX9_tell 15 = .ok (.iconst (-1), 1) := of_decide_eq_true (List.all_eq_true.mp dA_X9_tell_0 (15, .iconst (-1), 1) (List.mem_of_getElem? (i := 8) rfl))
theorem dX9_tell_16 : decode cX9_tell 16 = .ok (.istore_n 2, 1) := of_decide_eq_true (List.all_eq_true.mp dA_X9_tell_0 (16, .istore_n 2, 1) (List.mem_of_getElem? (i := 9) rfl))
theorem dX9_tell_17 : decode cX9_tell 17 = .ok (.ldc 172, 2) := of_decide_eq_true (List.all_eq_true.mp dA_X9_tell_0 (17, .ldc 172, 2) (List.mem_of_getElem? (i := 10) rfl))
theorem dX9_tell_19 : decode cX9_tell 19 = .ok (.istore_n 3, 1) := of_decide_eq_true (List.all_eq_true.mp dA_X9_tell_0 (19, .istore_n 3, 1) (List.mem_of_getElem? (i := 11) rfl))
theorem dX9_tell_20 : decode cX9_tell 20 = .ok (.iconst 0, 1) := of_decide_eq_true (List.all_eq_true.mp dA_X9_tell_0 (20, .iconst 0, 1) (List.mem_of_getElem? (i := 12) rfl))
theorem dX9_tell_21 : decode cX9_tell 21 = .ok (.istore 4, 2) := of_decide_eq_true (List.all_eq_true.mp dA_X9_tell_0 (21, .istore 4, 2) (List.mem_of_getElem? (i := 13) rfl))
theorem dX9_tell_23 : decode cX9_tell 23 = .ok (.iload 4, 2) := of_decide_eq_true (List.all_eq_true.mp dA_X9_tell_0 (23, .iload 4, 2) (List.mem_of_getElem? (i := 14) rfl))
theorem dX9_tell_25 : decode cX9_tell 25 = .ok (.bipush 14, 2) := of_decide_eq_true (List.all_eq_true.mp dA_X9_tell_0 (25, .bipush 14, 2) (List.mem_of_getElem? (i := 15) rfl))
theorem dX9_tell_27 : decode cX9_tell 27 = .ok (.if_icmp .ge 168, 3) := of_decide_eq_true (List.all_eq_true.mp dA_X9_tell_0 (27, .if_icmp .ge 168, 3) (List.mem_of_getElem? (i := 16) rfl))
theorem dX9_tell_30 : decode cX9_tell 30 = .ok (.iconst 0, 1) := of_decide_eq_true (List.all_eq_true.mp dA_X9_tell_0 (30, .iconst 0, 1) (List.mem_of_getElem? (i := 17) rfl))
theorem dX9_tell_31 : decode cX9_tell 31 = .ok (.istore 5, 2) := of_decide_eq_true (List.all_eq_true.mp dA_X9_tell_0 (31, .istore 5, 2) (List.mem_of_getElem? (i := 18) rfl))
theorem dX9_tell_33 : decode cX9_tell 33 = .ok (.iload 5, 2) := of_decide_eq_true (List.all_eq_true.mp dA_X9_tell_0 (33, .iload 5, 2) (List.mem_of_getElem? (i := 19) rfl))
theorem dX9_tell_35 : decode cX9_tell 35 = .ok (.bipush 10, 2) := of_decide_eq_true (List.all_eq_true.mp dA_X9_tell_0 (35, .bipush 10, 2) (List.mem_of_getElem? (i := 20) rfl))
theorem dX9_tell_37 : decode cX9_tell 37 = .ok (.if_icmp .ge 152, 3) := of_decide_eq_true (List.all_eq_true.mp dA_X9_tell_0 (37, .if_icmp .ge 152, 3) (List.mem_of_getElem? (i := 21) rfl))
theorem dX9_tell_40 : decode cX9_tell 40 = .ok (.iconst 0, 1) := of_decide_eq_true (List.all_eq_true.mp dA_X9_tell_0 (40, .iconst 0, 1) (List.mem_of_getElem? (i := 22) rfl))
theorem dX9_tell_41 : decode cX9_tell 41 = .ok (.istore 6, 2) := of_decide_eq_true (List.all_eq_true.mp dA_X9_tell_0 (41, .istore 6, 2) (List.mem_of_getElem? (i := 23) rfl))
theorem dX9_tell_43 : decode cX9_tell 43 = .ok (.iconst 0, 1) := of_decide_eq_true (List.all_eq_true.mp dA_X9_tell_0 (43, .iconst 0, 1) (List.mem_of_getElem? (i := 24) rfl))
theorem dX9_tell_44 : decode cX9_tell 44 = .ok (.istore 7, 2) := of_decide_eq_true (List.all_eq_true.mp dA_X9_tell_0 (44, .istore 7, 2) (List.mem_of_getElem? (i := 25) rfl))
theorem dX9_tell_46 : decode cX9_tell 46 = .ok (.iconst 0, 1) := of_decide_eq_true (List.all_eq_true.mp dA_X9_tell_0 (46, .iconst 0, 1) (List.mem_of_getElem? (i := 26) rfl))
theorem dX9_tell_47 : decode cX9_tell 47 = .ok (.istore 8, 2) := of_decide_eq_true (List.all_eq_true.mp dA_X9_tell_0 (47, .istore 8, 2) (List.mem_of_getElem? (i := 27) rfl))
theorem dX9_tell_49 : decode cX9_tell 49 = .ok (.iload 8, 2) := of_decide_eq_true (List.all_eq_true.mp dA_X9_tell_0 (49, .iload 8, 2) (List.mem_of_getElem? (i := 28) rfl))
theorem dX9_tell_51 : decode cX9_tell 51 = .ok (.bipush 30, 2) := of_decide_eq_true (List.all_eq_true.mp dA_X9_tell_0 (51, .bipush 30, 2) (List.mem_of_getElem? (i := 29) rfl))
theorem dX9_tell_53 : decode cX9_tell 53 = .ok (.if_icmp .gt 72, 3) := of_decide_eq_true (List.all_eq_true.mp dA_X9_tell_0 (53, .if_icmp .gt 72, 3) (List.mem_of_getElem? (i := 30) rfl))
theorem dX9_tell_56 : decode cX9_tell 56 = .ok (.aload_n 0, 1) := of_decide_eq_true (List.all_eq_true.mp dA_X9_tell_0 (56, .aload_n 0, 1) (List.mem_of_getElem? (i := 31) rfl))
theorem dX9_tell_57 : decode cX9_tell 57 = .ok (.iload_n 1, 1) := of_decide_eq_true (List.all_eq_true.mp dA_X9_tell_0 (57, .iload_n 1, 1) (List.mem_of_getElem? (i := 32) rfl))
theorem dX9_tell_58 : decode cX9_tell 58 = .ok (.iload 5, 2) := of_decide_eq_true (List.all_eq_true.mp dA_X9_tell_0 (58, .iload 5, 2) (List.mem_of_getElem? (i := 33) rfl))
theorem dX9_tell_60 : decode cX9_tell 60 = .ok (.iload 8, 2) := of_decide_eq_true (List.all_eq_true.mp dA_X9_tell_0 (60, .iload 8, 2) (List.mem_of_getElem? (i := 34) rfl))
theorem dX9_tell_62 : decode cX9_tell 62 = .ok (.iload 4, 2) := of_decide_eq_true (List.all_eq_true.mp dA_X9_tell_0 (62, .iload 4, 2) (List.mem_of_getElem? (i := 35) rfl))
theorem dX9_tell_64 : decode cX9_tell 64 = .ok (.invokevirtual 163, 3) := of_decide_eq_true (List.all_eq_true.mp dA_X9_tell_0 (64, .invokevirtual 163, 3) (List.mem_of_getElem? (i := 36) rfl))
theorem dX9_tell_67 : decode cX9_tell 67 = .ok (.istore 9, 2) := of_decide_eq_true (List.all_eq_true.mp dA_X9_tell_0 (67, .istore 9, 2) (List.mem_of_getElem? (i := 37) rfl))
theorem dX9_tell_69 : decode cX9_tell 69 = .ok (.iload 6, 2) := of_decide_eq_true (List.all_eq_true.mp dA_X9_tell_0 (69, .iload 6, 2) (List.mem_of_getElem? (i := 38) rfl))
theorem dX9_tell_71 : decode cX9_tell 71 = .ok (.aload_n 0, 1) := of_decide_eq_true (List.all_eq_true.mp dA_X9_tell_0 (71, .aload_n 0, 1) (List.mem_of_getElem? (i := 39) rfl))
set_option maxRecDepth 20000 in
theorem dA_X9_tell_72 : (([(72, .iload_n 1, 1), (73, .iload 8, 2), (75, .invokevirtual 169, 3), (78, .ifCond .eq 12, 3), (81, .iload 9, 2), (83, .ifCond .eq 7, 3), (86, .iconst 1, 1), (87, .goto 4, 3), (90, .iconst 0, 1), (91, .iadd, 1), (92, .istore 6, 2), (94, .iload 7, 2), (96, .aload_n 0, 1), (97, .iload_n 1, 1), (98, .iload 8, 2), (100, .invokevirtual 169, 3), (103, .ifCond .eq 12, 3), (106, .iload 9, 2), (108, .ifCond .ne 7, 3), (111, .iconst 1, 1), (112, .goto 4, 3), (115, .iconst 0, 1), (116, .iadd, 1), (117, .istore 7, 2), (119, .iinc 8 1, 3), (122, .goto (-73), 3), (125, .iload 6, 2), (127, .iload 7, 2), (129, .if_icmp .le 8, 3), (132, .iload 6, 2), (134, .goto 5, 3), (137, .iload 7, 2), (139, .istore 8, 2), (141, .iload 8, 2), (143, .ifCond .le 20, 3), (146, .iload 8, 2), (148, .iload_n 3, 1), (149, .if_icmp .ge 14, 3), (152, .bipush 10, 2), (154, .iload 4, 2)] : List (Nat × Instr × Nat)).all fun q => decide (decode cX9_tell q.1 = .ok (q.2.1, q.2.2))) = true := by decide +kernel
theorem dX9_tell_72 : decode cX9_tell 72 = .ok (.iload_n 1, 1) := of_decide_eq_true (List.all_eq_true.mp dA_X9_tell_72 (72, .iload_n 1, 1) (List.mem_of_getElem? (i := 0) rfl))
theorem dX9_tell_73 : decode cX9_tell 73 = .ok (.iload 8, 2) := of_decide_eq_true (List.all_eq_true.mp dA_X9_tell_72 (73, .iload 8, 2) (List.mem_of_getElem? (i := 1) rfl))
theorem dX9_tell_75 : decode cX9_tell 75 = .ok (.invokevirtual 169, 3) := of_decide_eq_true (List.all_eq_true.mp dA_X9_tell_72 (75, .invokevirtual 169, 3) (List.mem_of_getElem? (i := 2) rfl))
theorem dX9_tell_78 : decode cX9_tell 78 = .ok (.ifCond .eq 12, 3) := of_decide_eq_true (List.all_eq_true.mp dA_X9_tell_72 (78, .ifCond .eq 12, 3) (List.mem_of_getElem? (i := 3) rfl))
theorem dX9_tell_81 : decode cX9_tell 81 = .ok (.iload 9, 2) := of_decide_eq_true (List.all_eq_true.mp dA_X9_tell_72 (81, .iload 9, 2) (List.mem_of_getElem? (i := 4) rfl))
theorem dX9_tell_83 : decode cX9_tell 83 = .ok (.ifCond .eq 7, 3) := of_decide_eq_true (List.all_eq_true.mp dA_X9_tell_72 (83, .ifCond .eq 7, 3) (List.mem_of_getElem? (i := 5) rfl))
theorem dX9_tell_86 : decode cX9_tell 86 = .ok (.iconst 1, 1) := of_decide_eq_true (List.all_eq_true.mp dA_X9_tell_72 (86, .iconst 1, 1) (List.mem_of_getElem? (i := 6) rfl))
theorem dX9_tell_87 : decode cX9_tell 87 = .ok (.goto 4, 3) := of_decide_eq_true (List.all_eq_true.mp dA_X9_tell_72 (87, .goto 4, 3) (List.mem_of_getElem? (i := 7) rfl))
theorem dX9_tell_90 : decode cX9_tell 90 = .ok (.iconst 0, 1) := of_decide_eq_true (List.all_eq_true.mp dA_X9_tell_72 (90, .iconst 0, 1) (List.mem_of_getElem? (i := 8) rfl))
theorem dX9_tell_91 : decode cX9_tell 91 = .ok (.iadd, 1) := of_decide_eq_true (List.all_eq_true.mp dA_X9_tell_72 (91, .iadd, 1) (List.mem_of_getElem? (i := 9) rfl))
theorem dX9_tell_92 : decode cX9_tell 92 = .ok (.istore 6, 2) := of_decide_eq_true (List.all_eq_true.mp dA_X9_tell_72 (92, .istore 6, 2) (List.mem_of_getElem? (i := 10) rfl))
theorem dX9_tell_94 : decode cX9_tell 94 = .ok (.iload 7, 2) := of_decide_eq_true (List.all_eq_true.mp dA_X9_tell_72 (94, .iload 7, 2) (List.mem_of_getElem? (i := 11) rfl))
theorem dX9_tell_96 : decode cX9_tell 96 = .ok (.aload_n 0, 1) := of_decide_eq_true (List.all_eq_true.mp dA_X9_tell_72 (96, .aload_n 0, 1) (List.mem_of_getElem? (i := 12) rfl))
theorem dX9_tell_97 : decode cX9_tell 97 = .ok (.iload_n 1, 1) := of_decide_eq_true (List.all_eq_true.mp dA_X9_tell_72 (97, .iload_n 1, 1) (List.mem_of_getElem? (i := 13) rfl))
theorem dX9_tell_98 : decode cX9_tell 98 = .ok (.iload 8, 2) := of_decide_eq_true (List.all_eq_true.mp dA_X9_tell_72 (98, .iload 8, 2) (List.mem_of_getElem? (i := 14) rfl))
theorem dX9_tell_100 : decode cX9_tell 100 = .ok (.invokevirtual 169, 3) := of_decide_eq_true (List.all_eq_true.mp dA_X9_tell_72 (100, .invokevirtual 169, 3) (List.mem_of_getElem? (i := 15) rfl))
theorem dX9_tell_103 : decode cX9_tell 103 = .ok (.ifCond .eq 12, 3) := of_decide_eq_true (List.all_eq_true.mp dA_X9_tell_72 (103, .ifCond .eq 12, 3) (List.mem_of_getElem? (i := 16) rfl))
theorem dX9_tell_106 : decode cX9_tell 106 = .ok (.iload 9, 2) := of_decide_eq_true (List.all_eq_true.mp dA_X9_tell_72 (106, .iload 9, 2) (List.mem_of_getElem? (i := 17) rfl))
theorem dX9_tell_108 : decode cX9_tell 108 = .ok (.ifCond .ne 7, 3) := of_decide_eq_true (List.all_eq_true.mp dA_X9_tell_72 (108, .ifCond .ne 7, 3) (List.mem_of_getElem? (i := 18) rfl))
theorem dX9_tell_111 : decode cX9_tell 111 = .ok (.iconst 1, 1) := of_decide_eq_true (List.all_eq_true.mp dA_X9_tell_72 (111, .iconst 1, 1) (List.mem_of_getElem? (i := 19) rfl))
theorem dX9_tell_112 : decode cX9_tell 112 = .ok (.goto 4, 3) := of_decide_eq_true (List.all_eq_true.mp dA_X9_tell_72 (112, .goto 4, 3) (List.mem_of_getElem? (i := 20) rfl))
theorem dX9_tell_115 : decode cX9_tell 115 = .ok (.iconst 0, 1) := of_decide_eq_true (List.all_eq_true.mp dA_X9_tell_72 (115, .iconst 0, 1) (List.mem_of_getElem? (i := 21) rfl))
theorem dX9_tell_116 : decode cX9_tell 116 = .ok (.iadd, 1) := of_decide_eq_true (List.all_eq_true.mp dA_X9_tell_72 (116, .iadd, 1) (List.mem_of_getElem? (i := 22) rfl))
theorem dX9_tell_117 : decode cX9_tell 117 = .ok (.istore 7, 2) := of_decide_eq_true (List.all_eq_true.mp dA_X9_tell_72 (117, .istore 7, 2) (List.mem_of_getElem? (i := 23) rfl))
theorem dX9_tell_119 : decode cX9_tell 119 = .ok (.iinc 8 1, 3) := of_decide_eq_true (List.all_eq_true.mp dA_X9_tell_72 (119, .iinc 8 1, 3) (List.mem_of_getElem? (i := 24) rfl))
theorem dX9_tell_122 : decode cX9_tell 122 = .ok (.goto (-73), 3) := of_decide_eq_true (List.all_eq_true.mp dA_X9_tell_72 (122, .goto (-73), 3) (List.mem_of_getElem? (i := 25) rfl))
theorem dX9_tell_125 : decode cX9_tell 125 = .ok (.iload 6, 2) := of_decide_eq_true (List.all_eq_true.mp dA_X9_tell_72 (125, .iload 6, 2) (List.mem_of_getElem? (i := 26) rfl))
theorem dX9_tell_127 : decode cX9_tell 127 = .ok (.iload 7, 2) := of_decide_eq_true (List.all_eq_true.mp dA_X9_tell_72 (127, .iload 7, 2) (List.mem_of_getElem? (i := 27) rfl))
theorem dX9_tell_129 : decode cX9_tell 129 = .ok (.if_icmp .le 8, 3) := of_decide_eq_true (List.all_eq_true.mp dA_X9_tell_72 (129, .if_icmp .le 8, 3) (List.mem_of_getElem? (i := 28) rfl))
theorem dX9_tell_132 : decode cX9_tell 132 = .ok (.iload 6, 2) := of_decide_eq_true (List.all_eq_true.mp dA_X9_tell_72 (132, .iload 6, 2) (List.mem_of_getElem? (i := 29) rfl))
theorem dX9_tell_134 : decode cX9_tell 134 = .ok (.goto 5, 3) := of_decide_eq_true (List.all_eq_true.mp dA_X9_tell_72 (134, .goto 5, 3) (List.mem_of_getElem? (i := 30) rfl))
theorem dX9_tell_137 : decode cX9_tell 137 = .ok (.iload 7, 2) := of_decide_eq_true (List.all_eq_true.mp dA_X9_tell_72 (137, .iload 7, 2) (List.mem_of_getElem? (i := 31) rfl))
theorem dX9_tell_139 : decode cX9_tell 139 = .ok (.istore 8, 2) := of_decide_eq_true (List.all_eq_true.mp dA_X9_tell_72 (139, .istore 8, 2) (List.mem_of_getElem? (i := 32) rfl))
theorem dX9_tell_141 : decode cX9_tell 141 = .ok (.iload 8, 2) := of_decide_eq_true (List.all_eq_true.mp dA_X9_tell_72 (141, .iload 8, 2) (List.mem_of_getElem? (i := 33) rfl))
theorem dX9_tell_143 : decode cX9_tell 143 = .ok (.ifCond .le 20, 3) := of_decide_eq_true (List.all_eq_true.mp dA_X9_tell_72 (143, .ifCond .le 20, 3) (List.mem_of_getElem? (i := 34) rfl))
theorem dX9_tell_146 : decode cX9_tell 146 = .ok (.iload 8, 2) := of_decide_eq_true (List.all_eq_true.mp dA_X9_tell_72 (146, .iload 8, 2) (List.mem_of_getElem? (i := 35) rfl))
theorem dX9_tell_148 : decode cX9_tell 148 = .ok (.iload_n 3, 1) := of_decide_eq_true (List.all_eq_true.mp dA_X9_tell_72 (148, .iload_n 3, 1) (List.mem_of_getElem? (i := 36) rfl))
theorem dX9_tell_149 : decode cX9_tell 149 = .ok (.if_icmp .ge 14, 3) := of_decide_eq_true (List.all_eq_true.mp dA_X9_tell_72 (149, .if_icmp .ge 14, 3) (List.mem_of_getElem? (i := 37) rfl))
theorem dX9_tell_152 : decode cX9_tell 152 = .ok (.bipush 10, 2) := of_decide_eq_true (List.all_eq_true.mp dA_X9_tell_72 (152, .bipush 10, 2) (List.mem_of_getElem? (i := 38) rfl))
theorem dX9_tell_154 : decode cX9_tell 154 = .ok (.iload 4, 2) := of_decide_eq_true (List.all_eq_true.mp dA_X9_tell_72 (154, .iload 4, 2) (List.mem_of_getElem? (i := 39) rfl))
set_option maxRecDepth 20000 in
theorem dA_X9_tell_156 : (([(156, .imul, 1), (157, .iload 5, 2), (159, .iadd, 1), (160, .goto 4, 3), (163, .iload_n 2, 1), (164, .istore_n 2, 1), (165, .iload 8, 2), (167, .ifCond .le 14, 3), (170, .iload 8, 2), (172, .iload_n 3, 1), (173, .if_icmp .ge 8, 3), (176, .iload 8, 2), (178, .goto 4, 3), (181, .iload_n 3, 1), (182, .istore_n 3, 1), (183, .iinc 5 1, 3), (186, .goto (-153), 3), (189, .iinc 4 1, 3), (192, .goto (-169), 3), (195, .iload_n 2, 1), (196, .ireturn, 1)] : List (Nat × Instr × Nat)).all fun q => decide (decode cX9_tell q.1 = .ok (q.2.1, q.2.2))) = true := by decide +kernel
theorem dX9_tell_156 : decode cX9_tell 156 = .ok (.imul, 1) := of_decide_eq_true (List.all_eq_true.mp dA_X9_tell_156 (156, .imul, 1) (List.mem_of_getElem? (i := 0) rfl))
theorem dX9_tell_157 : decode cX9_tell 157 = .ok (.iload 5, 2) := of_decide_eq_true (List.all_eq_true.mp dA_X9_tell_156 (157, .iload 5, 2) (List.mem_of_getElem? (i := 1) rfl))
theorem dX9_tell_159 : decode cX9_tell 159 = .ok (.iadd, 1) := of_decide_eq_true (List.all_eq_true.mp dA_X9_tell_156 (159, .iadd, 1) (List.mem_of_getElem? (i := 2) rfl))
theorem dX9_tell_160 : decode cX9_tell 160 = .ok (.goto 4, 3) := of_decide_eq_true (List.all_eq_true.mp dA_X9_tell_156 (160, .goto 4, 3) (List.mem_of_getElem? (i := 3) rfl))
theorem dX9_tell_163 : decode cX9_tell 163 = .ok (.iload_n 2, 1) := of_decide_eq_true (List.all_eq_true.mp dA_X9_tell_156 (163, .iload_n 2, 1) (List.mem_of_getElem? (i := 4) rfl))
theorem dX9_tell_164 : decode cX9_tell 164 = .ok (.istore_n 2, 1) := of_decide_eq_true (List.all_eq_true.mp dA_X9_tell_156 (164, .istore_n 2, 1) (List.mem_of_getElem? (i := 5) rfl))
theorem dX9_tell_165 : decode cX9_tell 165 = .ok (.iload 8, 2) := of_decide_eq_true (List.all_eq_true.mp dA_X9_tell_156 (165, .iload 8, 2) (List.mem_of_getElem? (i := 6) rfl))
theorem dX9_tell_167 : decode cX9_tell 167 = .ok (.ifCond .le 14, 3) := of_decide_eq_true (List.all_eq_true.mp dA_X9_tell_156 (167, .ifCond .le 14, 3) (List.mem_of_getElem? (i := 7) rfl))
theorem dX9_tell_170 : decode cX9_tell 170 = .ok (.iload 8, 2) := of_decide_eq_true (List.all_eq_true.mp dA_X9_tell_156 (170, .iload 8, 2) (List.mem_of_getElem? (i := 8) rfl))
theorem dX9_tell_172 : decode cX9_tell 172 = .ok (.iload_n 3, 1) := of_decide_eq_true (List.all_eq_true.mp dA_X9_tell_156 (172, .iload_n 3, 1) (List.mem_of_getElem? (i := 9) rfl))
theorem dX9_tell_173 : decode cX9_tell 173 = .ok (.if_icmp .ge 8, 3) := of_decide_eq_true (List.all_eq_true.mp dA_X9_tell_156 (173, .if_icmp .ge 8, 3) (List.mem_of_getElem? (i := 10) rfl))
theorem dX9_tell_176 : decode cX9_tell 176 = .ok (.iload 8, 2) := of_decide_eq_true (List.all_eq_true.mp dA_X9_tell_156 (176, .iload 8, 2) (List.mem_of_getElem? (i := 11) rfl))
theorem dX9_tell_178 : decode cX9_tell 178 = .ok (.goto 4, 3) := of_decide_eq_true (List.all_eq_true.mp dA_X9_tell_156 (178, .goto 4, 3) (List.mem_of_getElem? (i := 12) rfl))
theorem dX9_tell_181 : decode cX9_tell 181 = .ok (.iload_n 3, 1) := of_decide_eq_true (List.all_eq_true.mp dA_X9_tell_156 (181, .iload_n 3, 1) (List.mem_of_getElem? (i := 13) rfl))
theorem dX9_tell_182 : decode cX9_tell 182 = .ok (.istore_n 3, 1) := of_decide_eq_true (List.all_eq_true.mp dA_X9_tell_156 (182, .istore_n 3, 1) (List.mem_of_getElem? (i := 14) rfl))
theorem dX9_tell_183 : decode cX9_tell 183 = .ok (.iinc 5 1, 3) := of_decide_eq_true (List.all_eq_true.mp dA_X9_tell_156 (183, .iinc 5 1, 3) (List.mem_of_getElem? (i := 15) rfl))
theorem dX9_tell_186 : decode cX9_tell 186 = .ok (.goto (-153), 3) := of_decide_eq_true (List.all_eq_true.mp dA_X9_tell_156 (186, .goto (-153), 3) (List.mem_of_getElem? (i := 16) rfl))
theorem dX9_tell_189 : decode cX9_tell 189 = .ok (.iinc 4 1, 3) := of_decide_eq_true (List.all_eq_true.mp dA_X9_tell_156 (189, .iinc 4 1, 3) (List.mem_of_getElem? (i := 17) rfl))
theorem dX9_tell_192 : decode cX9_tell 192 = .ok (.goto (-169), 3) := of_decide_eq_true (List.all_eq_true.mp dA_X9_tell_156 (192, .goto (-169), 3) (List.mem_of_getElem? (i := 18) rfl))
theorem dX9_tell_195 : decode cX9_tell 195 = .ok (.iload_n 2, 1) := of_decide_eq_true (List.all_eq_true.mp dA_X9_tell_156 (195, .iload_n 2, 1) (List.mem_of_getElem? (i := 19) rfl))
theorem dX9_tell_196 : decode cX9_tell 196 = .ok (.ireturn, 1) := of_decide_eq_true (List.all_eq_true.mp dA_X9_tell_156 (196, .ireturn, 1) (List.mem_of_getElem? (i := 20) rfl))
set_option maxRecDepth 20000 in
theorem ggX9_note_X9_isOne : GoodIn wsX9_note wsX9_isOne := goodIn_r _ [9, 10, 11, 12, 8, 13, 4, 14, 15, 16, 29, 30, 31, 32, 33, 34, 35, 36, 37, 38, 39, 40, 41, 42, 43, 44, 45, 46, 47] (by decide +kernel) (by decide +kernel)
set_option maxRecDepth 20000 in
theorem gX9_note_X9_isOne : GoodIn wsX9_note (wsV RX9 129 RX9 yX9_isOne wsX9_isOne) := goodIn_app (goodIn_of _ (by decide +kernel)) ggX9_note_X9_isOne
set_option maxRecDepth 20000 in
theorem ggX9_note_X9_isWord : GoodIn wsX9_note wsX9_isWord := goodIn_r _ [19, 1, 14, 15, 8, 16] (by decide +kernel) (by decide +kernel)
set_option maxRecDepth 20000 in
theorem gX9_note_X9_isWord : GoodIn wsX9_note (va_wsS RX9 82 yX9_isWord wsX9_isWord) := goodIn_app (goodIn_of _ (by decide +kernel)) ggX9_note_X9_isWord
set_option maxRecDepth 20000 in
theorem ggX9_note_X9_in : GoodIn wsX9_note wsX9_in := goodIn_r _ [16] (by decide +kernel) (by decide +kernel)
set_option maxRecDepth 20000 in
theorem gX9_note_X9_in : GoodIn wsX9_note (va_wsS RX9 59 yX9_in wsX9_in) := goodIn_app (goodIn_of _ (by decide +kernel)) ggX9_note_X9_in
set_option maxRecDepth 20000 in
theorem ggX9_note_X9_bad : GoodIn wsX9_note wsX9_bad := goodIn_r _ [23, 24, 29, 30, 31, 32, 33, 34, 35, 36, 37, 38, 39, 40, 41, 42, 43, 44, 45, 46, 47] (by decide +kernel) (by decide +kernel)
set_option maxRecDepth 20000 in
theorem gX9_note_X9_bad : GoodIn wsX9_note (wsV RX9 75 RX9 yX9_bad wsX9_bad) := goodIn_app (goodIn_of _ (by decide +kernel)) ggX9_note_X9_bad
set_option maxRecDepth 20000 in
theorem ggX9_note_X9_full : GoodIn wsX9_note wsX9_full := goodIn_r _ [28, 24, 29, 30, 31, 32, 33, 34, 35, 36, 37, 38, 39, 40, 41, 42, 43, 44, 45, 46, 47] (by decide +kernel) (by decide +kernel)
set_option maxRecDepth 20000 in
theorem gX9_note_X9_full : GoodIn wsX9_note (wsV RX9 85 RX9 yX9_full wsX9_full) := goodIn_app (goodIn_of _ (by decide +kernel)) ggX9_note_X9_full
set_option maxRecDepth 20000 in
theorem dA_X9_note_0 : (([(0, .aload_n 0, 1), (1, .iload_n 1, 1), (2, .invokevirtual 129, 3), (5, .ifCond .eq 48, 3), (8, .iload_n 2, 1), (9, .invokestatic 82, 3), (12, .ifCond .eq 41, 3), (15, .iload_n 3, 1), (16, .i2l, 1), (17, .lconst 0, 1), (18, .ldc2_w 65, 3), (21, .invokestatic 59, 3), (24, .ifCond .eq 29, 3), (27, .iload 4, 2), (29, .i2l, 1), (30, .lconst 0, 1), (31, .ldc2_w 141, 3), (34, .invokestatic 59, 3), (37, .ifCond .eq 16, 3), (40, .iload 5, 2), (42, .i2l, 1), (43, .lconst 0, 1), (44, .ldc2_w 173, 3), (47, .invokestatic 59, 3), (50, .ifCond .ne 10, 3), (53, .aload_n 0, 1), (54, .bipush (-2), 2), (56, .invokevirtual 75, 3), (59, .ireturn, 1), (60, .aload_n 0, 1), (61, .getfield 7, 3), (64, .iconst 2, 1), (65, .iaload, 1), (66, .bipush 6, 2), (68, .if_icmp .ne 8, 3), (71, .aload_n 0, 1), (72, .invokevirtual 85, 3), (75, .ireturn, 1), (76, .bipush 58, 2), (78, .iconst 5, 1)] : List (Nat × Instr × Nat)).all fun q => decide (decode cX9_note q.1 = .ok (q.2.1, q.2.2))) = true := by decide +kernel
theorem dX9_note_0 : decode cX9_note 0 = .ok (.aload_n 0, 1) := of_decide_eq_true (List.all_eq_true.mp dA_X9_note_0 (0, .aload_n 0, 1) (List.mem_of_getElem? (i := 0) rfl))
theorem dX9_note_1 : decode cX9_note 1 = .ok (.iload_n 1, 1) := of_decide_eq_true (List.all_eq_true.mp dA_X9_note_0 (1, .iload_n 1, 1) (List.mem_of_getElem? (i := 1) rfl))
theorem dX9_note_2 : decode cX9_note 2 = .ok (.invokevirtual 129, 3) := of_decide_eq_true (List.all_eq_true.mp dA_X9_note_0 (2, .invokevirtual 129, 3) (List.mem_of_getElem? (i := 2) rfl))
theorem dX9_note_5 : decode cX9_note 5 = .ok (.ifCond .eq 48, 3) := of_decide_eq_true (List.all_eq_true.mp dA_X9_note_0 (5, .ifCond .eq 48, 3) (List.mem_of_getElem? (i := 3) rfl))
theorem dX9_note_8 : decode cX9_note 8 = .ok (.iload_n 2, 1) := of_decide_eq_true (List.all_eq_true.mp dA_X9_note_0 (8, .iload_n 2, 1) (List.mem_of_getElem? (i := 4) rfl))
theorem dX9_note_9 : decode cX9_note 9 = .ok (.invokestatic 82, 3) := of_decide_eq_true (List.all_eq_true.mp dA_X9_note_0 (9, .invokestatic 82, 3) (List.mem_of_getElem? (i := 5) rfl))
theorem dX9_note_12 : decode cX9_note 12 = .ok (.ifCond .eq 41, 3) := of_decide_eq_true (List.all_eq_true.mp dA_X9_note_0 (12, .ifCond .eq 41, 3) (List.mem_of_getElem? (i := 6) rfl))
theorem dX9_note_15 : decode cX9_note 15 = .ok (.iload_n 3, 1) := of_decide_eq_true (List.all_eq_true.mp dA_X9_note_0 (15, .iload_n 3, 1) (List.mem_of_getElem? (i := 7) rfl))
theorem dX9_note_16 : decode cX9_note 16 = .ok (.i2l, 1) := of_decide_eq_true (List.all_eq_true.mp dA_X9_note_0 (16, .i2l, 1) (List.mem_of_getElem? (i := 8) rfl))
theorem dX9_note_17 : decode cX9_note 17 = .ok (.lconst 0, 1) := of_decide_eq_true (List.all_eq_true.mp dA_X9_note_0 (17, .lconst 0, 1) (List.mem_of_getElem? (i := 9) rfl))
theorem dX9_note_18 : decode cX9_note 18 = .ok (.ldc2_w 65, 3) := of_decide_eq_true (List.all_eq_true.mp dA_X9_note_0 (18, .ldc2_w 65, 3) (List.mem_of_getElem? (i := 10) rfl))
theorem dX9_note_21 : decode cX9_note 21 = .ok (.invokestatic 59, 3) := of_decide_eq_true (List.all_eq_true.mp dA_X9_note_0 (21, .invokestatic 59, 3) (List.mem_of_getElem? (i := 11) rfl))
theorem dX9_note_24 : decode cX9_note 24 = .ok (.ifCond .eq 29, 3) := of_decide_eq_true (List.all_eq_true.mp dA_X9_note_0 (24, .ifCond .eq 29, 3) (List.mem_of_getElem? (i := 12) rfl))
theorem dX9_note_27 : decode cX9_note 27 = .ok (.iload 4, 2) := of_decide_eq_true (List.all_eq_true.mp dA_X9_note_0 (27, .iload 4, 2) (List.mem_of_getElem? (i := 13) rfl))
theorem dX9_note_29 : decode cX9_note 29 = .ok (.i2l, 1) := of_decide_eq_true (List.all_eq_true.mp dA_X9_note_0 (29, .i2l, 1) (List.mem_of_getElem? (i := 14) rfl))
theorem dX9_note_30 : decode cX9_note 30 = .ok (.lconst 0, 1) := of_decide_eq_true (List.all_eq_true.mp dA_X9_note_0 (30, .lconst 0, 1) (List.mem_of_getElem? (i := 15) rfl))
theorem dX9_note_31 : decode cX9_note 31 = .ok (.ldc2_w 141, 3) := of_decide_eq_true (List.all_eq_true.mp dA_X9_note_0 (31, .ldc2_w 141, 3) (List.mem_of_getElem? (i := 16) rfl))
theorem dX9_note_34 : decode cX9_note 34 = .ok (.invokestatic 59, 3) := of_decide_eq_true (List.all_eq_true.mp dA_X9_note_0 (34, .invokestatic 59, 3) (List.mem_of_getElem? (i := 17) rfl))
theorem dX9_note_37 : decode cX9_note 37 = .ok (.ifCond .eq 16, 3) := of_decide_eq_true (List.all_eq_true.mp dA_X9_note_0 (37, .ifCond .eq 16, 3) (List.mem_of_getElem? (i := 18) rfl))
theorem dX9_note_40 : decode cX9_note 40 = .ok (.iload 5, 2) := of_decide_eq_true (List.all_eq_true.mp dA_X9_note_0 (40, .iload 5, 2) (List.mem_of_getElem? (i := 19) rfl))
theorem dX9_note_42 : decode cX9_note 42 = .ok (.i2l, 1) := of_decide_eq_true (List.all_eq_true.mp dA_X9_note_0 (42, .i2l, 1) (List.mem_of_getElem? (i := 20) rfl))
theorem dX9_note_43 : decode cX9_note 43 = .ok (.lconst 0, 1) := of_decide_eq_true (List.all_eq_true.mp dA_X9_note_0 (43, .lconst 0, 1) (List.mem_of_getElem? (i := 21) rfl))
theorem dX9_note_44 : decode cX9_note 44 = .ok (.ldc2_w 173, 3) := of_decide_eq_true (List.all_eq_true.mp dA_X9_note_0 (44, .ldc2_w 173, 3) (List.mem_of_getElem? (i := 22) rfl))
theorem dX9_note_47 : decode cX9_note 47 = .ok (.invokestatic 59, 3) := of_decide_eq_true (List.all_eq_true.mp dA_X9_note_0 (47, .invokestatic 59, 3) (List.mem_of_getElem? (i := 23) rfl))
theorem dX9_note_50 : decode cX9_note 50 = .ok (.ifCond .ne 10, 3) := of_decide_eq_true (List.all_eq_true.mp dA_X9_note_0 (50, .ifCond .ne 10, 3) (List.mem_of_getElem? (i := 24) rfl))
theorem dX9_note_53 : decode cX9_note 53 = .ok (.aload_n 0, 1) := of_decide_eq_true (List.all_eq_true.mp dA_X9_note_0 (53, .aload_n 0, 1) (List.mem_of_getElem? (i := 25) rfl))
theorem dX9_note_54 : decode cX9_note 54 = .ok (.bipush (-2), 2) := of_decide_eq_true (List.all_eq_true.mp dA_X9_note_0 (54, .bipush (-2), 2) (List.mem_of_getElem? (i := 26) rfl))
theorem dX9_note_56 : decode cX9_note 56 = .ok (.invokevirtual 75, 3) := of_decide_eq_true (List.all_eq_true.mp dA_X9_note_0 (56, .invokevirtual 75, 3) (List.mem_of_getElem? (i := 27) rfl))
theorem dX9_note_59 : decode cX9_note 59 = .ok (.ireturn, 1) := of_decide_eq_true (List.all_eq_true.mp dA_X9_note_0 (59, .ireturn, 1) (List.mem_of_getElem? (i := 28) rfl))
theorem dX9_note_60 : decode cX9_note 60 = .ok (.aload_n 0, 1) := of_decide_eq_true (List.all_eq_true.mp dA_X9_note_0 (60, .aload_n 0, 1) (List.mem_of_getElem? (i := 29) rfl))
theorem dX9_note_61 : decode cX9_note 61 = .ok (.getfield 7, 3) := of_decide_eq_true (List.all_eq_true.mp dA_X9_note_0 (61, .getfield 7, 3) (List.mem_of_getElem? (i := 30) rfl))
theorem dX9_note_64 : decode cX9_note 64 = .ok (.iconst 2, 1) := of_decide_eq_true (List.all_eq_true.mp dA_X9_note_0 (64, .iconst 2, 1) (List.mem_of_getElem? (i := 31) rfl))
theorem dX9_note_65 : decode cX9_note 65 = .ok (.iaload, 1) := of_decide_eq_true (List.all_eq_true.mp dA_X9_note_0 (65, .iaload, 1) (List.mem_of_getElem? (i := 32) rfl))
theorem dX9_note_66 : decode cX9_note 66 = .ok (.bipush 6, 2) := of_decide_eq_true (List.all_eq_true.mp dA_X9_note_0 (66, .bipush 6, 2) (List.mem_of_getElem? (i := 33) rfl))
theorem dX9_note_68 : decode cX9_note 68 = .ok (.if_icmp .ne 8, 3) := of_decide_eq_true (List.all_eq_true.mp dA_X9_note_0 (68, .if_icmp .ne 8, 3) (List.mem_of_getElem? (i := 34) rfl))
theorem dX9_note_71 : decode cX9_note 71 = .ok (.aload_n 0, 1) := of_decide_eq_true (List.all_eq_true.mp dA_X9_note_0 (71, .aload_n 0, 1) (List.mem_of_getElem? (i := 35) rfl))
theorem dX9_note_72 : decode cX9_note 72 = .ok (.invokevirtual 85, 3) := of_decide_eq_true (List.all_eq_true.mp dA_X9_note_0 (72, .invokevirtual 85, 3) (List.mem_of_getElem? (i := 36) rfl))
theorem dX9_note_75 : decode cX9_note 75 = .ok (.ireturn, 1) := of_decide_eq_true (List.all_eq_true.mp dA_X9_note_0 (75, .ireturn, 1) (List.mem_of_getElem? (i := 37) rfl))
theorem dX9_note_76 : decode cX9_note 76 = .ok (.bipush 58, 2) := of_decide_eq_true (List.all_eq_true.mp dA_X9_note_0 (76, .bipush 58, 2) (List.mem_of_getElem? (i := 38) rfl))
theorem dX9_note_78 : decode cX9_note 78 = .ok (.iconst 5, 1) := of_decide_eq_true (List.all_eq_true.mp dA_X9_note_0 (78, .iconst 5, 1) (List.mem_of_getElem? (i := 39) rfl))
set_option maxRecDepth 20000 in
theorem dA_X9_note_79 : (([(79, .aload_n 0, 1), (80, .getfield 7, 3), (83, .iconst 2, 1), (84, .iaload, 1), (85, .imul, 1), (86, .iadd, 1), (87, .istore 6, 2), (89, .aload_n 0, 1), (90, .getfield 7, 3), (93, .iload 6, 2), (95, .iload_n 1, 1), (96, .iastore, 1), (97, .aload_n 0, 1), (98, .getfield 7, 3), (101, .iload 6, 2), (103, .iconst 1, 1), (104, .iadd, 1), (105, .iload_n 2, 1), (106, .iastore, 1), (107, .aload_n 0, 1), (108, .getfield 7, 3), (111, .iload 6, 2), (113, .iconst 2, 1), (114, .iadd, 1), (115, .iload_n 3, 1), (116, .iastore, 1), (117, .aload_n 0, 1), (118, .getfield 7, 3), (121, .iload 6, 2), (123, .iconst 3, 1), (124, .iadd, 1), (125, .iload 4, 2), (127, .iastore, 1), (128, .aload_n 0, 1), (129, .getfield 7, 3), (132, .iload 6, 2), (134, .iconst 4, 1), (135, .iadd, 1), (136, .iload 5, 2), (138, .iastore, 1)] : List (Nat × Instr × Nat)).all fun q => decide (decode cX9_note q.1 = .ok (q.2.1, q.2.2))) = true := by decide +kernel
theorem dX9_note_79 : decode cX9_note 79 = .ok (.aload_n 0, 1) := of_decide_eq_true (List.all_eq_true.mp dA_X9_note_79 (79, .aload_n 0, 1) (List.mem_of_getElem? (i := 0) rfl))
theorem dX9_note_80 : decode cX9_note 80 = .ok (.getfield 7, 3) := of_decide_eq_true (List.all_eq_true.mp dA_X9_note_79 (80, .getfield 7, 3) (List.mem_of_getElem? (i := 1) rfl))
theorem dX9_note_83 : decode cX9_note 83 = .ok (.iconst 2, 1) := of_decide_eq_true (List.all_eq_true.mp dA_X9_note_79 (83, .iconst 2, 1) (List.mem_of_getElem? (i := 2) rfl))
theorem dX9_note_84 : decode cX9_note 84 = .ok (.iaload, 1) := of_decide_eq_true (List.all_eq_true.mp dA_X9_note_79 (84, .iaload, 1) (List.mem_of_getElem? (i := 3) rfl))
theorem dX9_note_85 : decode cX9_note 85 = .ok (.imul, 1) := of_decide_eq_true (List.all_eq_true.mp dA_X9_note_79 (85, .imul, 1) (List.mem_of_getElem? (i := 4) rfl))
theorem dX9_note_86 : decode cX9_note 86 = .ok (.iadd, 1) := of_decide_eq_true (List.all_eq_true.mp dA_X9_note_79 (86, .iadd, 1) (List.mem_of_getElem? (i := 5) rfl))
theorem dX9_note_87 : decode cX9_note 87 = .ok (.istore 6, 2) := of_decide_eq_true (List.all_eq_true.mp dA_X9_note_79 (87, .istore 6, 2) (List.mem_of_getElem? (i := 6) rfl))
theorem dX9_note_89 : decode cX9_note 89 = .ok (.aload_n 0, 1) := of_decide_eq_true (List.all_eq_true.mp dA_X9_note_79 (89, .aload_n 0, 1) (List.mem_of_getElem? (i := 7) rfl))
theorem dX9_note_90 : decode cX9_note 90 = .ok (.getfield 7, 3) := of_decide_eq_true (List.all_eq_true.mp dA_X9_note_79 (90, .getfield 7, 3) (List.mem_of_getElem? (i := 8) rfl))
theorem dX9_note_93 : decode cX9_note 93 = .ok (.iload 6, 2) := of_decide_eq_true (List.all_eq_true.mp dA_X9_note_79 (93, .iload 6, 2) (List.mem_of_getElem? (i := 9) rfl))
theorem dX9_note_95 : decode cX9_note 95 = .ok (.iload_n 1, 1) := of_decide_eq_true (List.all_eq_true.mp dA_X9_note_79 (95, .iload_n 1, 1) (List.mem_of_getElem? (i := 10) rfl))
theorem dX9_note_96 : decode cX9_note 96 = .ok (.iastore, 1) := of_decide_eq_true (List.all_eq_true.mp dA_X9_note_79 (96, .iastore, 1) (List.mem_of_getElem? (i := 11) rfl))
theorem dX9_note_97 : decode cX9_note 97 = .ok (.aload_n 0, 1) := of_decide_eq_true (List.all_eq_true.mp dA_X9_note_79 (97, .aload_n 0, 1) (List.mem_of_getElem? (i := 12) rfl))
theorem dX9_note_98 : decode cX9_note 98 = .ok (.getfield 7, 3) := of_decide_eq_true (List.all_eq_true.mp dA_X9_note_79 (98, .getfield 7, 3) (List.mem_of_getElem? (i := 13) rfl))
theorem dX9_note_101 : decode cX9_note 101 = .ok (.iload 6, 2) := of_decide_eq_true (List.all_eq_true.mp dA_X9_note_79 (101, .iload 6, 2) (List.mem_of_getElem? (i := 14) rfl))
theorem dX9_note_103 : decode cX9_note 103 = .ok (.iconst 1, 1) := of_decide_eq_true (List.all_eq_true.mp dA_X9_note_79 (103, .iconst 1, 1) (List.mem_of_getElem? (i := 15) rfl))
theorem dX9_note_104 : decode cX9_note 104 = .ok (.iadd, 1) := of_decide_eq_true (List.all_eq_true.mp dA_X9_note_79 (104, .iadd, 1) (List.mem_of_getElem? (i := 16) rfl))
theorem dX9_note_105 : decode cX9_note 105 = .ok (.iload_n 2, 1) := of_decide_eq_true (List.all_eq_true.mp dA_X9_note_79 (105, .iload_n 2, 1) (List.mem_of_getElem? (i := 17) rfl))
theorem dX9_note_106 : decode cX9_note 106 = .ok (.iastore, 1) := of_decide_eq_true (List.all_eq_true.mp dA_X9_note_79 (106, .iastore, 1) (List.mem_of_getElem? (i := 18) rfl))
theorem dX9_note_107 : decode cX9_note 107 = .ok (.aload_n 0, 1) := of_decide_eq_true (List.all_eq_true.mp dA_X9_note_79 (107, .aload_n 0, 1) (List.mem_of_getElem? (i := 19) rfl))
theorem dX9_note_108 : decode cX9_note 108 = .ok (.getfield 7, 3) := of_decide_eq_true (List.all_eq_true.mp dA_X9_note_79 (108, .getfield 7, 3) (List.mem_of_getElem? (i := 20) rfl))
theorem dX9_note_111 : decode cX9_note 111 = .ok (.iload 6, 2) := of_decide_eq_true (List.all_eq_true.mp dA_X9_note_79 (111, .iload 6, 2) (List.mem_of_getElem? (i := 21) rfl))
theorem dX9_note_113 : decode cX9_note 113 = .ok (.iconst 2, 1) := of_decide_eq_true (List.all_eq_true.mp dA_X9_note_79 (113, .iconst 2, 1) (List.mem_of_getElem? (i := 22) rfl))
theorem dX9_note_114 : decode cX9_note 114 = .ok (.iadd, 1) := of_decide_eq_true (List.all_eq_true.mp dA_X9_note_79 (114, .iadd, 1) (List.mem_of_getElem? (i := 23) rfl))
theorem dX9_note_115 : decode cX9_note 115 = .ok (.iload_n 3, 1) := of_decide_eq_true (List.all_eq_true.mp dA_X9_note_79 (115, .iload_n 3, 1) (List.mem_of_getElem? (i := 24) rfl))
theorem dX9_note_116 : decode cX9_note 116 = .ok (.iastore, 1) := of_decide_eq_true (List.all_eq_true.mp dA_X9_note_79 (116, .iastore, 1) (List.mem_of_getElem? (i := 25) rfl))
theorem dX9_note_117 : decode cX9_note 117 = .ok (.aload_n 0, 1) := of_decide_eq_true (List.all_eq_true.mp dA_X9_note_79 (117, .aload_n 0, 1) (List.mem_of_getElem? (i := 26) rfl))
theorem dX9_note_118 : decode cX9_note 118 = .ok (.getfield 7, 3) := of_decide_eq_true (List.all_eq_true.mp dA_X9_note_79 (118, .getfield 7, 3) (List.mem_of_getElem? (i := 27) rfl))
theorem dX9_note_121 : decode cX9_note 121 = .ok (.iload 6, 2) := of_decide_eq_true (List.all_eq_true.mp dA_X9_note_79 (121, .iload 6, 2) (List.mem_of_getElem? (i := 28) rfl))
theorem dX9_note_123 : decode cX9_note 123 = .ok (.iconst 3, 1) := of_decide_eq_true (List.all_eq_true.mp dA_X9_note_79 (123, .iconst 3, 1) (List.mem_of_getElem? (i := 29) rfl))
theorem dX9_note_124 : decode cX9_note 124 = .ok (.iadd, 1) := of_decide_eq_true (List.all_eq_true.mp dA_X9_note_79 (124, .iadd, 1) (List.mem_of_getElem? (i := 30) rfl))
theorem dX9_note_125 : decode cX9_note 125 = .ok (.iload 4, 2) := of_decide_eq_true (List.all_eq_true.mp dA_X9_note_79 (125, .iload 4, 2) (List.mem_of_getElem? (i := 31) rfl))
theorem dX9_note_127 : decode cX9_note 127 = .ok (.iastore, 1) := of_decide_eq_true (List.all_eq_true.mp dA_X9_note_79 (127, .iastore, 1) (List.mem_of_getElem? (i := 32) rfl))
theorem dX9_note_128 : decode cX9_note 128 = .ok (.aload_n 0, 1) := of_decide_eq_true (List.all_eq_true.mp dA_X9_note_79 (128, .aload_n 0, 1) (List.mem_of_getElem? (i := 33) rfl))
theorem dX9_note_129 : decode cX9_note 129 = .ok (.getfield 7, 3) := of_decide_eq_true (List.all_eq_true.mp dA_X9_note_79 (129, .getfield 7, 3) (List.mem_of_getElem? (i := 34) rfl))
theorem dX9_note_132 : decode cX9_note 132 = .ok (.iload 6, 2) := of_decide_eq_true (List.all_eq_true.mp dA_X9_note_79 (132, .iload 6, 2) (List.mem_of_getElem? (i := 35) rfl))
theorem dX9_note_134 : decode cX9_note 134 = .ok (.iconst 4, 1) := of_decide_eq_true (List.all_eq_true.mp dA_X9_note_79 (134, .iconst 4, 1) (List.mem_of_getElem? (i := 36) rfl))
theorem dX9_note_135 : decode cX9_note 135 = .ok (.iadd, 1) := of_decide_eq_true (List.all_eq_true.mp dA_X9_note_79 (135, .iadd, 1) (List.mem_of_getElem? (i := 37) rfl))
theorem dX9_note_136 : decode cX9_note 136 = .ok (.iload 5, 2) := of_decide_eq_true (List.all_eq_true.mp dA_X9_note_79 (136, .iload 5, 2) (List.mem_of_getElem? (i := 38) rfl))
theorem dX9_note_138 : decode cX9_note 138 = .ok (.iastore, 1) := of_decide_eq_true (List.all_eq_true.mp dA_X9_note_79 (138, .iastore, 1) (List.mem_of_getElem? (i := 39) rfl))
set_option maxRecDepth 20000 in
theorem dA_X9_note_139 : (([(139, .aload_n 0, 1), (140, .getfield 7, 3), (143, .iconst 2, 1), (144, .dup2, 1), (145, .iaload, 1), (146, .iconst 1, 1), (147, .iadd, 1), (148, .iastore, 1), (149, .aload_n 0, 1), (150, .getfield 7, 3), (153, .iconst 2, 1), (154, .iaload, 1), (155, .ireturn, 1)] : List (Nat × Instr × Nat)).all fun q => decide (decode cX9_note q.1 = .ok (q.2.1, q.2.2))) = true := by decide +kernel
theorem dX9_note_139 : decode cX9_note 139 = .ok (.aload_n 0, 1) := of_decide_eq_true (List.all_eq_true.mp dA_X9_note_139 (139, .aload_n 0, 1) (List.mem_of_getElem? (i := 0) rfl))
theorem dX9_note_140 : decode cX9_note 140 = .ok (.getfield 7, 3) := of_decide_eq_true (List.all_eq_true.mp dA_X9_note_139 (140, .getfield 7, 3) (List.mem_of_getElem? (i := 1) rfl))
theorem dX9_note_143 : decode cX9_note 143 = .ok (.iconst 2, 1) := of_decide_eq_true (List.all_eq_true.mp dA_X9_note_139 (143, .iconst 2, 1) (List.mem_of_getElem? (i := 2) rfl))
theorem dX9_note_144 : decode cX9_note 144 = .ok (.dup2, 1) := of_decide_eq_true (List.all_eq_true.mp dA_X9_note_139 (144, .dup2, 1) (List.mem_of_getElem? (i := 3) rfl))
theorem dX9_note_145 : decode cX9_note 145 = .ok (.iaload, 1) := of_decide_eq_true (List.all_eq_true.mp dA_X9_note_139 (145, .iaload, 1) (List.mem_of_getElem? (i := 4) rfl))
theorem dX9_note_146 : decode cX9_note 146 = .ok (.iconst 1, 1) := of_decide_eq_true (List.all_eq_true.mp dA_X9_note_139 (146, .iconst 1, 1) (List.mem_of_getElem? (i := 5) rfl))
theorem dX9_note_147 : decode cX9_note 147 = .ok (.iadd, 1) := of_decide_eq_true (List.all_eq_true.mp dA_X9_note_139 (147, .iadd, 1) (List.mem_of_getElem? (i := 6) rfl))
theorem dX9_note_148 : decode cX9_note 148 = .ok (.iastore, 1) := of_decide_eq_true (List.all_eq_true.mp dA_X9_note_139 (148, .iastore, 1) (List.mem_of_getElem? (i := 7) rfl))
theorem dX9_note_149 : decode cX9_note 149 = .ok (.aload_n 0, 1) := of_decide_eq_true (List.all_eq_true.mp dA_X9_note_139 (149, .aload_n 0, 1) (List.mem_of_getElem? (i := 8) rfl))
theorem dX9_note_150 : decode cX9_note 150 = .ok (.getfield 7, 3) := of_decide_eq_true (List.all_eq_true.mp dA_X9_note_139 (150, .getfield 7, 3) (List.mem_of_getElem? (i := 9) rfl))
theorem dX9_note_153 : decode cX9_note 153 = .ok (.iconst 2, 1) := of_decide_eq_true (List.all_eq_true.mp dA_X9_note_139 (153, .iconst 2, 1) (List.mem_of_getElem? (i := 10) rfl))
theorem dX9_note_154 : decode cX9_note 154 = .ok (.iaload, 1) := of_decide_eq_true (List.all_eq_true.mp dA_X9_note_139 (154, .iaload, 1) (List.mem_of_getElem? (i := 11) rfl))
theorem dX9_note_155 : decode cX9_note 155 = .ok (.ireturn, 1) := of_decide_eq_true (List.all_eq_true.mp dA_X9_note_139 (155, .ireturn, 1) (List.mem_of_getElem? (i := 12) rfl))
set_option maxRecDepth 20000 in
theorem ggX9_mark_X9_isWet : GoodIn wsX9_mark wsX9_isWet := goodIn_r _ [8, 9, 10, 11, 7, 12] (by decide +kernel) (by decide +kernel)
set_option maxRecDepth 20000 in
theorem gX9_mark_X9_isWet : GoodIn wsX9_mark (va_wsS RX9 79 yX9_isWet wsX9_isWet) := goodIn_app (goodIn_of _ (by decide +kernel)) ggX9_mark_X9_isWet
set_option maxRecDepth 20000 in
theorem ggX9_mark_X9_in : GoodIn wsX9_mark wsX9_in := goodIn_r _ [12] (by decide +kernel) (by decide +kernel)
set_option maxRecDepth 20000 in
theorem gX9_mark_X9_in : GoodIn wsX9_mark (va_wsS RX9 59 yX9_in wsX9_in) := goodIn_app (goodIn_of _ (by decide +kernel)) ggX9_mark_X9_in
set_option maxRecDepth 20000 in
theorem ggX9_mark_X9_bad : GoodIn wsX9_mark wsX9_bad := goodIn_r _ [16, 17, 22, 23, 24, 25, 26, 27, 28, 29, 30, 31, 32, 33, 34, 35, 36, 37, 38, 39, 40] (by decide +kernel) (by decide +kernel)
set_option maxRecDepth 20000 in
theorem gX9_mark_X9_bad : GoodIn wsX9_mark (wsV RX9 75 RX9 yX9_bad wsX9_bad) := goodIn_app (goodIn_of _ (by decide +kernel)) ggX9_mark_X9_bad
set_option maxRecDepth 20000 in
theorem ggX9_mark_X9_full : GoodIn wsX9_mark wsX9_full := goodIn_r _ [21, 17, 22, 23, 24, 25, 26, 27, 28, 29, 30, 31, 32, 33, 34, 35, 36, 37, 38, 39, 40] (by decide +kernel) (by decide +kernel)
set_option maxRecDepth 20000 in
theorem gX9_mark_X9_full : GoodIn wsX9_mark (wsV RX9 85 RX9 yX9_full wsX9_full) := goodIn_app (goodIn_of _ (by decide +kernel)) ggX9_mark_X9_full
set_option maxRecDepth 20000 in
theorem dA_X9_mark_0 : (([(0, .iload_n 1, 1), (1, .invokestatic 79, 3), (4, .ifCond .eq 29, 3), (7, .iload_n 2, 1), (8, .i2l, 1), (9, .lconst 0, 1), (10, .ldc2_w 65, 3), (13, .invokestatic 59, 3), (16, .ifCond .eq 17, 3), (19, .iload_n 3, 1), (20, .i2l, 1), (21, .ldc2_w 175, 3), (24, .ldc2_w 141, 3), (27, .invokestatic 59, 3), (30, .ifCond .ne 10, 3), (33, .aload_n 0, 1), (34, .bipush (-2), 2), (36, .invokevirtual 75, 3), (39, .ireturn, 1), (40, .aload_n 0, 1), (41, .getfield 7, 3), (44, .iconst 3, 1), (45, .iaload, 1), (46, .bipush 6, 2), (48, .if_icmp .ne 8, 3), (51, .aload_n 0, 1), (52, .invokevirtual 85, 3), (55, .ireturn, 1), (56, .bipush 88, 2), (58, .iconst 3, 1), (59, .aload_n 0, 1), (60, .getfield 7, 3), (63, .iconst 3, 1), (64, .iaload, 1), (65, .imul, 1), (66, .iadd, 1), (67, .istore 4, 2), (69, .aload_n 0, 1), (70, .getfield 7, 3), (73, .iload 4, 2)] : List (Nat × Instr × Nat)).all fun q => decide (decode cX9_mark q.1 = .ok (q.2.1, q.2.2))) = true := by decide +kernel
theorem dX9_mark_0 : decode cX9_mark 0 = .ok (.iload_n 1, 1) := of_decide_eq_true (List.all_eq_true.mp dA_X9_mark_0 (0, .iload_n 1, 1) (List.mem_of_getElem? (i := 0) rfl))
theorem dX9_mark_1 : decode cX9_mark 1 = .ok (.invokestatic 79, 3) := of_decide_eq_true (List.all_eq_true.mp dA_X9_mark_0 (1, .invokestatic 79, 3) (List.mem_of_getElem? (i := 1) rfl))
theorem dX9_mark_4 : decode cX9_mark 4 = .ok (.ifCond .eq 29, 3) := of_decide_eq_true (List.all_eq_true.mp dA_X9_mark_0 (4, .ifCond .eq 29, 3) (List.mem_of_getElem? (i := 2) rfl))
theorem dX9_mark_7 : decode cX9_mark 7 = .ok (.iload_n 2, 1) := of_decide_eq_true (List.all_eq_true.mp dA_X9_mark_0 (7, .iload_n 2, 1) (List.mem_of_getElem? (i := 3) rfl))
theorem dX9_mark_8 : decode cX9_mark 8 = .ok (.i2l, 1) := of_decide_eq_true (List.all_eq_true.mp dA_X9_mark_0 (8, .i2l, 1) (List.mem_of_getElem? (i := 4) rfl))
theorem dX9_mark_9 : decode cX9_mark 9 = .ok (.lconst 0, 1) := of_decide_eq_true (List.all_eq_true.mp dA_X9_mark_0 (9, .lconst 0, 1) (List.mem_of_getElem? (i := 5) rfl))
theorem dX9_mark_10 : decode cX9_mark 10 = .ok (.ldc2_w 65, 3) := of_decide_eq_true (List.all_eq_true.mp dA_X9_mark_0 (10, .ldc2_w 65, 3) (List.mem_of_getElem? (i := 6) rfl))
theorem dX9_mark_13 : decode cX9_mark 13 = .ok (.invokestatic 59, 3) := of_decide_eq_true (List.all_eq_true.mp dA_X9_mark_0 (13, .invokestatic 59, 3) (List.mem_of_getElem? (i := 7) rfl))
theorem dX9_mark_16 : decode cX9_mark 16 = .ok (.ifCond .eq 17, 3) := of_decide_eq_true (List.all_eq_true.mp dA_X9_mark_0 (16, .ifCond .eq 17, 3) (List.mem_of_getElem? (i := 8) rfl))
theorem dX9_mark_19 : decode cX9_mark 19 = .ok (.iload_n 3, 1) := of_decide_eq_true (List.all_eq_true.mp dA_X9_mark_0 (19, .iload_n 3, 1) (List.mem_of_getElem? (i := 9) rfl))
theorem dX9_mark_20 : decode cX9_mark 20 = .ok (.i2l, 1) := of_decide_eq_true (List.all_eq_true.mp dA_X9_mark_0 (20, .i2l, 1) (List.mem_of_getElem? (i := 10) rfl))
theorem dX9_mark_21 : decode cX9_mark 21 = .ok (.ldc2_w 175, 3) := of_decide_eq_true (List.all_eq_true.mp dA_X9_mark_0 (21, .ldc2_w 175, 3) (List.mem_of_getElem? (i := 11) rfl))
theorem dX9_mark_24 : decode cX9_mark 24 = .ok (.ldc2_w 141, 3) := of_decide_eq_true (List.all_eq_true.mp dA_X9_mark_0 (24, .ldc2_w 141, 3) (List.mem_of_getElem? (i := 12) rfl))
theorem dX9_mark_27 : decode cX9_mark 27 = .ok (.invokestatic 59, 3) := of_decide_eq_true (List.all_eq_true.mp dA_X9_mark_0 (27, .invokestatic 59, 3) (List.mem_of_getElem? (i := 13) rfl))
theorem dX9_mark_30 : decode cX9_mark 30 = .ok (.ifCond .ne 10, 3) := of_decide_eq_true (List.all_eq_true.mp dA_X9_mark_0 (30, .ifCond .ne 10, 3) (List.mem_of_getElem? (i := 14) rfl))
theorem dX9_mark_33 : decode cX9_mark 33 = .ok (.aload_n 0, 1) := of_decide_eq_true (List.all_eq_true.mp dA_X9_mark_0 (33, .aload_n 0, 1) (List.mem_of_getElem? (i := 15) rfl))
theorem dX9_mark_34 : decode cX9_mark 34 = .ok (.bipush (-2), 2) := of_decide_eq_true (List.all_eq_true.mp dA_X9_mark_0 (34, .bipush (-2), 2) (List.mem_of_getElem? (i := 16) rfl))
theorem dX9_mark_36 : decode cX9_mark 36 = .ok (.invokevirtual 75, 3) := of_decide_eq_true (List.all_eq_true.mp dA_X9_mark_0 (36, .invokevirtual 75, 3) (List.mem_of_getElem? (i := 17) rfl))
theorem dX9_mark_39 : decode cX9_mark 39 = .ok (.ireturn, 1) := of_decide_eq_true (List.all_eq_true.mp dA_X9_mark_0 (39, .ireturn, 1) (List.mem_of_getElem? (i := 18) rfl))
theorem dX9_mark_40 : decode cX9_mark 40 = .ok (.aload_n 0, 1) := of_decide_eq_true (List.all_eq_true.mp dA_X9_mark_0 (40, .aload_n 0, 1) (List.mem_of_getElem? (i := 19) rfl))
theorem dX9_mark_41 : decode cX9_mark 41 = .ok (.getfield 7, 3) := of_decide_eq_true (List.all_eq_true.mp dA_X9_mark_0 (41, .getfield 7, 3) (List.mem_of_getElem? (i := 20) rfl))
theorem dX9_mark_44 : decode cX9_mark 44 = .ok (.iconst 3, 1) := of_decide_eq_true (List.all_eq_true.mp dA_X9_mark_0 (44, .iconst 3, 1) (List.mem_of_getElem? (i := 21) rfl))
theorem dX9_mark_45 : decode cX9_mark 45 = .ok (.iaload, 1) := of_decide_eq_true (List.all_eq_true.mp dA_X9_mark_0 (45, .iaload, 1) (List.mem_of_getElem? (i := 22) rfl))
theorem dX9_mark_46 : decode cX9_mark 46 = .ok (.bipush 6, 2) := of_decide_eq_true (List.all_eq_true.mp dA_X9_mark_0 (46, .bipush 6, 2) (List.mem_of_getElem? (i := 23) rfl))
theorem dX9_mark_48 : decode cX9_mark 48 = .ok (.if_icmp .ne 8, 3) := of_decide_eq_true (List.all_eq_true.mp dA_X9_mark_0 (48, .if_icmp .ne 8, 3) (List.mem_of_getElem? (i := 24) rfl))
theorem dX9_mark_51 : decode cX9_mark 51 = .ok (.aload_n 0, 1) := of_decide_eq_true (List.all_eq_true.mp dA_X9_mark_0 (51, .aload_n 0, 1) (List.mem_of_getElem? (i := 25) rfl))
theorem dX9_mark_52 : decode cX9_mark 52 = .ok (.invokevirtual 85, 3) := of_decide_eq_true (List.all_eq_true.mp dA_X9_mark_0 (52, .invokevirtual 85, 3) (List.mem_of_getElem? (i := 26) rfl))
theorem dX9_mark_55 : decode cX9_mark 55 = .ok (.ireturn, 1) := of_decide_eq_true (List.all_eq_true.mp dA_X9_mark_0 (55, .ireturn, 1) (List.mem_of_getElem? (i := 27) rfl))
theorem dX9_mark_56 : decode cX9_mark 56 = .ok (.bipush 88, 2) := of_decide_eq_true (List.all_eq_true.mp dA_X9_mark_0 (56, .bipush 88, 2) (List.mem_of_getElem? (i := 28) rfl))
theorem dX9_mark_58 : decode cX9_mark 58 = .ok (.iconst 3, 1) := of_decide_eq_true (List.all_eq_true.mp dA_X9_mark_0 (58, .iconst 3, 1) (List.mem_of_getElem? (i := 29) rfl))
theorem dX9_mark_59 : decode cX9_mark 59 = .ok (.aload_n 0, 1) := of_decide_eq_true (List.all_eq_true.mp dA_X9_mark_0 (59, .aload_n 0, 1) (List.mem_of_getElem? (i := 30) rfl))
theorem dX9_mark_60 : decode cX9_mark 60 = .ok (.getfield 7, 3) := of_decide_eq_true (List.all_eq_true.mp dA_X9_mark_0 (60, .getfield 7, 3) (List.mem_of_getElem? (i := 31) rfl))
theorem dX9_mark_63 : decode cX9_mark 63 = .ok (.iconst 3, 1) := of_decide_eq_true (List.all_eq_true.mp dA_X9_mark_0 (63, .iconst 3, 1) (List.mem_of_getElem? (i := 32) rfl))
theorem dX9_mark_64 : decode cX9_mark 64 = .ok (.iaload, 1) := of_decide_eq_true (List.all_eq_true.mp dA_X9_mark_0 (64, .iaload, 1) (List.mem_of_getElem? (i := 33) rfl))
theorem dX9_mark_65 : decode cX9_mark 65 = .ok (.imul, 1) := of_decide_eq_true (List.all_eq_true.mp dA_X9_mark_0 (65, .imul, 1) (List.mem_of_getElem? (i := 34) rfl))
theorem dX9_mark_66 : decode cX9_mark 66 = .ok (.iadd, 1) := of_decide_eq_true (List.all_eq_true.mp dA_X9_mark_0 (66, .iadd, 1) (List.mem_of_getElem? (i := 35) rfl))
theorem dX9_mark_67 : decode cX9_mark 67 = .ok (.istore 4, 2) := of_decide_eq_true (List.all_eq_true.mp dA_X9_mark_0 (67, .istore 4, 2) (List.mem_of_getElem? (i := 36) rfl))
theorem dX9_mark_69 : decode cX9_mark 69 = .ok (.aload_n 0, 1) := of_decide_eq_true (List.all_eq_true.mp dA_X9_mark_0 (69, .aload_n 0, 1) (List.mem_of_getElem? (i := 37) rfl))
theorem dX9_mark_70 : decode cX9_mark 70 = .ok (.getfield 7, 3) := of_decide_eq_true (List.all_eq_true.mp dA_X9_mark_0 (70, .getfield 7, 3) (List.mem_of_getElem? (i := 38) rfl))
theorem dX9_mark_73 : decode cX9_mark 73 = .ok (.iload 4, 2) := of_decide_eq_true (List.all_eq_true.mp dA_X9_mark_0 (73, .iload 4, 2) (List.mem_of_getElem? (i := 39) rfl))
set_option maxRecDepth 20000 in
theorem dA_X9_mark_75 : (([(75, .iload_n 1, 1), (76, .iastore, 1), (77, .aload_n 0, 1), (78, .getfield 7, 3), (81, .iload 4, 2), (83, .iconst 1, 1), (84, .iadd, 1), (85, .iload_n 2, 1), (86, .iastore, 1), (87, .aload_n 0, 1), (88, .getfield 7, 3), (91, .iload 4, 2), (93, .iconst 2, 1), (94, .iadd, 1), (95, .iload_n 3, 1), (96, .iastore, 1), (97, .aload_n 0, 1), (98, .getfield 7, 3), (101, .iconst 3, 1), (102, .dup2, 1)] : List (Nat × Instr × Nat)).all fun q => decide (decode cX9_mark q.1 = .ok (q.2.1, q.2.2))) = true := by decide +kernel
theorem dX9_mark_75 : decode cX9_mark 75 = .ok (.iload_n 1, 1) := of_decide_eq_true (List.all_eq_true.mp dA_X9_mark_75 (75, .iload_n 1, 1) (List.mem_of_getElem? (i := 0) rfl))
theorem dX9_mark_76 : decode cX9_mark 76 = .ok (.iastore, 1) := of_decide_eq_true (List.all_eq_true.mp dA_X9_mark_75 (76, .iastore, 1) (List.mem_of_getElem? (i := 1) rfl))
theorem dX9_mark_77 : decode cX9_mark 77 = .ok (.aload_n 0, 1) := of_decide_eq_true (List.all_eq_true.mp dA_X9_mark_75 (77, .aload_n 0, 1) (List.mem_of_getElem? (i := 2) rfl))
theorem dX9_mark_78 : decode cX9_mark 78 = .ok (.getfield 7, 3) := of_decide_eq_true (List.all_eq_true.mp dA_X9_mark_75 (78, .getfield 7, 3) (List.mem_of_getElem? (i := 3) rfl))
theorem dX9_mark_81 : decode cX9_mark 81 = .ok (.iload 4, 2) := of_decide_eq_true (List.all_eq_true.mp dA_X9_mark_75 (81, .iload 4, 2) (List.mem_of_getElem? (i := 4) rfl))
theorem dX9_mark_83 : decode cX9_mark 83 = .ok (.iconst 1, 1) := of_decide_eq_true (List.all_eq_true.mp dA_X9_mark_75 (83, .iconst 1, 1) (List.mem_of_getElem? (i := 5) rfl))
theorem dX9_mark_84 : decode cX9_mark 84 = .ok (.iadd, 1) := of_decide_eq_true (List.all_eq_true.mp dA_X9_mark_75 (84, .iadd, 1) (List.mem_of_getElem? (i := 6) rfl))
theorem dX9_mark_85 : decode cX9_mark 85 = .ok (.iload_n 2, 1) := of_decide_eq_true (List.all_eq_true.mp dA_X9_mark_75 (85, .iload_n 2, 1) (List.mem_of_getElem? (i := 7) rfl))
theorem dX9_mark_86 : decode cX9_mark 86 = .ok (.iastore, 1) := of_decide_eq_true (List.all_eq_true.mp dA_X9_mark_75 (86, .iastore, 1) (List.mem_of_getElem? (i := 8) rfl))
theorem dX9_mark_87 : decode cX9_mark 87 = .ok (.aload_n 0, 1) := of_decide_eq_true (List.all_eq_true.mp dA_X9_mark_75 (87, .aload_n 0, 1) (List.mem_of_getElem? (i := 9) rfl))
theorem dX9_mark_88 : decode cX9_mark 88 = .ok (.getfield 7, 3) := of_decide_eq_true (List.all_eq_true.mp dA_X9_mark_75 (88, .getfield 7, 3) (List.mem_of_getElem? (i := 10) rfl))
theorem dX9_mark_91 : decode cX9_mark 91 = .ok (.iload 4, 2) := of_decide_eq_true (List.all_eq_true.mp dA_X9_mark_75 (91, .iload 4, 2) (List.mem_of_getElem? (i := 11) rfl))
theorem dX9_mark_93 : decode cX9_mark 93 = .ok (.iconst 2, 1) := of_decide_eq_true (List.all_eq_true.mp dA_X9_mark_75 (93, .iconst 2, 1) (List.mem_of_getElem? (i := 12) rfl))
theorem dX9_mark_94 : decode cX9_mark 94 = .ok (.iadd, 1) := of_decide_eq_true (List.all_eq_true.mp dA_X9_mark_75 (94, .iadd, 1) (List.mem_of_getElem? (i := 13) rfl))
theorem dX9_mark_95 : decode cX9_mark 95 = .ok (.iload_n 3, 1) := of_decide_eq_true (List.all_eq_true.mp dA_X9_mark_75 (95, .iload_n 3, 1) (List.mem_of_getElem? (i := 14) rfl))
theorem dX9_mark_96 : decode cX9_mark 96 = .ok (.iastore, 1) := of_decide_eq_true (List.all_eq_true.mp dA_X9_mark_75 (96, .iastore, 1) (List.mem_of_getElem? (i := 15) rfl))
theorem dX9_mark_97 : decode cX9_mark 97 = .ok (.aload_n 0, 1) := of_decide_eq_true (List.all_eq_true.mp dA_X9_mark_75 (97, .aload_n 0, 1) (List.mem_of_getElem? (i := 16) rfl))
theorem dX9_mark_98 : decode cX9_mark 98 = .ok (.getfield 7, 3) := of_decide_eq_true (List.all_eq_true.mp dA_X9_mark_75 (98, .getfield 7, 3) (List.mem_of_getElem? (i := 17) rfl))
theorem dX9_mark_101 : decode cX9_mark 101 = .ok (.iconst 3, 1) := of_decide_eq_true (List.all_eq_true.mp dA_X9_mark_75 (101, .iconst 3, 1) (List.mem_of_getElem? (i := 18) rfl))
theorem dX9_mark_102 : decode cX9_mark 102 = .ok (.dup2, 1) := of_decide_eq_true (List.all_eq_true.mp dA_X9_mark_75 (102, .dup2, 1) (List.mem_of_getElem? (i := 19) rfl))
