theorem dX9_forget_29 : decode cX9_forget 29 = .ok (.getfield 7, 3) := by decide +kernel
theorem dX9_forget_32 : decode cX9_forget 32 = .ok (.iconst 1, 1) := by decide +kernel
theorem dX9_forget_33 : decode cX9_forget 33 = .ok (.iload_n 1, 1) := by decide +kernel
theorem dX9_forget_34 : decode cX9_forget 34 = .ok (.iadd, 1) := by decide +kernel
theorem dX9_forget_35 : decode cX9_forget 35 = .ok (.iconst 0, 1) := by decide +kernel
theorem dX9_forget_36 : decode cX9_forget 36 = .ok (.iastore, 1) := by decide +kernel
theorem dX9_forget_37 : decode cX9_forget 37 = .ok (.iload_n 2, 1) := by decide +kernel
theorem dX9_forget_38 : decode cX9_forget 38 = .ok (.ireturn, 1) := by decide +kernel
set_option maxRecDepth 20000 in
theorem ggX9_kindsOfOne_X9_likelyAs : GoodIn wsX9_kindsOfOne wsX9_likelyAs := goodIn_r _ [5] (by decide +kernel) (by decide +kernel)
set_option maxRecDepth 20000 in
theorem gX9_kindsOfOne_X9_likelyAs : GoodIn wsX9_kindsOfOne (va_wsS RX9 91 yX9_likelyAs wsX9_likelyAs) := goodIn_app (goodIn_of _ (by decide +kernel)) ggX9_kindsOfOne_X9_likelyAs
theorem dX9_kindsOfOne_0 : decode cX9_kindsOfOne 0 = .ok (.iconst 0, 1) := by decide +kernel
theorem dX9_kindsOfOne_1 : decode cX9_kindsOfOne 1 = .ok (.istore_n 2, 1) := by decide +kernel
theorem dX9_kindsOfOne_2 : decode cX9_kindsOfOne 2 = .ok (.iconst 0, 1) := by decide +kernel
theorem dX9_kindsOfOne_3 : decode cX9_kindsOfOne 3 = .ok (.istore_n 3, 1) := by decide +kernel
theorem dX9_kindsOfOne_4 : decode cX9_kindsOfOne 4 = .ok (.iload_n 3, 1) := by decide +kernel
theorem dX9_kindsOfOne_5 : decode cX9_kindsOfOne 5 = .ok (.bipush 6, 2) := by decide +kernel
theorem dX9_kindsOfOne_7 : decode cX9_kindsOfOne 7 = .ok (.if_icmp .ge 122, 3) := by decide +kernel
theorem dX9_kindsOfOne_10 : decode cX9_kindsOfOne 10 = .ok (.iconst 1, 1) := by decide +kernel
theorem dX9_kindsOfOne_11 : decode cX9_kindsOfOne 11 = .ok (.istore 4, 2) := by decide +kernel
theorem dX9_kindsOfOne_13 : decode cX9_kindsOfOne 13 = .ok (.iconst 0, 1) := by decide +kernel
theorem dX9_kindsOfOne_14 : decode cX9_kindsOfOne 14 = .ok (.istore 5, 2) := by decide +kernel
theorem dX9_kindsOfOne_16 : decode cX9_kindsOfOne 16 = .ok (.iload 5, 2) := by decide +kernel
theorem dX9_kindsOfOne_18 : decode cX9_kindsOfOne 18 = .ok (.aload_n 0, 1) := by decide +kernel
theorem dX9_kindsOfOne_19 : decode cX9_kindsOfOne 19 = .ok (.getfield 7, 3) := by decide +kernel
theorem dX9_kindsOfOne_22 : decode cX9_kindsOfOne 22 = .ok (.iconst 2, 1) := by decide +kernel
theorem dX9_kindsOfOne_23 : decode cX9_kindsOfOne 23 = .ok (.iaload, 1) := by decide +kernel
theorem dX9_kindsOfOne_24 : decode cX9_kindsOfOne 24 = .ok (.if_icmp .ge 84, 3) := by decide +kernel
theorem dX9_kindsOfOne_27 : decode cX9_kindsOfOne 27 = .ok (.bipush 58, 2) := by decide +kernel
theorem dX9_kindsOfOne_29 : decode cX9_kindsOfOne 29 = .ok (.iconst 5, 1) := by decide +kernel
theorem dX9_kindsOfOne_30 : decode cX9_kindsOfOne 30 = .ok (.iload 5, 2) := by decide +kernel
theorem dX9_kindsOfOne_32 : decode cX9_kindsOfOne 32 = .ok (.imul, 1) := by decide +kernel
theorem dX9_kindsOfOne_33 : decode cX9_kindsOfOne 33 = .ok (.iadd, 1) := by decide +kernel
theorem dX9_kindsOfOne_34 : decode cX9_kindsOfOne 34 = .ok (.istore 6, 2) := by decide +kernel
theorem dX9_kindsOfOne_36 : decode cX9_kindsOfOne 36 = .ok (.iload 4, 2) := by decide +kernel
theorem dX9_kindsOfOne_38 : decode cX9_kindsOfOne 38 = .ok (.ifCond .eq 61, 3) := by decide +kernel
theorem dX9_kindsOfOne_41 : decode cX9_kindsOfOne 41 = .ok (.aload_n 0, 1) := by decide +kernel
theorem dX9_kindsOfOne_42 : decode cX9_kindsOfOne 42 = .ok (.getfield 7, 3) := by decide +kernel
theorem dX9_kindsOfOne_45 : decode cX9_kindsOfOne 45 = .ok (.iload 6, 2) := by decide +kernel
theorem dX9_kindsOfOne_47 : decode cX9_kindsOfOne 47 = .ok (.iaload, 1) := by decide +kernel
theorem dX9_kindsOfOne_48 : decode cX9_kindsOfOne 48 = .ok (.iload_n 1, 1) := by decide +kernel
theorem dX9_kindsOfOne_49 : decode cX9_kindsOfOne 49 = .ok (.if_icmp .ne 46, 3) := by decide +kernel
theorem dX9_kindsOfOne_52 : decode cX9_kindsOfOne 52 = .ok (.iload_n 3, 1) := by decide +kernel
theorem dX9_kindsOfOne_53 : decode cX9_kindsOfOne 53 = .ok (.aload_n 0, 1) := by decide +kernel
theorem dX9_kindsOfOne_54 : decode cX9_kindsOfOne 54 = .ok (.getfield 7, 3) := by decide +kernel
theorem dX9_kindsOfOne_57 : decode cX9_kindsOfOne 57 = .ok (.iload 6, 2) := by decide +kernel
theorem dX9_kindsOfOne_59 : decode cX9_kindsOfOne 59 = .ok (.iconst 1, 1) := by decide +kernel
theorem dX9_kindsOfOne_60 : decode cX9_kindsOfOne 60 = .ok (.iadd, 1) := by decide +kernel
theorem dX9_kindsOfOne_61 : decode cX9_kindsOfOne 61 = .ok (.iaload, 1) := by decide +kernel
theorem dX9_kindsOfOne_62 : decode cX9_kindsOfOne 62 = .ok (.aload_n 0, 1) := by decide +kernel
theorem dX9_kindsOfOne_63 : decode cX9_kindsOfOne 63 = .ok (.getfield 7, 3) := by decide +kernel
theorem dX9_kindsOfOne_66 : decode cX9_kindsOfOne 66 = .ok (.iload 6, 2) := by decide +kernel
theorem dX9_kindsOfOne_68 : decode cX9_kindsOfOne 68 = .ok (.iconst 2, 1) := by decide +kernel
theorem dX9_kindsOfOne_69 : decode cX9_kindsOfOne 69 = .ok (.iadd, 1) := by decide +kernel
theorem dX9_kindsOfOne_70 : decode cX9_kindsOfOne 70 = .ok (.iaload, 1) := by decide +kernel
theorem dX9_kindsOfOne_71 : decode cX9_kindsOfOne 71 = .ok (.aload_n 0, 1) := by decide +kernel
theorem dX9_kindsOfOne_72 : decode cX9_kindsOfOne 72 = .ok (.getfield 7, 3) := by decide +kernel
theorem dX9_kindsOfOne_75 : decode cX9_kindsOfOne 75 = .ok (.iload 6, 2) := by decide +kernel
theorem dX9_kindsOfOne_77 : decode cX9_kindsOfOne 77 = .ok (.iconst 3, 1) := by decide +kernel
theorem dX9_kindsOfOne_78 : decode cX9_kindsOfOne 78 = .ok (.iadd, 1) := by decide +kernel
theorem dX9_kindsOfOne_79 : decode cX9_kindsOfOne 79 = .ok (.iaload, 1) := by decide +kernel
theorem dX9_kindsOfOne_80 : decode cX9_kindsOfOne 80 = .ok (.invokestatic 91, 3) := by decide +kernel
theorem dX9_kindsOfOne_83 : decode cX9_kindsOfOne 83 = .ok (.aload_n 0, 1) := by decide +kernel
theorem dX9_kindsOfOne_84 : decode cX9_kindsOfOne 84 = .ok (.getfield 7, 3) := by decide +kernel
theorem dX9_kindsOfOne_87 : decode cX9_kindsOfOne 87 = .ok (.iload 6, 2) := by decide +kernel
theorem dX9_kindsOfOne_89 : decode cX9_kindsOfOne 89 = .ok (.iconst 4, 1) := by decide +kernel
theorem dX9_kindsOfOne_90 : decode cX9_kindsOfOne 90 = .ok (.iadd, 1) := by decide +kernel
theorem dX9_kindsOfOne_91 : decode cX9_kindsOfOne 91 = .ok (.iaload, 1) := by decide +kernel
theorem dX9_kindsOfOne_92 : decode cX9_kindsOfOne 92 = .ok (.if_icmp .ne 7, 3) := by decide +kernel
theorem dX9_kindsOfOne_95 : decode cX9_kindsOfOne 95 = .ok (.iconst 1, 1) := by decide +kernel
theorem dX9_kindsOfOne_96 : decode cX9_kindsOfOne 96 = .ok (.goto 4, 3) := by decide +kernel
theorem dX9_kindsOfOne_99 : decode cX9_kindsOfOne 99 = .ok (.iconst 0, 1) := by decide +kernel
theorem dX9_kindsOfOne_100 : decode cX9_kindsOfOne 100 = .ok (.istore 4, 2) := by decide +kernel
theorem dX9_kindsOfOne_102 : decode cX9_kindsOfOne 102 = .ok (.iinc 5 1, 3) := by decide +kernel
theorem dX9_kindsOfOne_105 : decode cX9_kindsOfOne 105 = .ok (.goto (-89), 3) := by decide +kernel
theorem dX9_kindsOfOne_108 : decode cX9_kindsOfOne 108 = .ok (.iload_n 2, 1) := by decide +kernel
theorem dX9_kindsOfOne_109 : decode cX9_kindsOfOne 109 = .ok (.iload 4, 2) := by decide +kernel
theorem dX9_kindsOfOne_111 : decode cX9_kindsOfOne 111 = .ok (.ifCond .eq 9, 3) := by decide +kernel
theorem dX9_kindsOfOne_114 : decode cX9_kindsOfOne 114 = .ok (.iconst 1, 1) := by decide +kernel
theorem dX9_kindsOfOne_115 : decode cX9_kindsOfOne 115 = .ok (.iload_n 3, 1) := by decide +kernel
theorem dX9_kindsOfOne_116 : decode cX9_kindsOfOne 116 = .ok (.ishl, 1) := by decide +kernel
theorem dX9_kindsOfOne_117 : decode cX9_kindsOfOne 117 = .ok (.goto 4, 3) := by decide +kernel
theorem dX9_kindsOfOne_120 : decode cX9_kindsOfOne 120 = .ok (.iconst 0, 1) := by decide +kernel
theorem dX9_kindsOfOne_121 : decode cX9_kindsOfOne 121 = .ok (.ior, 1) := by decide +kernel
theorem dX9_kindsOfOne_122 : decode cX9_kindsOfOne 122 = .ok (.istore_n 2, 1) := by decide +kernel
theorem dX9_kindsOfOne_123 : decode cX9_kindsOfOne 123 = .ok (.iinc 3 1, 3) := by decide +kernel
theorem dX9_kindsOfOne_126 : decode cX9_kindsOfOne 126 = .ok (.goto (-122), 3) := by decide +kernel
theorem dX9_kindsOfOne_129 : decode cX9_kindsOfOne 129 = .ok (.iload_n 2, 1) := by decide +kernel
theorem dX9_kindsOfOne_130 : decode cX9_kindsOfOne 130 = .ok (.ireturn, 1) := by decide +kernel
set_option maxRecDepth 20000 in
theorem ggX9_kindsOfLord_X9_passesAs : GoodIn wsX9_kindsOfLord wsX9_passesAs := goodIn_r _ [5] (by decide +kernel) (by decide +kernel)
set_option maxRecDepth 20000 in
theorem gX9_kindsOfLord_X9_passesAs : GoodIn wsX9_kindsOfLord (va_wsS RX9 99 yX9_passesAs wsX9_passesAs) := goodIn_app (goodIn_of _ (by decide +kernel)) ggX9_kindsOfLord_X9_passesAs
theorem dX9_kindsOfLord_0 : decode cX9_kindsOfLord 0 = .ok (.iconst 0, 1) := by decide +kernel
theorem dX9_kindsOfLord_1 : decode cX9_kindsOfLord 1 = .ok (.istore_n 1, 1) := by decide +kernel
theorem dX9_kindsOfLord_2 : decode cX9_kindsOfLord 2 = .ok (.iconst 0, 1) := by decide +kernel
theorem dX9_kindsOfLord_3 : decode cX9_kindsOfLord 3 = .ok (.istore_n 2, 1) := by decide +kernel
theorem dX9_kindsOfLord_4 : decode cX9_kindsOfLord 4 = .ok (.iload_n 2, 1) := by decide +kernel
theorem dX9_kindsOfLord_5 : decode cX9_kindsOfLord 5 = .ok (.bipush 6, 2) := by decide +kernel
theorem dX9_kindsOfLord_7 : decode cX9_kindsOfLord 7 = .ok (.if_icmp .ge 96, 3) := by decide +kernel
theorem dX9_kindsOfLord_10 : decode cX9_kindsOfLord 10 = .ok (.iconst 1, 1) := by decide +kernel
theorem dX9_kindsOfLord_11 : decode cX9_kindsOfLord 11 = .ok (.istore_n 3, 1) := by decide +kernel
theorem dX9_kindsOfLord_12 : decode cX9_kindsOfLord 12 = .ok (.iconst 0, 1) := by decide +kernel
theorem dX9_kindsOfLord_13 : decode cX9_kindsOfLord 13 = .ok (.istore 4, 2) := by decide +kernel
theorem dX9_kindsOfLord_15 : decode cX9_kindsOfLord 15 = .ok (.iload 4, 2) := by decide +kernel
theorem dX9_kindsOfLord_17 : decode cX9_kindsOfLord 17 = .ok (.aload_n 0, 1) := by decide +kernel
theorem dX9_kindsOfLord_18 : decode cX9_kindsOfLord 18 = .ok (.getfield 7, 3) := by decide +kernel
theorem dX9_kindsOfLord_21 : decode cX9_kindsOfLord 21 = .ok (.iconst 3, 1) := by decide +kernel
theorem dX9_kindsOfLord_22 : decode cX9_kindsOfLord 22 = .ok (.iaload, 1) := by decide +kernel
theorem dX9_kindsOfLord_23 : decode cX9_kindsOfLord 23 = .ok (.if_icmp .ge 60, 3) := by decide +kernel
theorem dX9_kindsOfLord_26 : decode cX9_kindsOfLord 26 = .ok (.bipush 88, 2) := by decide +kernel
theorem dX9_kindsOfLord_28 : decode cX9_kindsOfLord 28 = .ok (.iconst 3, 1) := by decide +kernel
theorem dX9_kindsOfLord_29 : decode cX9_kindsOfLord 29 = .ok (.iload 4, 2) := by decide +kernel
theorem dX9_kindsOfLord_31 : decode cX9_kindsOfLord 31 = .ok (.imul, 1) := by decide +kernel
theorem dX9_kindsOfLord_32 : decode cX9_kindsOfLord 32 = .ok (.iadd, 1) := by decide +kernel
theorem dX9_kindsOfLord_33 : decode cX9_kindsOfLord 33 = .ok (.istore 5, 2) := by decide +kernel
theorem dX9_kindsOfLord_35 : decode cX9_kindsOfLord 35 = .ok (.iload_n 3, 1) := by decide +kernel
theorem dX9_kindsOfLord_36 : decode cX9_kindsOfLord 36 = .ok (.ifCond .eq 39, 3) := by decide +kernel
theorem dX9_kindsOfLord_39 : decode cX9_kindsOfLord 39 = .ok (.iload_n 2, 1) := by decide +kernel
theorem dX9_kindsOfLord_40 : decode cX9_kindsOfLord 40 = .ok (.aload_n 0, 1) := by decide +kernel
theorem dX9_kindsOfLord_41 : decode cX9_kindsOfLord 41 = .ok (.getfield 7, 3) := by decide +kernel
theorem dX9_kindsOfLord_44 : decode cX9_kindsOfLord 44 = .ok (.iload 5, 2) := by decide +kernel
theorem dX9_kindsOfLord_46 : decode cX9_kindsOfLord 46 = .ok (.iaload, 1) := by decide +kernel
theorem dX9_kindsOfLord_47 : decode cX9_kindsOfLord 47 = .ok (.aload_n 0, 1) := by decide +kernel
theorem dX9_kindsOfLord_48 : decode cX9_kindsOfLord 48 = .ok (.getfield 7, 3) := by decide +kernel
theorem dX9_kindsOfLord_51 : decode cX9_kindsOfLord 51 = .ok (.iload 5, 2) := by decide +kernel
theorem dX9_kindsOfLord_53 : decode cX9_kindsOfLord 53 = .ok (.iconst 1, 1) := by decide +kernel
theorem dX9_kindsOfLord_54 : decode cX9_kindsOfLord 54 = .ok (.iadd, 1) := by decide +kernel
theorem dX9_kindsOfLord_55 : decode cX9_kindsOfLord 55 = .ok (.iaload, 1) := by decide +kernel
theorem dX9_kindsOfLord_56 : decode cX9_kindsOfLord 56 = .ok (.invokestatic 99, 3) := by decide +kernel
theorem dX9_kindsOfLord_59 : decode cX9_kindsOfLord 59 = .ok (.aload_n 0, 1) := by decide +kernel
theorem dX9_kindsOfLord_60 : decode cX9_kindsOfLord 60 = .ok (.getfield 7, 3) := by decide +kernel
theorem dX9_kindsOfLord_63 : decode cX9_kindsOfLord 63 = .ok (.iload 5, 2) := by decide +kernel
theorem dX9_kindsOfLord_65 : decode cX9_kindsOfLord 65 = .ok (.iconst 2, 1) := by decide +kernel
theorem dX9_kindsOfLord_66 : decode cX9_kindsOfLord 66 = .ok (.iadd, 1) := by decide +kernel
theorem dX9_kindsOfLord_67 : decode cX9_kindsOfLord 67 = .ok (.iaload, 1) := by decide +kernel
theorem dX9_kindsOfLord_68 : decode cX9_kindsOfLord 68 = .ok (.if_icmp .ne 7, 3) := by decide +kernel
theorem dX9_kindsOfLord_71 : decode cX9_kindsOfLord 71 = .ok (.iconst 1, 1) := by decide +kernel
theorem dX9_kindsOfLord_72 : decode cX9_kindsOfLord 72 = .ok (.goto 4, 3) := by decide +kernel
theorem dX9_kindsOfLord_75 : decode cX9_kindsOfLord 75 = .ok (.iconst 0, 1) := by decide +kernel
theorem dX9_kindsOfLord_76 : decode cX9_kindsOfLord 76 = .ok (.istore_n 3, 1) := by decide +kernel
theorem dX9_kindsOfLord_77 : decode cX9_kindsOfLord 77 = .ok (.iinc 4 1, 3) := by decide +kernel
theorem dX9_kindsOfLord_80 : decode cX9_kindsOfLord 80 = .ok (.goto (-65), 3) := by decide +kernel
theorem dX9_kindsOfLord_83 : decode cX9_kindsOfLord 83 = .ok (.iload_n 1, 1) := by decide +kernel
theorem dX9_kindsOfLord_84 : decode cX9_kindsOfLord 84 = .ok (.iload_n 3, 1) := by decide +kernel
theorem dX9_kindsOfLord_85 : decode cX9_kindsOfLord 85 = .ok (.ifCond .eq 9, 3) := by decide +kernel
theorem dX9_kindsOfLord_88 : decode cX9_kindsOfLord 88 = .ok (.iconst 1, 1) := by decide +kernel
theorem dX9_kindsOfLord_89 : decode cX9_kindsOfLord 89 = .ok (.iload_n 2, 1) := by decide +kernel
theorem dX9_kindsOfLord_90 : decode cX9_kindsOfLord 90 = .ok (.ishl, 1) := by decide +kernel
theorem dX9_kindsOfLord_91 : decode cX9_kindsOfLord 91 = .ok (.goto 4, 3) := by decide +kernel
theorem dX9_kindsOfLord_94 : decode cX9_kindsOfLord 94 = .ok (.iconst 0, 1) := by decide +kernel
theorem dX9_kindsOfLord_95 : decode cX9_kindsOfLord 95 = .ok (.ior, 1) := by decide +kernel
theorem dX9_kindsOfLord_96 : decode cX9_kindsOfLord 96 = .ok (.istore_n 1, 1) := by decide +kernel
theorem dX9_kindsOfLord_97 : decode cX9_kindsOfLord 97 = .ok (.iinc 2 1, 3) := by decide +kernel
theorem dX9_kindsOfLord_100 : decode cX9_kindsOfLord 100 = .ok (.goto (-96), 3) := by decide +kernel
theorem dX9_kindsOfLord_103 : decode cX9_kindsOfLord 103 = .ok (.iload_n 1, 1) := by decide +kernel
theorem dX9_kindsOfLord_104 : decode cX9_kindsOfLord 104 = .ok (.ireturn, 1) := by decide +kernel
set_option maxRecDepth 20000 in
theorem ggX9_mostAlike_X9_has : GoodIn wsX9_mostAlike wsX9_has := goodIn_r _ [5] (by decide +kernel) (by decide +kernel)
set_option maxRecDepth 20000 in
theorem gX9_mostAlike_X9_has : GoodIn wsX9_mostAlike (va_wsS RX9 106 yX9_has wsX9_has) := goodIn_app (goodIn_of _ (by decide +kernel)) ggX9_mostAlike_X9_has
theorem dX9_mostAlike_0 : decode cX9_mostAlike 0 = .ok (.iconst 0, 1) := by decide +kernel
theorem dX9_mostAlike_1 : decode cX9_mostAlike 1 = .ok (.istore_n 2, 1) := by decide +kernel
theorem dX9_mostAlike_2 : decode cX9_mostAlike 2 = .ok (.iconst 0, 1) := by decide +kernel
theorem dX9_mostAlike_3 : decode cX9_mostAlike 3 = .ok (.istore_n 3, 1) := by decide +kernel
theorem dX9_mostAlike_4 : decode cX9_mostAlike 4 = .ok (.iload_n 3, 1) := by decide +kernel
theorem dX9_mostAlike_5 : decode cX9_mostAlike 5 = .ok (.bipush 6, 2) := by decide +kernel
theorem dX9_mostAlike_7 : decode cX9_mostAlike 7 = .ok (.if_icmp .ge 84, 3) := by decide +kernel
theorem dX9_mostAlike_10 : decode cX9_mostAlike 10 = .ok (.iconst 0, 1) := by decide +kernel
theorem dX9_mostAlike_11 : decode cX9_mostAlike 11 = .ok (.istore 4, 2) := by decide +kernel
theorem dX9_mostAlike_13 : decode cX9_mostAlike 13 = .ok (.iconst 0, 1) := by decide +kernel
theorem dX9_mostAlike_14 : decode cX9_mostAlike 14 = .ok (.istore 5, 2) := by decide +kernel
theorem dX9_mostAlike_16 : decode cX9_mostAlike 16 = .ok (.iload 5, 2) := by decide +kernel
theorem dX9_mostAlike_18 : decode cX9_mostAlike 18 = .ok (.bipush 6, 2) := by decide +kernel
theorem dX9_mostAlike_20 : decode cX9_mostAlike 20 = .ok (.if_icmp .ge 52, 3) := by decide +kernel
theorem dX9_mostAlike_23 : decode cX9_mostAlike 23 = .ok (.iload_n 1, 1) := by decide +kernel
theorem dX9_mostAlike_24 : decode cX9_mostAlike 24 = .ok (.iload_n 3, 1) := by decide +kernel
theorem dX9_mostAlike_25 : decode cX9_mostAlike 25 = .ok (.invokestatic 106, 3) := by decide +kernel
theorem dX9_mostAlike_28 : decode cX9_mostAlike 28 = .ok (.ifCond .eq 44, 3) := by decide +kernel
theorem dX9_mostAlike_31 : decode cX9_mostAlike 31 = .ok (.iload 4, 2) := by decide +kernel
theorem dX9_mostAlike_33 : decode cX9_mostAlike 33 = .ok (.iload_n 1, 1) := by decide +kernel
theorem dX9_mostAlike_34 : decode cX9_mostAlike 34 = .ok (.iload 5, 2) := by decide +kernel
theorem dX9_mostAlike_36 : decode cX9_mostAlike 36 = .ok (.invokestatic 106, 3) := by decide +kernel
theorem dX9_mostAlike_39 : decode cX9_mostAlike 39 = .ok (.ifCond .eq 23, 3) := by decide +kernel
theorem dX9_mostAlike_42 : decode cX9_mostAlike 42 = .ok (.aload_n 0, 1) := by decide +kernel
theorem dX9_mostAlike_43 : decode cX9_mostAlike 43 = .ok (.getfield 39, 3) := by decide +kernel
theorem dX9_mostAlike_46 : decode cX9_mostAlike 46 = .ok (.iload_n 3, 1) := by decide +kernel
theorem dX9_mostAlike_47 : decode cX9_mostAlike 47 = .ok (.iaload, 1) := by decide +kernel
theorem dX9_mostAlike_48 : decode cX9_mostAlike 48 = .ok (.aload_n 0, 1) := by decide +kernel
theorem dX9_mostAlike_49 : decode cX9_mostAlike 49 = .ok (.getfield 39, 3) := by decide +kernel
theorem dX9_mostAlike_52 : decode cX9_mostAlike 52 = .ok (.iload 5, 2) := by decide +kernel
theorem dX9_mostAlike_54 : decode cX9_mostAlike 54 = .ok (.iaload, 1) := by decide +kernel
theorem dX9_mostAlike_55 : decode cX9_mostAlike 55 = .ok (.if_icmp .ne 7, 3) := by decide +kernel
theorem dX9_mostAlike_58 : decode cX9_mostAlike 58 = .ok (.iconst 1, 1) := by decide +kernel
theorem dX9_mostAlike_59 : decode cX9_mostAlike 59 = .ok (.goto 4, 3) := by decide +kernel
theorem dX9_mostAlike_62 : decode cX9_mostAlike 62 = .ok (.iconst 0, 1) := by decide +kernel
theorem dX9_mostAlike_63 : decode cX9_mostAlike 63 = .ok (.iadd, 1) := by decide +kernel
theorem dX9_mostAlike_64 : decode cX9_mostAlike 64 = .ok (.istore 4, 2) := by decide +kernel
theorem dX9_mostAlike_66 : decode cX9_mostAlike 66 = .ok (.iinc 5 1, 3) := by decide +kernel
theorem dX9_mostAlike_69 : decode cX9_mostAlike 69 = .ok (.goto (-53), 3) := by decide +kernel
theorem dX9_mostAlike_72 : decode cX9_mostAlike 72 = .ok (.iload 4, 2) := by decide +kernel
theorem dX9_mostAlike_74 : decode cX9_mostAlike 74 = .ok (.iload_n 2, 1) := by decide +kernel
theorem dX9_mostAlike_75 : decode cX9_mostAlike 75 = .ok (.if_icmp .le 8, 3) := by decide +kernel
theorem dX9_mostAlike_78 : decode cX9_mostAlike 78 = .ok (.iload 4, 2) := by decide +kernel
theorem dX9_mostAlike_80 : decode cX9_mostAlike 80 = .ok (.goto 4, 3) := by decide +kernel
theorem dX9_mostAlike_83 : decode cX9_mostAlike 83 = .ok (.iload_n 2, 1) := by decide +kernel
theorem dX9_mostAlike_84 : decode cX9_mostAlike 84 = .ok (.istore_n 2, 1) := by decide +kernel
theorem dX9_mostAlike_85 : decode cX9_mostAlike 85 = .ok (.iinc 3 1, 3) := by decide +kernel
theorem dX9_mostAlike_88 : decode cX9_mostAlike 88 = .ok (.goto (-84), 3) := by decide +kernel
theorem dX9_mostAlike_91 : decode cX9_mostAlike 91 = .ok (.iload_n 2, 1) := by decide +kernel
theorem dX9_mostAlike_92 : decode cX9_mostAlike 92 = .ok (.ireturn, 1) := by decide +kernel
set_option maxRecDepth 20000 in
theorem ggX9_is_X9_isOne : GoodIn wsX9_is wsX9_isOne := goodIn_r _ [5, 6, 7, 8, 4, 9, 10, 11, 12, 13, 26, 27, 28, 29, 30, 31, 32, 33, 34, 35, 36, 37, 38, 39, 40, 41, 42, 43, 44] (by decide +kernel) (by decide +kernel)
set_option maxRecDepth 20000 in
theorem gX9_is_X9_isOne : GoodIn wsX9_is (wsV RX9 129 RX9 yX9_isOne wsX9_isOne) := goodIn_app (goodIn_of _ (by decide +kernel)) ggX9_is_X9_isOne
set_option maxRecDepth 20000 in
theorem ggX9_is_X9_kindsOfOne : GoodIn wsX9_is wsX9_kindsOfOne := goodIn_r _ [17, 10, 18, 19, 4, 20, 26, 27, 28, 29, 30, 31, 32, 33, 34, 35, 36, 37, 38, 39, 40, 41, 42, 43, 44] (by decide +kernel) (by decide +kernel)
set_option maxRecDepth 20000 in
theorem gX9_is_X9_kindsOfOne : GoodIn wsX9_is (wsV RX9 177 RX9 yX9_kindsOfOne wsX9_kindsOfOne) := goodIn_app (goodIn_of _ (by decide +kernel)) ggX9_is_X9_kindsOfOne
set_option maxRecDepth 20000 in
theorem ggX9_is_X9_bad : GoodIn wsX9_is wsX9_bad := goodIn_r _ [24, 25, 26, 27, 28, 29, 30, 31, 32, 33, 34, 35, 36, 37, 38, 39, 40, 41, 42, 43, 44] (by decide +kernel) (by decide +kernel)
set_option maxRecDepth 20000 in
theorem gX9_is_X9_bad : GoodIn wsX9_is (wsV RX9 75 RX9 yX9_bad wsX9_bad) := goodIn_app (goodIn_of _ (by decide +kernel)) ggX9_is_X9_bad
theorem dX9_is_0 : decode cX9_is 0 = .ok (.aload_n 0, 1) := by decide +kernel
theorem dX9_is_1 : decode cX9_is 1 = .ok (.iload_n 1, 1) := by decide +kernel
theorem dX9_is_2 : decode cX9_is 2 = .ok (.invokevirtual 129, 3) := by decide +kernel
theorem dX9_is_5 : decode cX9_is 5 = .ok (.ifCond .eq 11, 3) := by decide +kernel
theorem dX9_is_8 : decode cX9_is 8 = .ok (.aload_n 0, 1) := by decide +kernel
theorem dX9_is_9 : decode cX9_is 9 = .ok (.iload_n 1, 1) := by decide +kernel
theorem dX9_is_10 : decode cX9_is 10 = .ok (.invokevirtual 177, 3) := by decide +kernel
theorem dX9_is_13 : decode cX9_is 13 = .ok (.goto 9, 3) := by decide +kernel
theorem dX9_is_16 : decode cX9_is 16 = .ok (.aload_n 0, 1) := by decide +kernel
theorem dX9_is_17 : decode cX9_is 17 = .ok (.bipush (-2), 2) := by decide +kernel
theorem dX9_is_19 : decode cX9_is 19 = .ok (.invokevirtual 75, 3) := by decide +kernel
theorem dX9_is_22 : decode cX9_is 22 = .ok (.ireturn, 1) := by decide +kernel
set_option maxRecDepth 20000 in
theorem ggX9_look_X9_isOne : GoodIn wsX9_look wsX9_isOne := goodIn_r _ [8, 9, 10, 11, 7, 12, 3, 13, 14, 15, 35, 36, 37, 38, 39, 40, 41, 42, 43, 44, 45, 46, 47, 48, 49, 50, 51, 52, 53] (by decide +kernel) (by decide +kernel)
set_option maxRecDepth 20000 in
theorem gX9_look_X9_isOne : GoodIn wsX9_look (wsV RX9 129 RX9 yX9_isOne wsX9_isOne) := goodIn_app (goodIn_of _ (by decide +kernel)) ggX9_look_X9_isOne
set_option maxRecDepth 20000 in
theorem ggX9_look_X9_bad : GoodIn wsX9_look wsX9_bad := goodIn_r _ [19, 20, 35, 36, 37, 38, 39, 40, 41, 42, 43, 44, 45, 46, 47, 48, 49, 50, 51, 52, 53] (by decide +kernel) (by decide +kernel)
set_option maxRecDepth 20000 in
theorem gX9_look_X9_bad : GoodIn wsX9_look (wsV RX9 75 RX9 yX9_bad wsX9_bad) := goodIn_app (goodIn_of _ (by decide +kernel)) ggX9_look_X9_bad
set_option maxRecDepth 20000 in
theorem ggX9_look_X9_kindsOfOne : GoodIn wsX9_look wsX9_kindsOfOne := goodIn_r _ [24, 3, 25, 26, 7, 27, 35, 36, 37, 38, 39, 40, 41, 42, 43, 44, 45, 46, 47, 48, 49, 50, 51, 52, 53] (by decide +kernel) (by decide +kernel)
set_option maxRecDepth 20000 in
theorem gX9_look_X9_kindsOfOne : GoodIn wsX9_look (wsV RX9 177 RX9 yX9_kindsOfOne wsX9_kindsOfOne) := goodIn_app (goodIn_of _ (by decide +kernel)) ggX9_look_X9_kindsOfOne
set_option maxRecDepth 20000 in
theorem ggX9_look_X9_likelyAs : GoodIn wsX9_look wsX9_likelyAs := goodIn_r _ [27] (by decide +kernel) (by decide +kernel)
set_option maxRecDepth 20000 in
theorem gX9_look_X9_likelyAs : GoodIn wsX9_look (va_wsS RX9 91 yX9_likelyAs wsX9_likelyAs) := goodIn_app (goodIn_of _ (by decide +kernel)) ggX9_look_X9_likelyAs
set_option maxRecDepth 20000 in
theorem ggX9_look_X9_mostAlike : GoodIn wsX9_look wsX9_mostAlike := goodIn_r _ [31, 2, 32, 33, 7, 34, 35, 36, 37, 38, 39, 40, 41, 42, 43, 44, 45, 46, 47, 48, 49, 50, 51, 52, 53] (by decide +kernel) (by decide +kernel)
set_option maxRecDepth 20000 in
theorem gX9_look_X9_mostAlike : GoodIn wsX9_look (wsV RX9 180 RX9 yX9_mostAlike wsX9_mostAlike) := goodIn_app (goodIn_of _ (by decide +kernel)) ggX9_look_X9_mostAlike
theorem dX9_look_0 : decode cX9_look 0 = .ok (.aload_n 0, 1) := by decide +kernel
theorem dX9_look_1 : decode cX9_look 1 = .ok (.iload_n 1, 1) := by decide +kernel
theorem dX9_look_2 : decode cX9_look 2 = .ok (.invokevirtual 129, 3) := by decide +kernel
theorem dX9_look_5 : decode cX9_look 5 = .ok (.ifCond .ne 10, 3) := by decide +kernel
theorem dX9_look_8 : decode cX9_look 8 = .ok (.aload_n 0, 1) := by decide +kernel
theorem dX9_look_9 : decode cX9_look 9 = .ok (.bipush (-2), 2) := by decide +kernel
theorem dX9_look_11 : decode cX9_look 11 = .ok (.invokevirtual 75, 3) := by decide +kernel
theorem dX9_look_14 : decode cX9_look 14 = .ok (.ireturn, 1) := by decide +kernel
theorem dX9_look_15 : decode cX9_look 15 = .ok (.aload_n 0, 1) := by decide +kernel
theorem dX9_look_16 : decode cX9_look 16 = .ok (.iload_n 1, 1) := by decide +kernel
theorem dX9_look_17 : decode cX9_look 17 = .ok (.invokevirtual 177, 3) := by decide +kernel
theorem dX9_look_20 : decode cX9_look 20 = .ok (.istore_n 2, 1) := by decide +kernel
theorem dX9_look_21 : decode cX9_look 21 = .ok (.iconst (-1), 1) := by decide +kernel
theorem dX9_look_22 : decode cX9_look 22 = .ok (.istore_n 3, 1) := by decide +kernel
theorem dX9_look_23 : decode cX9_look 23 = .ok (.ldc 172, 2) := by decide +kernel
theorem dX9_look_25 : decode cX9_look 25 = .ok (.istore 4, 2) := by decide +kernel
theorem dX9_look_27 : decode cX9_look 27 = .ok (.iconst 0, 1) := by decide +kernel
theorem dX9_look_28 : decode cX9_look 28 = .ok (.istore 5, 2) := by decide +kernel
theorem dX9_look_30 : decode cX9_look 30 = .ok (.iload 5, 2) := by decide +kernel
theorem dX9_look_32 : decode cX9_look 32 = .ok (.bipush 10, 2) := by decide +kernel
theorem dX9_look_34 : decode cX9_look 34 = .ok (.if_icmp .ge 112, 3) := by decide +kernel
theorem dX9_look_37 : decode cX9_look 37 = .ok (.iload_n 2, 1) := by decide +kernel
theorem dX9_look_38 : decode cX9_look 38 = .ok (.ifCond .le 108, 3) := by decide +kernel
theorem dX9_look_41 : decode cX9_look 41 = .ok (.iconst 0, 1) := by decide +kernel
theorem dX9_look_42 : decode cX9_look 42 = .ok (.istore 6, 2) := by decide +kernel
theorem dX9_look_44 : decode cX9_look 44 = .ok (.iload 6, 2) := by decide +kernel
theorem dX9_look_46 : decode cX9_look 46 = .ok (.bipush 7, 2) := by decide +kernel
theorem dX9_look_48 : decode cX9_look 48 = .ok (.if_icmp .ge 92, 3) := by decide +kernel
theorem dX9_look_51 : decode cX9_look 51 = .ok (.iconst 0, 1) := by decide +kernel
theorem dX9_look_52 : decode cX9_look 52 = .ok (.istore 7, 2) := by decide +kernel
theorem dX9_look_54 : decode cX9_look 54 = .ok (.iload 7, 2) := by decide +kernel
theorem dX9_look_56 : decode cX9_look 56 = .ok (.bipush 6, 2) := by decide +kernel
theorem dX9_look_58 : decode cX9_look 58 = .ok (.if_icmp .ge 33, 3) := by decide +kernel
theorem dX9_look_61 : decode cX9_look 61 = .ok (.aload_n 0, 1) := by decide +kernel
theorem dX9_look_62 : decode cX9_look 62 = .ok (.getfield 39, 3) := by decide +kernel
theorem dX9_look_65 : decode cX9_look 65 = .ok (.iload 7, 2) := by decide +kernel
theorem dX9_look_67 : decode cX9_look 67 = .ok (.iload 7, 2) := by decide +kernel
theorem dX9_look_69 : decode cX9_look 69 = .ok (.aload_n 0, 1) := by decide +kernel
theorem dX9_look_70 : decode cX9_look 70 = .ok (.getfield 7, 3) := by decide +kernel
theorem dX9_look_73 : decode cX9_look 73 = .ok (.iconst 5, 1) := by decide +kernel
theorem dX9_look_74 : decode cX9_look 74 = .ok (.iload_n 1, 1) := by decide +kernel
theorem dX9_look_75 : decode cX9_look 75 = .ok (.iadd, 1) := by decide +kernel
theorem dX9_look_76 : decode cX9_look 76 = .ok (.iaload, 1) := by decide +kernel
theorem dX9_look_77 : decode cX9_look 77 = .ok (.iload 5, 2) := by decide +kernel
theorem dX9_look_79 : decode cX9_look 79 = .ok (.iload 6, 2) := by decide +kernel
theorem dX9_look_81 : decode cX9_look 81 = .ok (.invokestatic 91, 3) := by decide +kernel
theorem dX9_look_84 : decode cX9_look 84 = .ok (.iastore, 1) := by decide +kernel
theorem dX9_look_85 : decode cX9_look 85 = .ok (.iinc 7 1, 3) := by decide +kernel
theorem dX9_look_88 : decode cX9_look 88 = .ok (.goto (-34), 3) := by decide +kernel
theorem dX9_look_91 : decode cX9_look 91 = .ok (.aload_n 0, 1) := by decide +kernel
theorem dX9_look_92 : decode cX9_look 92 = .ok (.iload_n 2, 1) := by decide +kernel
theorem dX9_look_93 : decode cX9_look 93 = .ok (.invokevirtual 180, 3) := by decide +kernel
theorem dX9_look_96 : decode cX9_look 96 = .ok (.istore 7, 2) := by decide +kernel
theorem dX9_look_98 : decode cX9_look 98 = .ok (.iload 7, 2) := by decide +kernel
theorem dX9_look_100 : decode cX9_look 100 = .ok (.iload 4, 2) := by decide +kernel
theorem dX9_look_102 : decode cX9_look 102 = .ok (.if_icmp .ge 14, 3) := by decide +kernel
theorem dX9_look_105 : decode cX9_look 105 = .ok (.bipush 100, 2) := by decide +kernel
theorem dX9_look_107 : decode cX9_look 107 = .ok (.iload 5, 2) := by decide +kernel
theorem dX9_look_109 : decode cX9_look 109 = .ok (.imul, 1) := by decide +kernel
theorem dX9_look_110 : decode cX9_look 110 = .ok (.iload 6, 2) := by decide +kernel
theorem dX9_look_112 : decode cX9_look 112 = .ok (.iadd, 1) := by decide +kernel
theorem dX9_look_113 : decode cX9_look 113 = .ok (.goto 4, 3) := by decide +kernel
theorem dX9_look_116 : decode cX9_look 116 = .ok (.iload_n 3, 1) := by decide +kernel
theorem dX9_look_117 : decode cX9_look 117 = .ok (.istore_n 3, 1) := by decide +kernel
theorem dX9_look_118 : decode cX9_look 118 = .ok (.iload 7, 2) := by decide +kernel
theorem dX9_look_120 : decode cX9_look 120 = .ok (.iload 4, 2) := by decide +kernel
theorem dX9_look_122 : decode cX9_look 122 = .ok (.if_icmp .ge 8, 3) := by decide +kernel
theorem dX9_look_125 : decode cX9_look 125 = .ok (.iload 7, 2) := by decide +kernel
theorem dX9_look_127 : decode cX9_look 127 = .ok (.goto 5, 3) := by decide +kernel
theorem dX9_look_130 : decode cX9_look 130 = .ok (.iload 4, 2) := by decide +kernel
theorem dX9_look_132 : decode cX9_look 132 = .ok (.istore 4, 2) := by decide +kernel
theorem dX9_look_134 : decode cX9_look 134 = .ok (.iinc 6 1, 3) := by decide +kernel
theorem dX9_look_137 : decode cX9_look 137 = .ok (.goto (-93), 3) := by decide +kernel
theorem dX9_look_140 : decode cX9_look 140 = .ok (.iinc 5 1, 3) := by decide +kernel
theorem dX9_look_143 : decode cX9_look 143 = .ok (.goto (-113), 3) := by decide +kernel
theorem dX9_look_146 : decode cX9_look 146 = .ok (.iload_n 3, 1) := by decide +kernel
theorem dX9_look_147 : decode cX9_look 147 = .ok (.ireturn, 1) := by decide +kernel
set_option maxRecDepth 20000 in
theorem ggX9_kinds_X9_kindsOfLord : GoodIn wsX9_kinds wsX9_kindsOfLord := goodIn_r _ [5, 6, 7, 8, 4, 9, 10, 11, 12, 13, 14, 15, 16, 17, 18, 19, 20, 21, 22, 23, 24, 25, 26, 27, 28] (by decide +kernel) (by decide +kernel)
set_option maxRecDepth 20000 in
theorem gX9_kinds_X9_kindsOfLord : GoodIn wsX9_kinds (wsV RX9 183 RX9 yX9_kindsOfLord wsX9_kindsOfLord) := goodIn_app (goodIn_of _ (by decide +kernel)) ggX9_kinds_X9_kindsOfLord
theorem dX9_kinds_0 : decode cX9_kinds 0 = .ok (.aload_n 0, 1) := by decide +kernel
theorem dX9_kinds_1 : decode cX9_kinds 1 = .ok (.invokevirtual 183, 3) := by decide +kernel
theorem dX9_kinds_4 : decode cX9_kinds 4 = .ok (.ireturn, 1) := by decide +kernel
set_option maxRecDepth 20000 in
theorem ggX9_ask_X9_kindsOfLord : GoodIn wsX9_ask wsX9_kindsOfLord := goodIn_r _ [7, 8, 9, 10, 6, 11, 19, 20, 21, 22, 23, 24, 25, 26, 27, 28, 29, 30, 31, 32, 33, 34, 35, 36, 37] (by decide +kernel) (by decide +kernel)
set_option maxRecDepth 20000 in
theorem gX9_ask_X9_kindsOfLord : GoodIn wsX9_ask (wsV RX9 183 RX9 yX9_kindsOfLord wsX9_kindsOfLord) := goodIn_app (goodIn_of _ (by decide +kernel)) ggX9_ask_X9_kindsOfLord
set_option maxRecDepth 20000 in
theorem ggX9_ask_X9_passesAs : GoodIn wsX9_ask wsX9_passesAs := goodIn_r _ [11] (by decide +kernel) (by decide +kernel)
set_option maxRecDepth 20000 in
theorem gX9_ask_X9_passesAs : GoodIn wsX9_ask (va_wsS RX9 99 yX9_passesAs wsX9_passesAs) := goodIn_app (goodIn_of _ (by decide +kernel)) ggX9_ask_X9_passesAs
set_option maxRecDepth 20000 in
theorem ggX9_ask_X9_mostAlike : GoodIn wsX9_ask wsX9_mostAlike := goodIn_r _ [15, 2, 16, 17, 6, 18, 19, 20, 21, 22, 23, 24, 25, 26, 27, 28, 29, 30, 31, 32, 33, 34, 35, 36, 37] (by decide +kernel) (by decide +kernel)
set_option maxRecDepth 20000 in
theorem gX9_ask_X9_mostAlike : GoodIn wsX9_ask (wsV RX9 180 RX9 yX9_mostAlike wsX9_mostAlike) := goodIn_app (goodIn_of _ (by decide +kernel)) ggX9_ask_X9_mostAlike
theorem dX9_ask_0 : decode cX9_ask 0 = .ok (.aload_n 0, 1) := by decide +kernel
theorem dX9_ask_1 : decode cX9_ask 1 = .ok (.invokevirtual 183, 3) := by decide +kernel
theorem dX9_ask_4 : decode cX9_ask 4 = .ok (.istore_n 1, 1) := by decide +kernel
theorem dX9_ask_5 : decode cX9_ask 5 = .ok (.iconst (-1), 1) := by decide +kernel
theorem dX9_ask_6 : decode cX9_ask 6 = .ok (.istore_n 2, 1) := by decide +kernel
theorem dX9_ask_7 : decode cX9_ask 7 = .ok (.ldc 172, 2) := by decide +kernel
theorem dX9_ask_9 : decode cX9_ask 9 = .ok (.istore_n 3, 1) := by decide +kernel
theorem dX9_ask_10 : decode cX9_ask 10 = .ok (.iconst 0, 1) := by decide +kernel
theorem dX9_ask_11 : decode cX9_ask 11 = .ok (.istore 4, 2) := by decide +kernel
theorem dX9_ask_13 : decode cX9_ask 13 = .ok (.iload 4, 2) := by decide +kernel
theorem dX9_ask_15 : decode cX9_ask 15 = .ok (.iconst 5, 1) := by decide +kernel
theorem dX9_ask_16 : decode cX9_ask 16 = .ok (.if_icmp .ge 100, 3) := by decide +kernel
theorem dX9_ask_19 : decode cX9_ask 19 = .ok (.iload_n 1, 1) := by decide +kernel
theorem dX9_ask_20 : decode cX9_ask 20 = .ok (.ifCond .le 96, 3) := by decide +kernel
theorem dX9_ask_23 : decode cX9_ask 23 = .ok (.iconst 0, 1) := by decide +kernel
theorem dX9_ask_24 : decode cX9_ask 24 = .ok (.istore 5, 2) := by decide +kernel
theorem dX9_ask_26 : decode cX9_ask 26 = .ok (.iload 5, 2) := by decide +kernel
theorem dX9_ask_28 : decode cX9_ask 28 = .ok (.bipush 10, 2) := by decide +kernel
theorem dX9_ask_30 : decode cX9_ask 30 = .ok (.if_icmp .ge 80, 3) := by decide +kernel
theorem dX9_ask_33 : decode cX9_ask 33 = .ok (.iconst 0, 1) := by decide +kernel
theorem dX9_ask_34 : decode cX9_ask 34 = .ok (.istore 6, 2) := by decide +kernel
theorem dX9_ask_36 : decode cX9_ask 36 = .ok (.iload 6, 2) := by decide +kernel
theorem dX9_ask_38 : decode cX9_ask 38 = .ok (.bipush 6, 2) := by decide +kernel
theorem dX9_ask_40 : decode cX9_ask 40 = .ok (.if_icmp .ge 25, 3) := by decide +kernel
theorem dX9_ask_43 : decode cX9_ask 43 = .ok (.aload_n 0, 1) := by decide +kernel
theorem dX9_ask_44 : decode cX9_ask 44 = .ok (.getfield 39, 3) := by decide +kernel
theorem dX9_ask_47 : decode cX9_ask 47 = .ok (.iload 6, 2) := by decide +kernel
theorem dX9_ask_49 : decode cX9_ask 49 = .ok (.iload 6, 2) := by decide +kernel
theorem dX9_ask_51 : decode cX9_ask 51 = .ok (.iload 4, 2) := by decide +kernel
theorem dX9_ask_53 : decode cX9_ask 53 = .ok (.iload 5, 2) := by decide +kernel
theorem dX9_ask_55 : decode cX9_ask 55 = .ok (.invokestatic 99, 3) := by decide +kernel
theorem dX9_ask_58 : decode cX9_ask 58 = .ok (.iastore, 1) := by decide +kernel
theorem dX9_ask_59 : decode cX9_ask 59 = .ok (.iinc 6 1, 3) := by decide +kernel
theorem dX9_ask_62 : decode cX9_ask 62 = .ok (.goto (-26), 3) := by decide +kernel
theorem dX9_ask_65 : decode cX9_ask 65 = .ok (.aload_n 0, 1) := by decide +kernel
theorem dX9_ask_66 : decode cX9_ask 66 = .ok (.iload_n 1, 1) := by decide +kernel
theorem dX9_ask_67 : decode cX9_ask 67 = .ok (.invokevirtual 180, 3) := by decide +kernel
theorem dX9_ask_70 : decode cX9_ask 70 = .ok (.istore 6, 2) := by decide +kernel
theorem dX9_ask_72 : decode cX9_ask 72 = .ok (.iload 6, 2) := by decide +kernel
theorem dX9_ask_74 : decode cX9_ask 74 = .ok (.iload_n 3, 1) := by decide +kernel
theorem dX9_ask_75 : decode cX9_ask 75 = .ok (.if_icmp .ge 14, 3) := by decide +kernel
theorem dX9_ask_78 : decode cX9_ask 78 = .ok (.bipush 10, 2) := by decide +kernel
theorem dX9_ask_80 : decode cX9_ask 80 = .ok (.iload 4, 2) := by decide +kernel
theorem dX9_ask_82 : decode cX9_ask 82 = .ok (.imul, 1) := by decide +kernel
theorem dX9_ask_83 : decode cX9_ask 83 = .ok (.iload 5, 2) := by decide +kernel
theorem dX9_ask_85 : decode cX9_ask 85 = .ok (.iadd, 1) := by decide +kernel
theorem dX9_ask_86 : decode cX9_ask 86 = .ok (.goto 4, 3) := by decide +kernel
theorem dX9_ask_89 : decode cX9_ask 89 = .ok (.iload_n 2, 1) := by decide +kernel
theorem dX9_ask_90 : decode cX9_ask 90 = .ok (.istore_n 2, 1) := by decide +kernel
theorem dX9_ask_91 : decode cX9_ask 91 = .ok (.iload 6, 2) := by decide +kernel
theorem dX9_ask_93 : decode cX9_ask 93 = .ok (.iload_n 3, 1) := by decide +kernel
theorem dX9_ask_94 : decode cX9_ask 94 = .ok (.if_icmp .ge 8, 3) := by decide +kernel
theorem dX9_ask_97 : decode cX9_ask 97 = .ok (.iload 6, 2) := by decide +kernel
theorem dX9_ask_99 : decode cX9_ask 99 = .ok (.goto 4, 3) := by decide +kernel
theorem dX9_ask_102 : decode cX9_ask 102 = .ok (.iload_n 3, 1) := by decide +kernel
theorem dX9_ask_103 : decode cX9_ask 103 = .ok (.istore_n 3, 1) := by decide +kernel
theorem dX9_ask_104 : decode cX9_ask 104 = .ok (.iinc 5 1, 3) := by decide +kernel
theorem dX9_ask_107 : decode cX9_ask 107 = .ok (.goto (-81), 3) := by decide +kernel
theorem dX9_ask_110 : decode cX9_ask 110 = .ok (.iinc 4 1, 3) := by decide +kernel
theorem dX9_ask_113 : decode cX9_ask 113 = .ok (.goto (-100), 3) := by decide +kernel
theorem dX9_ask_116 : decode cX9_ask 116 = .ok (.iload_n 2, 1) := by decide +kernel
theorem dX9_ask_117 : decode cX9_ask 117 = .ok (.ireturn, 1) := by decide +kernel
theorem dX9_toGuest_0 : decode cX9_toGuest 0 = .ok (.iload_n 0, 1) := by decide +kernel
theorem dX9_toGuest_1 : decode cX9_toGuest 1 = .ok (.ifCond .ne 7, 3) := by decide +kernel
theorem dX9_toGuest_4 : decode cX9_toGuest 4 = .ok (.iconst 0, 1) := by decide +kernel
theorem dX9_toGuest_5 : decode cX9_toGuest 5 = .ok (.goto 17, 3) := by decide +kernel
theorem dX9_toGuest_8 : decode cX9_toGuest 8 = .ok (.iload_n 2, 1) := by decide +kernel
theorem dX9_toGuest_9 : decode cX9_toGuest 9 = .ok (.ifCond .eq 12, 3) := by decide +kernel
theorem dX9_toGuest_12 : decode cX9_toGuest 12 = .ok (.iload_n 1, 1) := by decide +kernel
theorem dX9_toGuest_13 : decode cX9_toGuest 13 = .ok (.ifCond .eq 8, 3) := by decide +kernel
theorem dX9_toGuest_16 : decode cX9_toGuest 16 = .ok (.bipush (-3), 2) := by decide +kernel
theorem dX9_toGuest_18 : decode cX9_toGuest 18 = .ok (.goto 4, 3) := by decide +kernel
theorem dX9_toGuest_21 : decode cX9_toGuest 21 = .ok (.iconst 5, 1) := by decide +kernel
theorem dX9_toGuest_22 : decode cX9_toGuest 22 = .ok (.ireturn, 1) := by decide +kernel
theorem dX9_toHost_0 : decode cX9_toHost 0 = .ok (.iload_n 0, 1) := by decide +kernel
theorem dX9_toHost_1 : decode cX9_toHost 1 = .ok (.ifCond .eq 11, 3) := by decide +kernel
theorem dX9_toHost_4 : decode cX9_toHost 4 = .ok (.iload_n 2, 1) := by decide +kernel
theorem dX9_toHost_5 : decode cX9_toHost 5 = .ok (.ifCond .eq 7, 3) := by decide +kernel
theorem dX9_toHost_8 : decode cX9_toHost 8 = .ok (.iconst 1, 1) := by decide +kernel
theorem dX9_toHost_9 : decode cX9_toHost 9 = .ok (.goto 4, 3) := by decide +kernel
theorem dX9_toHost_12 : decode cX9_toHost 12 = .ok (.iconst 0, 1) := by decide +kernel
theorem dX9_toHost_13 : decode cX9_toHost 13 = .ok (.istore_n 3, 1) := by decide +kernel
theorem dX9_toHost_14 : decode cX9_toHost 14 = .ok (.iload_n 1, 1) := by decide +kernel
theorem dX9_toHost_15 : decode cX9_toHost 15 = .ok (.ifCond .eq 16, 3) := by decide +kernel
theorem dX9_toHost_18 : decode cX9_toHost 18 = .ok (.iload_n 3, 1) := by decide +kernel
theorem dX9_toHost_19 : decode cX9_toHost 19 = .ok (.ifCond .eq 7, 3) := by decide +kernel
theorem dX9_toHost_22 : decode cX9_toHost 22 = .ok (.iconst 4, 1) := by decide +kernel
theorem dX9_toHost_23 : decode cX9_toHost 23 = .ok (.goto 18, 3) := by decide +kernel
theorem dX9_toHost_26 : decode cX9_toHost 26 = .ok (.bipush (-2), 2) := by decide +kernel
theorem dX9_toHost_28 : decode cX9_toHost 28 = .ok (.goto 13, 3) := by decide +kernel
theorem dX9_toHost_31 : decode cX9_toHost 31 = .ok (.iload_n 3, 1) := by decide +kernel
theorem dX9_toHost_32 : decode cX9_toHost 32 = .ok (.ifCond .eq 8, 3) := by decide +kernel
theorem dX9_toHost_35 : decode cX9_toHost 35 = .ok (.bipush (-4), 2) := by decide +kernel
theorem dX9_toHost_37 : decode cX9_toHost 37 = .ok (.goto 4, 3) := by decide +kernel
theorem dX9_toHost_40 : decode cX9_toHost 40 = .ok (.iconst 0, 1) := by decide +kernel
theorem dX9_toHost_41 : decode cX9_toHost 41 = .ok (.ireturn, 1) := by decide +kernel
set_option maxRecDepth 20000 in
theorem ggX9_door_X9_isOne : GoodIn wsX9_door wsX9_isOne := goodIn_r _ [6, 7, 8, 9, 5, 10, 1, 11, 12, 13, 47, 48, 49, 50, 51, 52, 53, 54, 55, 56, 57, 58, 59, 60, 61, 62, 63, 64, 65] (by decide +kernel) (by decide +kernel)
set_option maxRecDepth 20000 in
theorem gX9_door_X9_isOne : GoodIn wsX9_door (wsV RX9 129 RX9 yX9_isOne wsX9_isOne) := goodIn_app (goodIn_of _ (by decide +kernel)) ggX9_door_X9_isOne
set_option maxRecDepth 20000 in
theorem ggX9_door_X9_bad : GoodIn wsX9_door wsX9_bad := goodIn_r _ [17, 18, 47, 48, 49, 50, 51, 52, 53, 54, 55, 56, 57, 58, 59, 60, 61, 62, 63, 64, 65] (by decide +kernel) (by decide +kernel)
set_option maxRecDepth 20000 in
theorem gX9_door_X9_bad : GoodIn wsX9_door (wsV RX9 75 RX9 yX9_bad wsX9_bad) := goodIn_app (goodIn_of _ (by decide +kernel)) ggX9_door_X9_bad
set_option maxRecDepth 20000 in
theorem ggX9_door_X9_has : GoodIn wsX9_door wsX9_has := goodIn_r _ [21] (by decide +kernel) (by decide +kernel)
set_option maxRecDepth 20000 in
theorem gX9_door_X9_has : GoodIn wsX9_door (va_wsS RX9 106 yX9_has wsX9_has) := goodIn_app (goodIn_of _ (by decide +kernel)) ggX9_door_X9_has
set_option maxRecDepth 20000 in
theorem ggX9_door_X9_no : GoodIn wsX9_door wsX9_no := goodIn_r _ [25, 18, 47, 48, 49, 50, 51, 52, 53, 54, 55, 56, 57, 58, 59, 60, 61, 62, 63, 64, 65] (by decide +kernel) (by decide +kernel)
set_option maxRecDepth 20000 in
theorem gX9_door_X9_no : GoodIn wsX9_door (wsV RX9 132 RX9 yX9_no wsX9_no) := goodIn_app (goodIn_of _ (by decide +kernel)) ggX9_door_X9_no
set_option maxRecDepth 20000 in
theorem ggX9_door_X9_likelyOf : GoodIn wsX9_door wsX9_likelyOf := goodIn_r _ [28, 29, 30, 5, 31] (by decide +kernel) (by decide +kernel)
set_option maxRecDepth 20000 in
theorem gX9_door_X9_likelyOf : GoodIn wsX9_door (va_wsS RX9 114 yX9_likelyOf wsX9_likelyOf) := goodIn_app (goodIn_of _ (by decide +kernel)) ggX9_door_X9_likelyOf
set_option maxRecDepth 20000 in
theorem ggX9_door_X9_passesNow : GoodIn wsX9_door wsX9_passesNow := goodIn_r _ [34, 35, 36, 5, 37, 38, 39, 40] (by decide +kernel) (by decide +kernel)
set_option maxRecDepth 20000 in
theorem gX9_door_X9_passesNow : GoodIn wsX9_door (va_wsS RX9 117 yX9_passesNow wsX9_passesNow) := goodIn_app (goodIn_of _ (by decide +kernel)) ggX9_door_X9_passesNow
set_option maxRecDepth 20000 in
theorem ggX9_door_X9_toGuest : GoodIn wsX9_door wsX9_toGuest := goodIn_r _ [43] (by decide +kernel) (by decide +kernel)
set_option maxRecDepth 20000 in
theorem gX9_door_X9_toGuest : GoodIn wsX9_door (va_wsS RX9 186 yX9_toGuest wsX9_toGuest) := goodIn_app (goodIn_of _ (by decide +kernel)) ggX9_door_X9_toGuest
set_option maxRecDepth 20000 in
theorem ggX9_door_X9_toHost : GoodIn wsX9_door wsX9_toHost := goodIn_r _ [46] (by decide +kernel) (by decide +kernel)
set_option maxRecDepth 20000 in
theorem gX9_door_X9_toHost : GoodIn wsX9_door (va_wsS RX9 190 yX9_toHost wsX9_toHost) := goodIn_app (goodIn_of _ (by decide +kernel)) ggX9_door_X9_toHost
theorem dX9_door_0 : decode cX9_door 0 = .ok (.aload_n 0, 1) := by decide +kernel
theorem dX9_door_1 : decode cX9_door 1 = .ok (.iload_n 1, 1) := by decide +kernel
theorem dX9_door_2 : decode cX9_door 2 = .ok (.invokevirtual 129, 3) := by decide +kernel
theorem dX9_door_5 : decode cX9_door 5 = .ok (.ifCond .ne 10, 3) := by decide +kernel
theorem dX9_door_8 : decode cX9_door 8 = .ok (.aload_n 0, 1) := by decide +kernel
theorem dX9_door_9 : decode cX9_door 9 = .ok (.bipush (-2), 2) := by decide +kernel
theorem dX9_door_11 : decode cX9_door 11 = .ok (.invokevirtual 75, 3) := by decide +kernel
theorem dX9_door_14 : decode cX9_door 14 = .ok (.ireturn, 1) := by decide +kernel
theorem dX9_door_15 : decode cX9_door 15 = .ok (.aload_n 0, 1) := by decide +kernel
theorem dX9_door_16 : decode cX9_door 16 = .ok (.getfield 7, 3) := by decide +kernel
theorem dX9_door_19 : decode cX9_door 19 = .ok (.bipush 19, 2) := by decide +kernel
theorem dX9_door_21 : decode cX9_door 21 = .ok (.iaload, 1) := by decide +kernel
theorem dX9_door_22 : decode cX9_door 22 = .ok (.iload_n 1, 1) := by decide +kernel
theorem dX9_door_23 : decode cX9_door 23 = .ok (.invokestatic 106, 3) := by decide +kernel
theorem dX9_door_26 : decode cX9_door 26 = .ok (.ifCond .eq 8, 3) := by decide +kernel
theorem dX9_door_29 : decode cX9_door 29 = .ok (.aload_n 0, 1) := by decide +kernel
theorem dX9_door_30 : decode cX9_door 30 = .ok (.invokevirtual 132, 3) := by decide +kernel
theorem dX9_door_33 : decode cX9_door 33 = .ok (.ireturn, 1) := by decide +kernel
theorem dX9_door_34 : decode cX9_door 34 = .ok (.aload_n 0, 1) := by decide +kernel
theorem dX9_door_35 : decode cX9_door 35 = .ok (.getfield 7, 3) := by decide +kernel
theorem dX9_door_38 : decode cX9_door 38 = .ok (.iload_n 1, 1) := by decide +kernel
theorem dX9_door_39 : decode cX9_door 39 = .ok (.invokestatic 114, 3) := by decide +kernel
theorem dX9_door_42 : decode cX9_door 42 = .ok (.aload_n 0, 1) := by decide +kernel
theorem dX9_door_43 : decode cX9_door 43 = .ok (.getfield 7, 3) := by decide +kernel
theorem dX9_door_46 : decode cX9_door 46 = .ok (.invokestatic 117, 3) := by decide +kernel
theorem dX9_door_49 : decode cX9_door 49 = .ok (.if_icmp .le 7, 3) := by decide +kernel
theorem dX9_door_52 : decode cX9_door 52 = .ok (.iconst 1, 1) := by decide +kernel
theorem dX9_door_53 : decode cX9_door 53 = .ok (.goto 4, 3) := by decide +kernel
theorem dX9_door_56 : decode cX9_door 56 = .ok (.iconst 0, 1) := by decide +kernel
theorem dX9_door_57 : decode cX9_door 57 = .ok (.istore_n 2, 1) := by decide +kernel
theorem dX9_door_58 : decode cX9_door 58 = .ok (.iconst 0, 1) := by decide +kernel
theorem dX9_door_59 : decode cX9_door 59 = .ok (.istore_n 3, 1) := by decide +kernel
theorem dX9_door_60 : decode cX9_door 60 = .ok (.iconst 0, 1) := by decide +kernel
theorem dX9_door_61 : decode cX9_door 61 = .ok (.istore 4, 2) := by decide +kernel
theorem dX9_door_63 : decode cX9_door 63 = .ok (.iload 4, 2) := by decide +kernel
theorem dX9_door_65 : decode cX9_door 65 = .ok (.iconst 4, 1) := by decide +kernel
theorem dX9_door_66 : decode cX9_door 66 = .ok (.if_icmp .ge 102, 3) := by decide +kernel
theorem dX9_door_69 : decode cX9_door 69 = .ok (.iload 4, 2) := by decide +kernel
theorem dX9_door_71 : decode cX9_door 71 = .ok (.iconst 0, 1) := by decide +kernel
theorem dX9_door_72 : decode cX9_door 72 = .ok (.invokestatic 106, 3) := by decide +kernel
theorem dX9_door_75 : decode cX9_door 75 = .ok (.istore 5, 2) := by decide +kernel
theorem dX9_door_77 : decode cX9_door 77 = .ok (.iload 4, 2) := by decide +kernel
theorem dX9_door_79 : decode cX9_door 79 = .ok (.iconst 1, 1) := by decide +kernel
theorem dX9_door_80 : decode cX9_door 80 = .ok (.invokestatic 106, 3) := by decide +kernel
theorem dX9_door_83 : decode cX9_door 83 = .ok (.istore 6, 2) := by decide +kernel
theorem dX9_door_85 : decode cX9_door 85 = .ok (.iload 5, 2) := by decide +kernel
theorem dX9_door_87 : decode cX9_door 87 = .ok (.iload 6, 2) := by decide +kernel
theorem dX9_door_89 : decode cX9_door 89 = .ok (.iload_n 2, 1) := by decide +kernel
theorem dX9_door_90 : decode cX9_door 90 = .ok (.invokestatic 186, 3) := by decide +kernel
theorem dX9_door_93 : decode cX9_door 93 = .ok (.iload 5, 2) := by decide +kernel
theorem dX9_door_95 : decode cX9_door 95 = .ok (.ifCond .ne 7, 3) := by decide +kernel
theorem dX9_door_98 : decode cX9_door 98 = .ok (.iconst 1, 1) := by decide +kernel
theorem dX9_door_99 : decode cX9_door 99 = .ok (.goto 4, 3) := by decide +kernel
theorem dX9_door_102 : decode cX9_door 102 = .ok (.iconst 0, 1) := by decide +kernel
theorem dX9_door_103 : decode cX9_door 103 = .ok (.iload 6, 2) := by decide +kernel
theorem dX9_door_105 : decode cX9_door 105 = .ok (.iload_n 2, 1) := by decide +kernel
theorem dX9_door_106 : decode cX9_door 106 = .ok (.invokestatic 186, 3) := by decide +kernel
theorem dX9_door_109 : decode cX9_door 109 = .ok (.if_icmp .lt 34, 3) := by decide +kernel
theorem dX9_door_112 : decode cX9_door 112 = .ok (.iload 5, 2) := by decide +kernel
theorem dX9_door_114 : decode cX9_door 114 = .ok (.iload 6, 2) := by decide +kernel
theorem dX9_door_116 : decode cX9_door 116 = .ok (.iload_n 2, 1) := by decide +kernel
theorem dX9_door_117 : decode cX9_door 117 = .ok (.invokestatic 190, 3) := by decide +kernel
theorem dX9_door_120 : decode cX9_door 120 = .ok (.iload 5, 2) := by decide +kernel
theorem dX9_door_122 : decode cX9_door 122 = .ok (.iload 6, 2) := by decide +kernel
theorem dX9_door_124 : decode cX9_door 124 = .ok (.ifCond .ne 7, 3) := by decide +kernel
theorem dX9_door_127 : decode cX9_door 127 = .ok (.iconst 1, 1) := by decide +kernel
theorem dX9_door_128 : decode cX9_door 128 = .ok (.goto 4, 3) := by decide +kernel
theorem dX9_door_131 : decode cX9_door 131 = .ok (.iconst 0, 1) := by decide +kernel
theorem dX9_door_132 : decode cX9_door 132 = .ok (.iload_n 2, 1) := by decide +kernel
theorem dX9_door_133 : decode cX9_door 133 = .ok (.invokestatic 190, 3) := by decide +kernel
theorem dX9_door_136 : decode cX9_door 136 = .ok (.if_icmp .lt 7, 3) := by decide +kernel
theorem dX9_door_139 : decode cX9_door 139 = .ok (.iconst 1, 1) := by decide +kernel
theorem dX9_door_140 : decode cX9_door 140 = .ok (.goto 4, 3) := by decide +kernel
theorem dX9_door_143 : decode cX9_door 143 = .ok (.iconst 0, 1) := by decide +kernel
theorem dX9_door_144 : decode cX9_door 144 = .ok (.istore 7, 2) := by decide +kernel
theorem dX9_door_146 : decode cX9_door 146 = .ok (.iload_n 3, 1) := by decide +kernel
theorem dX9_door_147 : decode cX9_door 147 = .ok (.iload 7, 2) := by decide +kernel
theorem dX9_door_149 : decode cX9_door 149 = .ok (.ifCond .eq 10, 3) := by decide +kernel
theorem dX9_door_152 : decode cX9_door 152 = .ok (.iconst 1, 1) := by decide +kernel
theorem dX9_door_153 : decode cX9_door 153 = .ok (.iload 4, 2) := by decide +kernel
theorem dX9_door_155 : decode cX9_door 155 = .ok (.ishl, 1) := by decide +kernel
theorem dX9_door_156 : decode cX9_door 156 = .ok (.goto 4, 3) := by decide +kernel
theorem dX9_door_159 : decode cX9_door 159 = .ok (.iconst 0, 1) := by decide +kernel
theorem dX9_door_160 : decode cX9_door 160 = .ok (.ior, 1) := by decide +kernel
theorem dX9_door_161 : decode cX9_door 161 = .ok (.istore_n 3, 1) := by decide +kernel
theorem dX9_door_162 : decode cX9_door 162 = .ok (.iinc 4 1, 3) := by decide +kernel
theorem dX9_door_165 : decode cX9_door 165 = .ok (.goto (-102), 3) := by decide +kernel
theorem dX9_door_168 : decode cX9_door 168 = .ok (.iload_n 3, 1) := by decide +kernel
theorem dX9_door_169 : decode cX9_door 169 = .ok (.ireturn, 1) := by decide +kernel
theorem dX9_fraction_0 : decode cX9_fraction 0 = .ok (.lload_n 1, 1) := by decide +kernel
theorem dX9_fraction_1 : decode cX9_fraction 1 = .ok (.lstore 5, 2) := by decide +kernel
theorem dX9_fraction_3 : decode cX9_fraction 3 = .ok (.lload_n 3, 1) := by decide +kernel
theorem dX9_fraction_4 : decode cX9_fraction 4 = .ok (.lstore 7, 2) := by decide +kernel
theorem dX9_fraction_6 : decode cX9_fraction 6 = .ok (.lload 7, 2) := by decide +kernel
theorem dX9_fraction_8 : decode cX9_fraction 8 = .ok (.lconst 0, 1) := by decide +kernel
theorem dX9_fraction_9 : decode cX9_fraction 9 = .ok (.lcmp, 1) := by decide +kernel
theorem dX9_fraction_10 : decode cX9_fraction 10 = .ok (.ifCond .eq 21, 3) := by decide +kernel
theorem dX9_fraction_13 : decode cX9_fraction 13 = .ok (.lload 5, 2) := by decide +kernel
theorem dX9_fraction_15 : decode cX9_fraction 15 = .ok (.lload 7, 2) := by decide +kernel
theorem dX9_fraction_17 : decode cX9_fraction 17 = .ok (.lrem, 1) := by decide +kernel
theorem dX9_fraction_18 : decode cX9_fraction 18 = .ok (.lstore 9, 2) := by decide +kernel
theorem dX9_fraction_20 : decode cX9_fraction 20 = .ok (.lload 7, 2) := by decide +kernel
theorem dX9_fraction_22 : decode cX9_fraction 22 = .ok (.lstore 5, 2) := by decide +kernel
theorem dX9_fraction_24 : decode cX9_fraction 24 = .ok (.lload 9, 2) := by decide +kernel
theorem dX9_fraction_26 : decode cX9_fraction 26 = .ok (.lstore 7, 2) := by decide +kernel
theorem dX9_fraction_28 : decode cX9_fraction 28 = .ok (.goto (-22), 3) := by decide +kernel
theorem dX9_fraction_31 : decode cX9_fraction 31 = .ok (.aload_n 0, 1) := by decide +kernel
theorem dX9_fraction_32 : decode cX9_fraction 32 = .ok (.lload_n 1, 1) := by decide +kernel
theorem dX9_fraction_33 : decode cX9_fraction 33 = .ok (.lload 5, 2) := by decide +kernel
theorem dX9_fraction_35 : decode cX9_fraction 35 = .ok (.ldiv, 1) := by decide +kernel
theorem dX9_fraction_36 : decode cX9_fraction 36 = .ok (.putfield 193, 3) := by decide +kernel
theorem dX9_fraction_39 : decode cX9_fraction 39 = .ok (.aload_n 0, 1) := by decide +kernel
theorem dX9_fraction_40 : decode cX9_fraction 40 = .ok (.lload_n 3, 1) := by decide +kernel
theorem dX9_fraction_41 : decode cX9_fraction 41 = .ok (.lload 5, 2) := by decide +kernel
theorem dX9_fraction_43 : decode cX9_fraction 43 = .ok (.ldiv, 1) := by decide +kernel
theorem dX9_fraction_44 : decode cX9_fraction 44 = .ok (.putfield 23, 3) := by decide +kernel
theorem dX9_fraction_47 : decode cX9_fraction 47 = .ok (.return_, 1) := by decide +kernel
set_option maxRecDepth 20000 in
theorem ggX9_rain_X9_isOne : GoodIn wsX9_rain wsX9_isOne := goodIn_r _ [8, 9, 10, 11, 7, 12, 2, 13, 14, 15, 62, 63, 64, 65, 66, 67, 68, 69, 70, 71, 72, 73, 74, 75, 76, 77, 78, 79, 80] (by decide +kernel) (by decide +kernel)
set_option maxRecDepth 20000 in
theorem gX9_rain_X9_isOne : GoodIn wsX9_rain (wsV RX9 129 RX9 yX9_isOne wsX9_isOne) := goodIn_app (goodIn_of _ (by decide +kernel)) ggX9_rain_X9_isOne
set_option maxRecDepth 20000 in
theorem ggX9_rain_X9_in : GoodIn wsX9_rain wsX9_in := goodIn_r _ [15] (by decide +kernel) (by decide +kernel)
set_option maxRecDepth 20000 in
theorem gX9_rain_X9_in : GoodIn wsX9_rain (va_wsS RX9 59 yX9_in wsX9_in) := goodIn_app (goodIn_of _ (by decide +kernel)) ggX9_rain_X9_in
set_option maxRecDepth 20000 in
theorem ggX9_rain_X9_bad : GoodIn wsX9_rain wsX9_bad := goodIn_r _ [19, 20, 62, 63, 64, 65, 66, 67, 68, 69, 70, 71, 72, 73, 74, 75, 76, 77, 78, 79, 80] (by decide +kernel) (by decide +kernel)
set_option maxRecDepth 20000 in
theorem gX9_rain_X9_bad : GoodIn wsX9_rain (wsV RX9 75 RX9 yX9_bad wsX9_bad) := goodIn_app (goodIn_of _ (by decide +kernel)) ggX9_rain_X9_bad
set_option maxRecDepth 20000 in
theorem ggX9_rain_X9_has : GoodIn wsX9_rain wsX9_has := goodIn_r _ [23] (by decide +kernel) (by decide +kernel)
set_option maxRecDepth 20000 in
theorem gX9_rain_X9_has : GoodIn wsX9_rain (va_wsS RX9 106 yX9_has wsX9_has) := goodIn_app (goodIn_of _ (by decide +kernel)) ggX9_rain_X9_has
set_option maxRecDepth 20000 in
theorem ggX9_rain_X9_no : GoodIn wsX9_rain wsX9_no := goodIn_r _ [27, 20, 62, 63, 64, 65, 66, 67, 68, 69, 70, 71, 72, 73, 74, 75, 76, 77, 78, 79, 80] (by decide +kernel) (by decide +kernel)
set_option maxRecDepth 20000 in
theorem gX9_rain_X9_no : GoodIn wsX9_rain (wsV RX9 132 RX9 yX9_no wsX9_no) := goodIn_app (goodIn_of _ (by decide +kernel)) ggX9_rain_X9_no
set_option maxRecDepth 20000 in
theorem ggX9_rain_X9_layHand : GoodIn wsX9_rain wsX9_layHand := goodIn_r _ [31, 3, 2, 62, 63, 64, 65, 66, 67, 68, 69, 70, 71, 72, 73, 74, 75, 76, 77, 78, 79, 80] (by decide +kernel) (by decide +kernel)
set_option maxRecDepth 20000 in
theorem gX9_rain_X9_layHand : GoodIn wsX9_rain (wsV RX9 153 RX9 yX9_layHand wsX9_layHand) := goodIn_app (goodIn_of _ (by decide +kernel)) ggX9_rain_X9_layHand
set_option maxRecDepth 20000 in
theorem ggX9_rain_X9_letsIn : GoodIn wsX9_rain wsX9_letsIn := goodIn_r _ [34, 21, 22, 7, 23, 35, 36, 37, 38, 39, 40, 41, 42, 43, 44, 45, 46, 47, 48, 49, 50, 51, 52, 53, 54, 55] (by decide +kernel) (by decide +kernel)
set_option maxRecDepth 20000 in
theorem gX9_rain_X9_letsIn : GoodIn wsX9_rain (va_wsS RX9 121 yX9_letsIn wsX9_letsIn) := goodIn_app (goodIn_of _ (by decide +kernel)) ggX9_rain_X9_letsIn
set_option maxRecDepth 20000 in
theorem ggX9_rain_X9_fraction : GoodIn wsX9_rain wsX9_fraction := goodIn_r _ [59, 60, 61, 62, 63, 64, 65, 66, 67, 68, 69, 70, 71, 72, 73, 74, 75, 76, 77, 78, 79, 80] (by decide +kernel) (by decide +kernel)
set_option maxRecDepth 20000 in
theorem gX9_rain_X9_fraction : GoodIn wsX9_rain (wsV RX9 198 RX9 yX9_fraction wsX9_fraction) := goodIn_app (goodIn_of _ (by decide +kernel)) ggX9_rain_X9_fraction
theorem dX9_rain_0 : decode cX9_rain 0 = .ok (.aload_n 0, 1) := by decide +kernel
theorem dX9_rain_1 : decode cX9_rain 1 = .ok (.iload_n 1, 1) := by decide +kernel
theorem dX9_rain_2 : decode cX9_rain 2 = .ok (.invokevirtual 129, 3) := by decide +kernel
theorem dX9_rain_5 : decode cX9_rain 5 = .ok (.ifCond .eq 15, 3) := by decide +kernel
theorem dX9_rain_8 : decode cX9_rain 8 = .ok (.iload_n 2, 1) := by decide +kernel
theorem dX9_rain_9 : decode cX9_rain 9 = .ok (.i2l, 1) := by decide +kernel
theorem dX9_rain_10 : decode cX9_rain 10 = .ok (.lconst 0, 1) := by decide +kernel
theorem dX9_rain_11 : decode cX9_rain 11 = .ok (.ldc2_w 196, 3) := by decide +kernel
theorem dX9_rain_14 : decode cX9_rain 14 = .ok (.invokestatic 59, 3) := by decide +kernel
theorem dX9_rain_17 : decode cX9_rain 17 = .ok (.ifCond .ne 10, 3) := by decide +kernel
theorem dX9_rain_20 : decode cX9_rain 20 = .ok (.aload_n 0, 1) := by decide +kernel
theorem dX9_rain_21 : decode cX9_rain 21 = .ok (.bipush (-2), 2) := by decide +kernel
theorem dX9_rain_23 : decode cX9_rain 23 = .ok (.invokevirtual 75, 3) := by decide +kernel
theorem dX9_rain_26 : decode cX9_rain 26 = .ok (.ireturn, 1) := by decide +kernel
theorem dX9_rain_27 : decode cX9_rain 27 = .ok (.aload_n 0, 1) := by decide +kernel
theorem dX9_rain_28 : decode cX9_rain 28 = .ok (.getfield 7, 3) := by decide +kernel
theorem dX9_rain_31 : decode cX9_rain 31 = .ok (.bipush 19, 2) := by decide +kernel
theorem dX9_rain_33 : decode cX9_rain 33 = .ok (.iaload, 1) := by decide +kernel
theorem dX9_rain_34 : decode cX9_rain 34 = .ok (.iload_n 1, 1) := by decide +kernel
theorem dX9_rain_35 : decode cX9_rain 35 = .ok (.invokestatic 106, 3) := by decide +kernel
theorem dX9_rain_38 : decode cX9_rain 38 = .ok (.ifCond .eq 8, 3) := by decide +kernel
theorem dX9_rain_41 : decode cX9_rain 41 = .ok (.aload_n 0, 1) := by decide +kernel
theorem dX9_rain_42 : decode cX9_rain 42 = .ok (.invokevirtual 132, 3) := by decide +kernel
theorem dX9_rain_45 : decode cX9_rain 45 = .ok (.ireturn, 1) := by decide +kernel
theorem dX9_rain_46 : decode cX9_rain 46 = .ok (.aload_n 0, 1) := by decide +kernel
theorem dX9_rain_47 : decode cX9_rain 47 = .ok (.invokevirtual 153, 3) := by decide +kernel
theorem dX9_rain_50 : decode cX9_rain 50 = .ok (.aload_n 0, 1) := by decide +kernel
theorem dX9_rain_51 : decode cX9_rain 51 = .ok (.getfield 27, 3) := by decide +kernel
theorem dX9_rain_54 : decode cX9_rain 54 = .ok (.bipush 25, 2) := by decide +kernel
theorem dX9_rain_56 : decode cX9_rain 56 = .ok (.aload_n 0, 1) := by decide +kernel
theorem dX9_rain_57 : decode cX9_rain 57 = .ok (.getfield 7, 3) := by decide +kernel
theorem dX9_rain_60 : decode cX9_rain 60 = .ok (.bipush 22, 2) := by decide +kernel
theorem dX9_rain_62 : decode cX9_rain 62 = .ok (.iaload, 1) := by decide +kernel
theorem dX9_rain_63 : decode cX9_rain 63 = .ok (.bipush 6, 2) := by decide +kernel
theorem dX9_rain_65 : decode cX9_rain 65 = .ok (.irem, 1) := by decide +kernel
theorem dX9_rain_66 : decode cX9_rain 66 = .ok (.iadd, 1) := by decide +kernel
theorem dX9_rain_67 : decode cX9_rain 67 = .ok (.iconst 4, 1) := by decide +kernel
theorem dX9_rain_68 : decode cX9_rain 68 = .ok (.iastore, 1) := by decide +kernel
theorem dX9_rain_69 : decode cX9_rain 69 = .ok (.aload_n 0, 1) := by decide +kernel
theorem dX9_rain_70 : decode cX9_rain 70 = .ok (.getfield 7, 3) := by decide +kernel
theorem dX9_rain_73 : decode cX9_rain 73 = .ok (.iload_n 1, 1) := by decide +kernel
theorem dX9_rain_74 : decode cX9_rain 74 = .ok (.invokestatic 121, 3) := by decide +kernel
theorem dX9_rain_77 : decode cX9_rain 77 = .ok (.ifCond .eq 11, 3) := by decide +kernel
theorem dX9_rain_80 : decode cX9_rain 80 = .ok (.bipush 10, 2) := by decide +kernel
theorem dX9_rain_82 : decode cX9_rain 82 = .ok (.iload_n 2, 1) := by decide +kernel
theorem dX9_rain_83 : decode cX9_rain 83 = .ok (.isub, 1) := by decide +kernel
theorem dX9_rain_84 : decode cX9_rain 84 = .ok (.i2l, 1) := by decide +kernel
theorem dX9_rain_85 : decode cX9_rain 85 = .ok (.goto 4, 3) := by decide +kernel
theorem dX9_rain_88 : decode cX9_rain 88 = .ok (.lconst 0, 1) := by decide +kernel
theorem dX9_rain_89 : decode cX9_rain 89 = .ok (.lstore_n 3, 1) := by decide +kernel
theorem dX9_rain_90 : decode cX9_rain 90 = .ok (.lload_n 3, 1) := by decide +kernel
theorem dX9_rain_91 : decode cX9_rain 91 = .ok (.aload_n 0, 1) := by decide +kernel
theorem dX9_rain_92 : decode cX9_rain 92 = .ok (.getfield 27, 3) := by decide +kernel
theorem dX9_rain_95 : decode cX9_rain 95 = .ok (.iload_n 1, 1) := by decide +kernel
theorem dX9_rain_96 : decode cX9_rain 96 = .ok (.invokestatic 121, 3) := by decide +kernel
theorem dX9_rain_99 : decode cX9_rain 99 = .ok (.ifCond .eq 8, 3) := by decide +kernel
theorem dX9_rain_102 : decode cX9_rain 102 = .ok (.iload_n 2, 1) := by decide +kernel
theorem dX9_rain_103 : decode cX9_rain 103 = .ok (.i2l, 1) := by decide +kernel
theorem dX9_rain_104 : decode cX9_rain 104 = .ok (.goto 4, 3) := by decide +kernel
theorem dX9_rain_107 : decode cX9_rain 107 = .ok (.lconst 0, 1) := by decide +kernel
theorem dX9_rain_108 : decode cX9_rain 108 = .ok (.ladd, 1) := by decide +kernel
theorem dX9_rain_109 : decode cX9_rain 109 = .ok (.lstore_n 3, 1) := by decide +kernel
theorem dX9_rain_110 : decode cX9_rain 110 = .ok (.aload_n 0, 1) := by decide +kernel
theorem dX9_rain_111 : decode cX9_rain 111 = .ok (.lload_n 3, 1) := by decide +kernel
theorem dX9_rain_112 : decode cX9_rain 112 = .ok (.ldc2_w 196, 3) := by decide +kernel
theorem dX9_rain_115 : decode cX9_rain 115 = .ok (.invokevirtual 198, 3) := by decide +kernel
theorem dX9_rain_118 : decode cX9_rain 118 = .ok (.iconst 1, 1) := by decide +kernel
theorem dX9_rain_119 : decode cX9_rain 119 = .ok (.ireturn, 1) := by decide +kernel
set_option maxRecDepth 20000 in
theorem ggX9_decades_X9_in : GoodIn wsX9_decades wsX9_in := goodIn_r _ [12] (by decide +kernel) (by decide +kernel)
set_option maxRecDepth 20000 in
theorem gX9_decades_X9_in : GoodIn wsX9_decades (va_wsS RX9 59 yX9_in wsX9_in) := goodIn_app (goodIn_of _ (by decide +kernel)) ggX9_decades_X9_in
set_option maxRecDepth 20000 in
theorem ggX9_decades_X9_bad : GoodIn wsX9_decades wsX9_bad := goodIn_r _ [16, 17, 64, 65, 66, 67, 68, 69, 70, 71, 72, 73, 74, 75, 76, 77, 78, 79, 80, 81, 82] (by decide +kernel) (by decide +kernel)
set_option maxRecDepth 20000 in
theorem gX9_decades_X9_bad : GoodIn wsX9_decades (wsV RX9 75 RX9 yX9_bad wsX9_bad) := goodIn_app (goodIn_of _ (by decide +kernel)) ggX9_decades_X9_bad
set_option maxRecDepth 20000 in
theorem ggX9_decades_X9_layHand : GoodIn wsX9_decades wsX9_layHand := goodIn_r _ [21, 8, 22, 64, 65, 66, 67, 68, 69, 70, 71, 72, 73, 74, 75, 76, 77, 78, 79, 80, 81, 82] (by decide +kernel) (by decide +kernel)
set_option maxRecDepth 20000 in
theorem gX9_decades_X9_layHand : GoodIn wsX9_decades (wsV RX9 153 RX9 yX9_layHand wsX9_layHand) := goodIn_app (goodIn_of _ (by decide +kernel)) ggX9_decades_X9_layHand
set_option maxRecDepth 20000 in
theorem ggX9_decades_X9_isOne : GoodIn wsX9_decades wsX9_isOne := goodIn_r _ [26, 27, 28, 29, 11, 30, 22, 9, 10, 12, 64, 65, 66, 67, 68, 69, 70, 71, 72, 73, 74, 75, 76, 77, 78, 79, 80, 81, 82] (by decide +kernel) (by decide +kernel)
set_option maxRecDepth 20000 in
theorem gX9_decades_X9_isOne : GoodIn wsX9_decades (wsV RX9 129 RX9 yX9_isOne wsX9_isOne) := goodIn_app (goodIn_of _ (by decide +kernel)) ggX9_decades_X9_isOne
set_option maxRecDepth 20000 in
theorem ggX9_decades_X9_has : GoodIn wsX9_decades wsX9_has := goodIn_r _ [33] (by decide +kernel) (by decide +kernel)
set_option maxRecDepth 20000 in
theorem gX9_decades_X9_has : GoodIn wsX9_decades (va_wsS RX9 106 yX9_has wsX9_has) := goodIn_app (goodIn_of _ (by decide +kernel)) ggX9_decades_X9_has
set_option maxRecDepth 20000 in
theorem ggX9_decades_X9_goCome : GoodIn wsX9_decades wsX9_goCome := goodIn_r _ [36, 37, 38, 11, 39, 31, 32, 33, 40, 41, 42, 43, 44, 45, 46, 47, 48, 49, 50, 51, 52, 53, 54, 55, 56, 57, 58, 59, 60, 61, 62, 63] (by decide +kernel) (by decide +kernel)
set_option maxRecDepth 20000 in
theorem gX9_decades_X9_goCome : GoodIn wsX9_decades (va_wsS RX9 138 yX9_goCome wsX9_goCome) := goodIn_app (goodIn_of _ (by decide +kernel)) ggX9_decades_X9_goCome
set_option maxRecDepth 20000 in
theorem ggX9_decades_X9_bits : GoodIn wsX9_decades wsX9_bits := goodIn_r _ [45] (by decide +kernel) (by decide +kernel)
set_option maxRecDepth 20000 in
theorem gX9_decades_X9_bits : GoodIn wsX9_decades (va_wsS RX9 103 yX9_bits wsX9_bits) := goodIn_app (goodIn_of _ (by decide +kernel)) ggX9_decades_X9_bits
theorem dX9_decades_0 : decode cX9_decades 0 = .ok (.iload_n 1, 1) := by decide +kernel
theorem dX9_decades_1 : decode cX9_decades 1 = .ok (.i2l, 1) := by decide +kernel
theorem dX9_decades_2 : decode cX9_decades 2 = .ok (.lconst 0, 1) := by decide +kernel
theorem dX9_decades_3 : decode cX9_decades 3 = .ok (.ldc2_w 202, 3) := by decide +kernel
theorem dX9_decades_6 : decode cX9_decades 6 = .ok (.invokestatic 59, 3) := by decide +kernel
theorem dX9_decades_9 : decode cX9_decades 9 = .ok (.ifCond .eq 15, 3) := by decide +kernel
theorem dX9_decades_12 : decode cX9_decades 12 = .ok (.iload_n 2, 1) := by decide +kernel
theorem dX9_decades_13 : decode cX9_decades 13 = .ok (.i2l, 1) := by decide +kernel
theorem dX9_decades_14 : decode cX9_decades 14 = .ok (.lconst 0, 1) := by decide +kernel
theorem dX9_decades_15 : decode cX9_decades 15 = .ok (.ldc2_w 173, 3) := by decide +kernel
theorem dX9_decades_18 : decode cX9_decades 18 = .ok (.invokestatic 59, 3) := by decide +kernel
theorem dX9_decades_21 : decode cX9_decades 21 = .ok (.ifCond .ne 10, 3) := by decide +kernel
theorem dX9_decades_24 : decode cX9_decades 24 = .ok (.aload_n 0, 1) := by decide +kernel
theorem dX9_decades_25 : decode cX9_decades 25 = .ok (.bipush (-2), 2) := by decide +kernel
theorem dX9_decades_27 : decode cX9_decades 27 = .ok (.invokevirtual 75, 3) := by decide +kernel
theorem dX9_decades_30 : decode cX9_decades 30 = .ok (.ireturn, 1) := by decide +kernel
theorem dX9_decades_31 : decode cX9_decades 31 = .ok (.iload_n 1, 1) := by decide +kernel
theorem dX9_decades_32 : decode cX9_decades 32 = .ok (.i2l, 1) := by decide +kernel
theorem dX9_decades_33 : decode cX9_decades 33 = .ok (.lstore_n 3, 1) := by decide +kernel
theorem dX9_decades_34 : decode cX9_decades 34 = .ok (.aload_n 0, 1) := by decide +kernel
theorem dX9_decades_35 : decode cX9_decades 35 = .ok (.invokevirtual 153, 3) := by decide +kernel
theorem dX9_decades_38 : decode cX9_decades 38 = .ok (.iconst 0, 1) := by decide +kernel
theorem dX9_decades_39 : decode cX9_decades 39 = .ok (.istore 5, 2) := by decide +kernel
theorem dX9_decades_41 : decode cX9_decades 41 = .ok (.iload 5, 2) := by decide +kernel
theorem dX9_decades_43 : decode cX9_decades 43 = .ok (.iload_n 2, 1) := by decide +kernel
theorem dX9_decades_44 : decode cX9_decades 44 = .ok (.if_icmp .ge 111, 3) := by decide +kernel
theorem dX9_decades_47 : decode cX9_decades 47 = .ok (.lload_n 3, 1) := by decide +kernel
theorem dX9_decades_48 : decode cX9_decades 48 = .ok (.ldc2_w 204, 3) := by decide +kernel
theorem dX9_decades_51 : decode cX9_decades 51 = .ok (.lmul, 1) := by decide +kernel
theorem dX9_decades_52 : decode cX9_decades 52 = .ok (.ldc2_w 206, 3) := by decide +kernel
theorem dX9_decades_55 : decode cX9_decades 55 = .ok (.ladd, 1) := by decide +kernel
theorem dX9_decades_56 : decode cX9_decades 56 = .ok (.ldc2_w 208, 3) := by decide +kernel
theorem dX9_decades_59 : decode cX9_decades 59 = .ok (.lrem, 1) := by decide +kernel
theorem dX9_decades_60 : decode cX9_decades 60 = .ok (.lstore_n 3, 1) := by decide +kernel
theorem dX9_decades_61 : decode cX9_decades 61 = .ok (.lload_n 3, 1) := by decide +kernel
theorem dX9_decades_62 : decode cX9_decades 62 = .ok (.ldc2_w 210, 3) := by decide +kernel
theorem dX9_decades_65 : decode cX9_decades 65 = .ok (.ldiv, 1) := by decide +kernel
theorem dX9_decades_66 : decode cX9_decades 66 = .ok (.ldc2_w 212, 3) := by decide +kernel
theorem dX9_decades_69 : decode cX9_decades 69 = .ok (.lrem, 1) := by decide +kernel
theorem dX9_decades_70 : decode cX9_decades 70 = .ok (.l2i, 1) := by decide +kernel
theorem dX9_decades_71 : decode cX9_decades 71 = .ok (.istore 6, 2) := by decide +kernel
theorem dX9_decades_73 : decode cX9_decades 73 = .ok (.aload_n 0, 1) := by decide +kernel
theorem dX9_decades_74 : decode cX9_decades 74 = .ok (.iload 6, 2) := by decide +kernel
theorem dX9_decades_76 : decode cX9_decades 76 = .ok (.invokevirtual 129, 3) := by decide +kernel
theorem dX9_decades_79 : decode cX9_decades 79 = .ok (.ifCond .ne 25, 3) := by decide +kernel
theorem dX9_decades_82 : decode cX9_decades 82 = .ok (.aload_n 0, 1) := by decide +kernel
theorem dX9_decades_83 : decode cX9_decades 83 = .ok (.getfield 27, 3) := by decide +kernel
theorem dX9_decades_86 : decode cX9_decades 86 = .ok (.bipush 22, 2) := by decide +kernel
theorem dX9_decades_88 : decode cX9_decades 88 = .ok (.dup2, 1) := by decide +kernel
theorem dX9_decades_89 : decode cX9_decades 89 = .ok (.iaload, 1) := by decide +kernel
theorem dX9_decades_90 : decode cX9_decades 90 = .ok (.iconst 1, 1) := by decide +kernel
theorem dX9_decades_91 : decode cX9_decades 91 = .ok (.iadd, 1) := by decide +kernel
theorem dX9_decades_92 : decode cX9_decades 92 = .ok (.iastore, 1) := by decide +kernel
theorem dX9_decades_93 : decode cX9_decades 93 = .ok (.aload_n 0, 1) := by decide +kernel
theorem dX9_decades_94 : decode cX9_decades 94 = .ok (.getfield 27, 3) := by decide +kernel
theorem dX9_decades_97 : decode cX9_decades 97 = .ok (.bipush 20, 2) := by decide +kernel
theorem dX9_decades_99 : decode cX9_decades 99 = .ok (.iconst 0, 1) := by decide +kernel
theorem dX9_decades_100 : decode cX9_decades 100 = .ok (.iastore, 1) := by decide +kernel
theorem dX9_decades_101 : decode cX9_decades 101 = .ok (.goto 48, 3) := by decide +kernel
theorem dX9_decades_104 : decode cX9_decades 104 = .ok (.aload_n 0, 1) := by decide +kernel
theorem dX9_decades_105 : decode cX9_decades 105 = .ok (.getfield 27, 3) := by decide +kernel
theorem dX9_decades_108 : decode cX9_decades 108 = .ok (.bipush 19, 2) := by decide +kernel
theorem dX9_decades_110 : decode cX9_decades 110 = .ok (.iaload, 1) := by decide +kernel
theorem dX9_decades_111 : decode cX9_decades 111 = .ok (.iload 6, 2) := by decide +kernel
theorem dX9_decades_113 : decode cX9_decades 113 = .ok (.invokestatic 106, 3) := by decide +kernel
theorem dX9_decades_116 : decode cX9_decades 116 = .ok (.ifCond .eq 22, 3) := by decide +kernel
theorem dX9_decades_119 : decode cX9_decades 119 = .ok (.aload_n 0, 1) := by decide +kernel
theorem dX9_decades_120 : decode cX9_decades 120 = .ok (.getfield 27, 3) := by decide +kernel
theorem dX9_decades_123 : decode cX9_decades 123 = .ok (.bipush 19, 2) := by decide +kernel
theorem dX9_decades_125 : decode cX9_decades 125 = .ok (.dup2, 1) := by decide +kernel
theorem dX9_decades_126 : decode cX9_decades 126 = .ok (.iaload, 1) := by decide +kernel
theorem dX9_decades_127 : decode cX9_decades 127 = .ok (.iconst 1, 1) := by decide +kernel
theorem dX9_decades_128 : decode cX9_decades 128 = .ok (.iload 6, 2) := by decide +kernel
theorem dX9_decades_130 : decode cX9_decades 130 = .ok (.ishl, 1) := by decide +kernel
theorem dX9_decades_131 : decode cX9_decades 131 = .ok (.iconst (-1), 1) := by decide +kernel
theorem dX9_decades_132 : decode cX9_decades 132 = .ok (.ixor, 1) := by decide +kernel
theorem dX9_decades_133 : decode cX9_decades 133 = .ok (.iand, 1) := by decide +kernel
theorem dX9_decades_134 : decode cX9_decades 134 = .ok (.iastore, 1) := by decide +kernel
theorem dX9_decades_135 : decode cX9_decades 135 = .ok (.goto 14, 3) := by decide +kernel
theorem dX9_decades_138 : decode cX9_decades 138 = .ok (.aload_n 0, 1) := by decide +kernel
theorem dX9_decades_139 : decode cX9_decades 139 = .ok (.getfield 27, 3) := by decide +kernel
theorem dX9_decades_142 : decode cX9_decades 142 = .ok (.iload 6, 2) := by decide +kernel
theorem dX9_decades_144 : decode cX9_decades 144 = .ok (.invokestatic 138, 3) := by decide +kernel
theorem dX9_decades_147 : decode cX9_decades 147 = .ok (.istore 7, 2) := by decide +kernel
theorem dX9_decades_149 : decode cX9_decades 149 = .ok (.iinc 5 1, 3) := by decide +kernel
theorem dX9_decades_152 : decode cX9_decades 152 = .ok (.goto (-111), 3) := by decide +kernel
theorem dX9_decades_155 : decode cX9_decades 155 = .ok (.aload_n 0, 1) := by decide +kernel
theorem dX9_decades_156 : decode cX9_decades 156 = .ok (.getfield 27, 3) := by decide +kernel
theorem dX9_decades_159 : decode cX9_decades 159 = .ok (.bipush 19, 2) := by decide +kernel
theorem dX9_decades_161 : decode cX9_decades 161 = .ok (.iaload, 1) := by decide +kernel
theorem dX9_decades_162 : decode cX9_decades 162 = .ok (.invokestatic 103, 3) := by decide +kernel
theorem dX9_decades_165 : decode cX9_decades 165 = .ok (.ireturn, 1) := by decide +kernel
set_option maxRecDepth 20000 in
theorem ggX9_type_X9_in : GoodIn wsX9_type wsX9_in := goodIn_r _ [7] (by decide +kernel) (by decide +kernel)
set_option maxRecDepth 20000 in
theorem gX9_type_X9_in : GoodIn wsX9_type (va_wsS RX9 59 yX9_in wsX9_in) := goodIn_app (goodIn_of _ (by decide +kernel)) ggX9_type_X9_in
set_option maxRecDepth 20000 in
theorem ggX9_type_X9_bad : GoodIn wsX9_type wsX9_bad := goodIn_r _ [11, 12, 17, 18, 19, 20, 21, 22, 23, 24, 25, 26, 27, 28, 29, 30, 31, 32, 33, 34, 35] (by decide +kernel) (by decide +kernel)
set_option maxRecDepth 20000 in
theorem gX9_type_X9_bad : GoodIn wsX9_type (wsV RX9 75 RX9 yX9_bad wsX9_bad) := goodIn_app (goodIn_of _ (by decide +kernel)) ggX9_type_X9_bad
set_option maxRecDepth 20000 in
theorem ggX9_type_X9_full : GoodIn wsX9_type wsX9_full := goodIn_r _ [16, 12, 17, 18, 19, 20, 21, 22, 23, 24, 25, 26, 27, 28, 29, 30, 31, 32, 33, 34, 35] (by decide +kernel) (by decide +kernel)
set_option maxRecDepth 20000 in
theorem gX9_type_X9_full : GoodIn wsX9_type (wsV RX9 85 RX9 yX9_full wsX9_full) := goodIn_app (goodIn_of _ (by decide +kernel)) ggX9_type_X9_full
theorem dX9_type_0 : decode cX9_type 0 = .ok (.iload_n 1, 1) := by decide +kernel
theorem dX9_type_1 : decode cX9_type 1 = .ok (.i2l, 1) := by decide +kernel
theorem dX9_type_2 : decode cX9_type 2 = .ok (.lconst 0, 1) := by decide +kernel
theorem dX9_type_3 : decode cX9_type 3 = .ok (.ldc2_w 214, 3) := by decide +kernel
theorem dX9_type_6 : decode cX9_type 6 = .ok (.invokestatic 59, 3) := by decide +kernel
theorem dX9_type_9 : decode cX9_type 9 = .ok (.ifCond .ne 10, 3) := by decide +kernel
theorem dX9_type_12 : decode cX9_type 12 = .ok (.aload_n 0, 1) := by decide +kernel
theorem dX9_type_13 : decode cX9_type 13 = .ok (.bipush (-2), 2) := by decide +kernel
theorem dX9_type_15 : decode cX9_type 15 = .ok (.invokevirtual 75, 3) := by decide +kernel
theorem dX9_type_18 : decode cX9_type 18 = .ok (.ireturn, 1) := by decide +kernel
theorem dX9_type_19 : decode cX9_type 19 = .ok (.aload_n 0, 1) := by decide +kernel
theorem dX9_type_20 : decode cX9_type 20 = .ok (.getfield 216, 3) := by decide +kernel
theorem dX9_type_23 : decode cX9_type 23 = .ok (.sipush 150, 3) := by decide +kernel
theorem dX9_type_26 : decode cX9_type 26 = .ok (.if_icmp .ne 8, 3) := by decide +kernel
theorem dX9_type_29 : decode cX9_type 29 = .ok (.aload_n 0, 1) := by decide +kernel
theorem dX9_type_30 : decode cX9_type 30 = .ok (.invokevirtual 85, 3) := by decide +kernel
theorem dX9_type_33 : decode cX9_type 33 = .ok (.ireturn, 1) := by decide +kernel
theorem dX9_type_34 : decode cX9_type 34 = .ok (.aload_n 0, 1) := by decide +kernel
theorem dX9_type_35 : decode cX9_type 35 = .ok (.getfield 42, 3) := by decide +kernel
theorem dX9_type_38 : decode cX9_type 38 = .ok (.aload_n 0, 1) := by decide +kernel
theorem dX9_type_39 : decode cX9_type 39 = .ok (.getfield 216, 3) := by decide +kernel
theorem dX9_type_42 : decode cX9_type 42 = .ok (.iload_n 1, 1) := by decide +kernel
theorem dX9_type_43 : decode cX9_type 43 = .ok (.iastore, 1) := by decide +kernel
theorem dX9_type_44 : decode cX9_type 44 = .ok (.aload_n 0, 1) := by decide +kernel
theorem dX9_type_45 : decode cX9_type 45 = .ok (.dup, 1) := by decide +kernel
theorem dX9_type_46 : decode cX9_type 46 = .ok (.getfield 216, 3) := by decide +kernel
theorem dX9_type_49 : decode cX9_type 49 = .ok (.iconst 1, 1) := by decide +kernel
theorem dX9_type_50 : decode cX9_type 50 = .ok (.iadd, 1) := by decide +kernel
theorem dX9_type_51 : decode cX9_type 51 = .ok (.putfield 216, 3) := by decide +kernel
theorem dX9_type_54 : decode cX9_type 54 = .ok (.aload_n 0, 1) := by decide +kernel
theorem dX9_type_55 : decode cX9_type 55 = .ok (.getfield 216, 3) := by decide +kernel
theorem dX9_type_58 : decode cX9_type 58 = .ok (.ireturn, 1) := by decide +kernel
theorem dX9_clear_0 : decode cX9_clear 0 = .ok (.aload_n 0, 1) := by decide +kernel
theorem dX9_clear_1 : decode cX9_clear 1 = .ok (.getfield 216, 3) := by decide +kernel
theorem dX9_clear_4 : decode cX9_clear 4 = .ok (.istore_n 1, 1) := by decide +kernel
theorem dX9_clear_5 : decode cX9_clear 5 = .ok (.aload_n 0, 1) := by decide +kernel
theorem dX9_clear_6 : decode cX9_clear 6 = .ok (.iconst 0, 1) := by decide +kernel
theorem dX9_clear_7 : decode cX9_clear 7 = .ok (.putfield 216, 3) := by decide +kernel
theorem dX9_clear_10 : decode cX9_clear 10 = .ok (.iload_n 1, 1) := by decide +kernel
theorem dX9_clear_11 : decode cX9_clear 11 = .ok (.ireturn, 1) := by decide +kernel
set_option maxRecDepth 20000 in
theorem ggX9_isSmall_X9_in : GoodIn wsX9_isSmall wsX9_in := goodIn_r _ [6] (by decide +kernel) (by decide +kernel)
set_option maxRecDepth 20000 in
theorem gX9_isSmall_X9_in : GoodIn wsX9_isSmall (va_wsS RX9 59 yX9_in wsX9_in) := goodIn_app (goodIn_of _ (by decide +kernel)) ggX9_isSmall_X9_in
theorem dX9_isSmall_0 : decode cX9_isSmall 0 = .ok (.iload_n 0, 1) := by decide +kernel
theorem dX9_isSmall_1 : decode cX9_isSmall 1 = .ok (.i2l, 1) := by decide +kernel
theorem dX9_isSmall_2 : decode cX9_isSmall 2 = .ok (.ldc2_w 220, 3) := by decide +kernel
theorem dX9_isSmall_5 : decode cX9_isSmall 5 = .ok (.ldc2_w 222, 3) := by decide +kernel
theorem dX9_isSmall_8 : decode cX9_isSmall 8 = .ok (.invokestatic 59, 3) := by decide +kernel
theorem dX9_isSmall_11 : decode cX9_isSmall 11 = .ok (.ireturn, 1) := by decide +kernel
set_option maxRecDepth 20000 in
theorem ggX9_isFigure_X9_in : GoodIn wsX9_isFigure wsX9_in := goodIn_r _ [6] (by decide +kernel) (by decide +kernel)
set_option maxRecDepth 20000 in
theorem gX9_isFigure_X9_in : GoodIn wsX9_isFigure (va_wsS RX9 59 yX9_in wsX9_in) := goodIn_app (goodIn_of _ (by decide +kernel)) ggX9_isFigure_X9_in
theorem dX9_isFigure_0 : decode cX9_isFigure 0 = .ok (.iload_n 0, 1) := by decide +kernel
theorem dX9_isFigure_1 : decode cX9_isFigure 1 = .ok (.i2l, 1) := by decide +kernel
theorem dX9_isFigure_2 : decode cX9_isFigure 2 = .ok (.ldc2_w 224, 3) := by decide +kernel
theorem dX9_isFigure_5 : decode cX9_isFigure 5 = .ok (.ldc2_w 226, 3) := by decide +kernel
theorem dX9_isFigure_8 : decode cX9_isFigure 8 = .ok (.invokestatic 59, 3) := by decide +kernel
theorem dX9_isFigure_11 : decode cX9_isFigure 11 = .ok (.ireturn, 1) := by decide +kernel
set_option maxRecDepth 20000 in
theorem ggX9_lookAt_X9_isSmall : GoodIn wsX9_lookAt wsX9_isSmall := goodIn_r _ [10, 11, 12, 13, 14, 9, 15] (by decide +kernel) (by decide +kernel)
set_option maxRecDepth 20000 in
theorem gX9_lookAt_X9_isSmall : GoodIn wsX9_lookAt (va_wsS RX9 240 yX9_isSmall wsX9_isSmall) := goodIn_app (goodIn_of _ (by decide +kernel)) ggX9_lookAt_X9_isSmall
set_option maxRecDepth 20000 in
theorem ggX9_lookAt_X9_isFigure : GoodIn wsX9_lookAt wsX9_isFigure := goodIn_r _ [18, 19, 20, 13, 14, 9, 15] (by decide +kernel) (by decide +kernel)
set_option maxRecDepth 20000 in
theorem gX9_lookAt_X9_isFigure : GoodIn wsX9_lookAt (va_wsS RX9 243 yX9_isFigure wsX9_isFigure) := goodIn_app (goodIn_of _ (by decide +kernel)) ggX9_lookAt_X9_isFigure
theorem dX9_lookAt_0 : decode cX9_lookAt 0 = .ok (.aload_n 0, 1) := by decide +kernel
theorem dX9_lookAt_1 : decode cX9_lookAt 1 = .ok (.iload_n 1, 1) := by decide +kernel
theorem dX9_lookAt_2 : decode cX9_lookAt 2 = .ok (.putfield 228, 3) := by decide +kernel
theorem dX9_lookAt_5 : decode cX9_lookAt 5 = .ok (.aload_n 0, 1) := by decide +kernel
theorem dX9_lookAt_6 : decode cX9_lookAt 6 = .ok (.getfield 228, 3) := by decide +kernel
theorem dX9_lookAt_9 : decode cX9_lookAt 9 = .ok (.aload_n 0, 1) := by decide +kernel
theorem dX9_lookAt_10 : decode cX9_lookAt 10 = .ok (.getfield 216, 3) := by decide +kernel
theorem dX9_lookAt_13 : decode cX9_lookAt 13 = .ok (.if_icmp .ge 30, 3) := by decide +kernel
theorem dX9_lookAt_16 : decode cX9_lookAt 16 = .ok (.aload_n 0, 1) := by decide +kernel
theorem dX9_lookAt_17 : decode cX9_lookAt 17 = .ok (.getfield 42, 3) := by decide +kernel
theorem dX9_lookAt_20 : decode cX9_lookAt 20 = .ok (.aload_n 0, 1) := by decide +kernel
theorem dX9_lookAt_21 : decode cX9_lookAt 21 = .ok (.getfield 228, 3) := by decide +kernel
theorem dX9_lookAt_24 : decode cX9_lookAt 24 = .ok (.iaload, 1) := by decide +kernel
theorem dX9_lookAt_25 : decode cX9_lookAt 25 = .ok (.bipush 32, 2) := by decide +kernel
theorem dX9_lookAt_27 : decode cX9_lookAt 27 = .ok (.if_icmp .ne 16, 3) := by decide +kernel
theorem dX9_lookAt_30 : decode cX9_lookAt 30 = .ok (.aload_n 0, 1) := by decide +kernel
theorem dX9_lookAt_31 : decode cX9_lookAt 31 = .ok (.dup, 1) := by decide +kernel
theorem dX9_lookAt_32 : decode cX9_lookAt 32 = .ok (.getfield 228, 3) := by decide +kernel
theorem dX9_lookAt_35 : decode cX9_lookAt 35 = .ok (.iconst 1, 1) := by decide +kernel
theorem dX9_lookAt_36 : decode cX9_lookAt 36 = .ok (.iadd, 1) := by decide +kernel
theorem dX9_lookAt_37 : decode cX9_lookAt 37 = .ok (.putfield 228, 3) := by decide +kernel
theorem dX9_lookAt_40 : decode cX9_lookAt 40 = .ok (.goto (-35), 3) := by decide +kernel
theorem dX9_lookAt_43 : decode cX9_lookAt 43 = .ok (.aload_n 0, 1) := by decide +kernel
theorem dX9_lookAt_44 : decode cX9_lookAt 44 = .ok (.iconst 0, 1) := by decide +kernel
theorem dX9_lookAt_45 : decode cX9_lookAt 45 = .ok (.putfield 231, 3) := by decide +kernel
theorem dX9_lookAt_48 : decode cX9_lookAt 48 = .ok (.aload_n 0, 1) := by decide +kernel
theorem dX9_lookAt_49 : decode cX9_lookAt 49 = .ok (.iconst 0, 1) := by decide +kernel
theorem dX9_lookAt_50 : decode cX9_lookAt 50 = .ok (.putfield 234, 3) := by decide +kernel
theorem dX9_lookAt_53 : decode cX9_lookAt 53 = .ok (.aload_n 0, 1) := by decide +kernel
theorem dX9_lookAt_54 : decode cX9_lookAt 54 = .ok (.iconst 0, 1) := by decide +kernel
theorem dX9_lookAt_55 : decode cX9_lookAt 55 = .ok (.putfield 237, 3) := by decide +kernel
theorem dX9_lookAt_58 : decode cX9_lookAt 58 = .ok (.aload_n 0, 1) := by decide +kernel
theorem dX9_lookAt_59 : decode cX9_lookAt 59 = .ok (.getfield 228, 3) := by decide +kernel
theorem dX9_lookAt_62 : decode cX9_lookAt 62 = .ok (.aload_n 0, 1) := by decide +kernel
theorem dX9_lookAt_63 : decode cX9_lookAt 63 = .ok (.getfield 216, 3) := by decide +kernel
theorem dX9_lookAt_66 : decode cX9_lookAt 66 = .ok (.if_icmp .ne 4, 3) := by decide +kernel
theorem dX9_lookAt_69 : decode cX9_lookAt 69 = .ok (.return_, 1) := by decide +kernel
theorem dX9_lookAt_70 : decode cX9_lookAt 70 = .ok (.aload_n 0, 1) := by decide +kernel
theorem dX9_lookAt_71 : decode cX9_lookAt 71 = .ok (.getfield 42, 3) := by decide +kernel
theorem dX9_lookAt_74 : decode cX9_lookAt 74 = .ok (.aload_n 0, 1) := by decide +kernel
theorem dX9_lookAt_75 : decode cX9_lookAt 75 = .ok (.getfield 228, 3) := by decide +kernel
theorem dX9_lookAt_78 : decode cX9_lookAt 78 = .ok (.iaload, 1) := by decide +kernel
theorem dX9_lookAt_79 : decode cX9_lookAt 79 = .ok (.istore_n 2, 1) := by decide +kernel
theorem dX9_lookAt_80 : decode cX9_lookAt 80 = .ok (.aload_n 0, 1) := by decide +kernel
theorem dX9_lookAt_81 : decode cX9_lookAt 81 = .ok (.iload_n 2, 1) := by decide +kernel
theorem dX9_lookAt_82 : decode cX9_lookAt 82 = .ok (.invokestatic 240, 3) := by decide +kernel
theorem dX9_lookAt_85 : decode cX9_lookAt 85 = .ok (.ifCond .eq 7, 3) := by decide +kernel
theorem dX9_lookAt_88 : decode cX9_lookAt 88 = .ok (.iconst 1, 1) := by decide +kernel
theorem dX9_lookAt_89 : decode cX9_lookAt 89 = .ok (.goto 25, 3) := by decide +kernel
theorem dX9_lookAt_92 : decode cX9_lookAt 92 = .ok (.iload_n 2, 1) := by decide +kernel
theorem dX9_lookAt_93 : decode cX9_lookAt 93 = .ok (.invokestatic 243, 3) := by decide +kernel
theorem dX9_lookAt_96 : decode cX9_lookAt 96 = .ok (.ifCond .eq 7, 3) := by decide +kernel
theorem dX9_lookAt_99 : decode cX9_lookAt 99 = .ok (.iconst 2, 1) := by decide +kernel
theorem dX9_lookAt_100 : decode cX9_lookAt 100 = .ok (.goto 14, 3) := by decide +kernel
theorem dX9_lookAt_103 : decode cX9_lookAt 103 = .ok (.iload_n 2, 1) := by decide +kernel
theorem dX9_lookAt_104 : decode cX9_lookAt 104 = .ok (.bipush 59, 2) := by decide +kernel
theorem dX9_lookAt_106 : decode cX9_lookAt 106 = .ok (.if_icmp .ne 7, 3) := by decide +kernel
theorem dX9_lookAt_109 : decode cX9_lookAt 109 = .ok (.iconst 3, 1) := by decide +kernel
theorem dX9_lookAt_110 : decode cX9_lookAt 110 = .ok (.goto 4, 3) := by decide +kernel
theorem dX9_lookAt_113 : decode cX9_lookAt 113 = .ok (.iconst 4, 1) := by decide +kernel
theorem dX9_lookAt_114 : decode cX9_lookAt 114 = .ok (.putfield 234, 3) := by decide +kernel
theorem dX9_lookAt_117 : decode cX9_lookAt 117 = .ok (.aload_n 0, 1) := by decide +kernel
theorem dX9_lookAt_118 : decode cX9_lookAt 118 = .ok (.iconst 1, 1) := by decide +kernel
theorem dX9_lookAt_119 : decode cX9_lookAt 119 = .ok (.putfield 231, 3) := by decide +kernel
theorem dX9_lookAt_122 : decode cX9_lookAt 122 = .ok (.aload_n 0, 1) := by decide +kernel
theorem dX9_lookAt_123 : decode cX9_lookAt 123 = .ok (.getfield 234, 3) := by decide +kernel
theorem dX9_lookAt_126 : decode cX9_lookAt 126 = .ok (.iconst 3, 1) := by decide +kernel
theorem dX9_lookAt_127 : decode cX9_lookAt 127 = .ok (.if_icmp .ge 7, 3) := by decide +kernel
theorem dX9_lookAt_130 : decode cX9_lookAt 130 = .ok (.iconst 1, 1) := by decide +kernel
theorem dX9_lookAt_131 : decode cX9_lookAt 131 = .ok (.goto 4, 3) := by decide +kernel
theorem dX9_lookAt_134 : decode cX9_lookAt 134 = .ok (.iconst 0, 1) := by decide +kernel
theorem dX9_lookAt_135 : decode cX9_lookAt 135 = .ok (.istore_n 3, 1) := by decide +kernel
theorem dX9_lookAt_136 : decode cX9_lookAt 136 = .ok (.iload_n 3, 1) := by decide +kernel
theorem dX9_lookAt_137 : decode cX9_lookAt 137 = .ok (.ifCond .eq 78, 3) := by decide +kernel
theorem dX9_lookAt_140 : decode cX9_lookAt 140 = .ok (.aload_n 0, 1) := by decide +kernel
theorem dX9_lookAt_141 : decode cX9_lookAt 141 = .ok (.getfield 228, 3) := by decide +kernel
theorem dX9_lookAt_144 : decode cX9_lookAt 144 = .ok (.aload_n 0, 1) := by decide +kernel
theorem dX9_lookAt_145 : decode cX9_lookAt 145 = .ok (.getfield 231, 3) := by decide +kernel
theorem dX9_lookAt_148 : decode cX9_lookAt 148 = .ok (.iadd, 1) := by decide +kernel
theorem dX9_lookAt_149 : decode cX9_lookAt 149 = .ok (.aload_n 0, 1) := by decide +kernel
theorem dX9_lookAt_150 : decode cX9_lookAt 150 = .ok (.getfield 216, 3) := by decide +kernel
theorem dX9_lookAt_153 : decode cX9_lookAt 153 = .ok (.if_icmp .ge 62, 3) := by decide +kernel
theorem dX9_lookAt_156 : decode cX9_lookAt 156 = .ok (.aload_n 0, 1) := by decide +kernel
theorem dX9_lookAt_157 : decode cX9_lookAt 157 = .ok (.getfield 42, 3) := by decide +kernel
theorem dX9_lookAt_160 : decode cX9_lookAt 160 = .ok (.aload_n 0, 1) := by decide +kernel
theorem dX9_lookAt_161 : decode cX9_lookAt 161 = .ok (.getfield 228, 3) := by decide +kernel
theorem dX9_lookAt_164 : decode cX9_lookAt 164 = .ok (.aload_n 0, 1) := by decide +kernel
theorem dX9_lookAt_165 : decode cX9_lookAt 165 = .ok (.getfield 231, 3) := by decide +kernel
theorem dX9_lookAt_168 : decode cX9_lookAt 168 = .ok (.iadd, 1) := by decide +kernel
theorem dX9_lookAt_169 : decode cX9_lookAt 169 = .ok (.iaload, 1) := by decide +kernel
theorem dX9_lookAt_170 : decode cX9_lookAt 170 = .ok (.istore 4, 2) := by decide +kernel
theorem dX9_lookAt_172 : decode cX9_lookAt 172 = .ok (.aload_n 0, 1) := by decide +kernel
theorem dX9_lookAt_173 : decode cX9_lookAt 173 = .ok (.getfield 234, 3) := by decide +kernel
theorem dX9_lookAt_176 : decode cX9_lookAt 176 = .ok (.iconst 1, 1) := by decide +kernel
theorem dX9_lookAt_177 : decode cX9_lookAt 177 = .ok (.if_icmp .ne 11, 3) := by decide +kernel
theorem dX9_lookAt_180 : decode cX9_lookAt 180 = .ok (.iload 4, 2) := by decide +kernel
theorem dX9_lookAt_182 : decode cX9_lookAt 182 = .ok (.invokestatic 240, 3) := by decide +kernel
theorem dX9_lookAt_185 : decode cX9_lookAt 185 = .ok (.goto 8, 3) := by decide +kernel
theorem dX9_lookAt_188 : decode cX9_lookAt 188 = .ok (.iload 4, 2) := by decide +kernel
theorem dX9_lookAt_190 : decode cX9_lookAt 190 = .ok (.invokestatic 243, 3) := by decide +kernel
theorem dX9_lookAt_193 : decode cX9_lookAt 193 = .ok (.istore_n 3, 1) := by decide +kernel
theorem dX9_lookAt_194 : decode cX9_lookAt 194 = .ok (.aload_n 0, 1) := by decide +kernel
theorem dX9_lookAt_195 : decode cX9_lookAt 195 = .ok (.dup, 1) := by decide +kernel
theorem dX9_lookAt_196 : decode cX9_lookAt 196 = .ok (.getfield 231, 3) := by decide +kernel
theorem dX9_lookAt_199 : decode cX9_lookAt 199 = .ok (.iload_n 3, 1) := by decide +kernel
theorem dX9_lookAt_200 : decode cX9_lookAt 200 = .ok (.ifCond .eq 7, 3) := by decide +kernel
theorem dX9_lookAt_203 : decode cX9_lookAt 203 = .ok (.iconst 1, 1) := by decide +kernel
theorem dX9_lookAt_204 : decode cX9_lookAt 204 = .ok (.goto 4, 3) := by decide +kernel
theorem dX9_lookAt_207 : decode cX9_lookAt 207 = .ok (.iconst 0, 1) := by decide +kernel
theorem dX9_lookAt_208 : decode cX9_lookAt 208 = .ok (.iadd, 1) := by decide +kernel
theorem dX9_lookAt_209 : decode cX9_lookAt 209 = .ok (.putfield 231, 3) := by decide +kernel
theorem dX9_lookAt_212 : decode cX9_lookAt 212 = .ok (.goto (-76), 3) := by decide +kernel
theorem dX9_lookAt_215 : decode cX9_lookAt 215 = .ok (.iconst 0, 1) := by decide +kernel
theorem dX9_lookAt_216 : decode cX9_lookAt 216 = .ok (.istore 4, 2) := by decide +kernel
theorem dX9_lookAt_218 : decode cX9_lookAt 218 = .ok (.iload 4, 2) := by decide +kernel
theorem dX9_lookAt_220 : decode cX9_lookAt 220 = .ok (.aload_n 0, 1) := by decide +kernel
theorem dX9_lookAt_221 : decode cX9_lookAt 221 = .ok (.getfield 231, 3) := by decide +kernel
theorem dX9_lookAt_224 : decode cX9_lookAt 224 = .ok (.if_icmp .ge 50, 3) := by decide +kernel
theorem dX9_lookAt_227 : decode cX9_lookAt 227 = .ok (.iload 4, 2) := by decide +kernel
theorem dX9_lookAt_229 : decode cX9_lookAt 229 = .ok (.iconst 2, 1) := by decide +kernel
theorem dX9_lookAt_230 : decode cX9_lookAt 230 = .ok (.if_icmp .ge 44, 3) := by decide +kernel
theorem dX9_lookAt_233 : decode cX9_lookAt 233 = .ok (.aload_n 0, 1) := by decide +kernel
theorem dX9_lookAt_234 : decode cX9_lookAt 234 = .ok (.getfield 234, 3) := by decide +kernel
theorem dX9_lookAt_237 : decode cX9_lookAt 237 = .ok (.iconst 2, 1) := by decide +kernel
theorem dX9_lookAt_238 : decode cX9_lookAt 238 = .ok (.if_icmp .ne 36, 3) := by decide +kernel
theorem dX9_lookAt_241 : decode cX9_lookAt 241 = .ok (.aload_n 0, 1) := by decide +kernel
theorem dX9_lookAt_242 : decode cX9_lookAt 242 = .ok (.bipush 10, 2) := by decide +kernel
theorem dX9_lookAt_244 : decode cX9_lookAt 244 = .ok (.aload_n 0, 1) := by decide +kernel
theorem dX9_lookAt_245 : decode cX9_lookAt 245 = .ok (.getfield 237, 3) := by decide +kernel
theorem dX9_lookAt_248 : decode cX9_lookAt 248 = .ok (.imul, 1) := by decide +kernel
theorem dX9_lookAt_249 : decode cX9_lookAt 249 = .ok (.aload_n 0, 1) := by decide +kernel
theorem dX9_lookAt_250 : decode cX9_lookAt 250 = .ok (.getfield 42, 3) := by decide +kernel
theorem dX9_lookAt_253 : decode cX9_lookAt 253 = .ok (.aload_n 0, 1) := by decide +kernel
theorem dX9_lookAt_254 : decode cX9_lookAt 254 = .ok (.getfield 228, 3) := by decide +kernel
theorem dX9_lookAt_257 : decode cX9_lookAt 257 = .ok (.iload 4, 2) := by decide +kernel
theorem dX9_lookAt_259 : decode cX9_lookAt 259 = .ok (.iadd, 1) := by decide +kernel
theorem dX9_lookAt_260 : decode cX9_lookAt 260 = .ok (.iaload, 1) := by decide +kernel
theorem dX9_lookAt_261 : decode cX9_lookAt 261 = .ok (.iadd, 1) := by decide +kernel
theorem dX9_lookAt_262 : decode cX9_lookAt 262 = .ok (.bipush 48, 2) := by decide +kernel
theorem dX9_lookAt_264 : decode cX9_lookAt 264 = .ok (.isub, 1) := by decide +kernel
theorem dX9_lookAt_265 : decode cX9_lookAt 265 = .ok (.putfield 237, 3) := by decide +kernel
theorem dX9_lookAt_268 : decode cX9_lookAt 268 = .ok (.iinc 4 1, 3) := by decide +kernel
theorem dX9_lookAt_271 : decode cX9_lookAt 271 = .ok (.goto (-53), 3) := by decide +kernel
theorem dX9_lookAt_274 : decode cX9_lookAt 274 = .ok (.aload_n 0, 1) := by decide +kernel
theorem dX9_lookAt_275 : decode cX9_lookAt 275 = .ok (.aload_n 0, 1) := by decide +kernel
theorem dX9_lookAt_276 : decode cX9_lookAt 276 = .ok (.getfield 234, 3) := by decide +kernel
theorem dX9_lookAt_279 : decode cX9_lookAt 279 = .ok (.iconst 2, 1) := by decide +kernel
theorem dX9_lookAt_280 : decode cX9_lookAt 280 = .ok (.if_icmp .ne 15, 3) := by decide +kernel
theorem dX9_lookAt_283 : decode cX9_lookAt 283 = .ok (.aload_n 0, 1) := by decide +kernel
theorem dX9_lookAt_284 : decode cX9_lookAt 284 = .ok (.getfield 231, 3) := by decide +kernel
theorem dX9_lookAt_287 : decode cX9_lookAt 287 = .ok (.iconst 2, 1) := by decide +kernel
theorem dX9_lookAt_288 : decode cX9_lookAt 288 = .ok (.if_icmp .le 7, 3) := by decide +kernel
theorem dX9_lookAt_291 : decode cX9_lookAt 291 = .ok (.iconst 4, 1) := by decide +kernel
theorem dX9_lookAt_292 : decode cX9_lookAt 292 = .ok (.goto 7, 3) := by decide +kernel
theorem dX9_lookAt_295 : decode cX9_lookAt 295 = .ok (.aload_n 0, 1) := by decide +kernel
theorem dX9_lookAt_296 : decode cX9_lookAt 296 = .ok (.getfield 234, 3) := by decide +kernel
theorem dX9_lookAt_299 : decode cX9_lookAt 299 = .ok (.putfield 234, 3) := by decide +kernel
theorem dX9_lookAt_302 : decode cX9_lookAt 302 = .ok (.return_, 1) := by decide +kernel
set_option maxRecDepth 20000 in
theorem ggX9_goBehind_X9_lookAt : GoodIn wsX9_goBehind wsX9_lookAt := goodIn_r _ [7, 1, 8, 9, 2, 10, 11, 12, 13, 6, 14, 15, 16, 17, 18, 19, 20, 21, 22, 23, 24, 25, 26, 27, 28, 29, 30, 31, 32, 33, 34, 35, 36, 37, 38, 39, 40, 41, 42, 43] (by decide +kernel) (by decide +kernel)
set_option maxRecDepth 20000 in
theorem gX9_goBehind_X9_lookAt : GoodIn wsX9_goBehind (wsV RX9 246 RX9 yX9_lookAt wsX9_lookAt) := goodIn_app (goodIn_of _ (by decide +kernel)) ggX9_goBehind_X9_lookAt
theorem dX9_goBehind_0 : decode cX9_goBehind 0 = .ok (.aload_n 0, 1) := by decide +kernel
theorem dX9_goBehind_1 : decode cX9_goBehind 1 = .ok (.aload_n 0, 1) := by decide +kernel
theorem dX9_goBehind_2 : decode cX9_goBehind 2 = .ok (.getfield 228, 3) := by decide +kernel
theorem dX9_goBehind_5 : decode cX9_goBehind 5 = .ok (.aload_n 0, 1) := by decide +kernel
theorem dX9_goBehind_6 : decode cX9_goBehind 6 = .ok (.getfield 231, 3) := by decide +kernel
theorem dX9_goBehind_9 : decode cX9_goBehind 9 = .ok (.iadd, 1) := by decide +kernel
theorem dX9_goBehind_10 : decode cX9_goBehind 10 = .ok (.invokevirtual 246, 3) := by decide +kernel
theorem dX9_goBehind_13 : decode cX9_goBehind 13 = .ok (.return_, 1) := by decide +kernel
theorem dX9_spells_0 : decode cX9_spells 0 = .ok (.aload_n 0, 1) := by decide +kernel
theorem dX9_spells_1 : decode cX9_spells 1 = .ok (.getfield 234, 3) := by decide +kernel
theorem dX9_spells_4 : decode cX9_spells 4 = .ok (.iconst 1, 1) := by decide +kernel
theorem dX9_spells_5 : decode cX9_spells 5 = .ok (.if_icmp .ne 15, 3) := by decide +kernel
theorem dX9_spells_8 : decode cX9_spells 8 = .ok (.aload_n 0, 1) := by decide +kernel
theorem dX9_spells_9 : decode cX9_spells 9 = .ok (.getfield 231, 3) := by decide +kernel
theorem dX9_spells_12 : decode cX9_spells 12 = .ok (.iload_n 1, 1) := by decide +kernel
theorem dX9_spells_13 : decode cX9_spells 13 = .ok (.if_icmp .ne 7, 3) := by decide +kernel
theorem dX9_spells_16 : decode cX9_spells 16 = .ok (.iconst 1, 1) := by decide +kernel
theorem dX9_spells_17 : decode cX9_spells 17 = .ok (.goto 4, 3) := by decide +kernel
theorem dX9_spells_20 : decode cX9_spells 20 = .ok (.iconst 0, 1) := by decide +kernel
theorem dX9_spells_21 : decode cX9_spells 21 = .ok (.istore 8, 2) := by decide +kernel
theorem dX9_spells_23 : decode cX9_spells 23 = .ok (.iconst 0, 1) := by decide +kernel
theorem dX9_spells_24 : decode cX9_spells 24 = .ok (.istore 9, 2) := by decide +kernel
theorem dX9_spells_26 : decode cX9_spells 26 = .ok (.iload 9, 2) := by decide +kernel
theorem dX9_spells_28 : decode cX9_spells 28 = .ok (.iload_n 1, 1) := by decide +kernel
theorem dX9_spells_29 : decode cX9_spells 29 = .ok (.if_icmp .ge 90, 3) := by decide +kernel
theorem dX9_spells_32 : decode cX9_spells 32 = .ok (.iload 8, 2) := by decide +kernel
theorem dX9_spells_34 : decode cX9_spells 34 = .ok (.ifCond .eq 85, 3) := by decide +kernel
theorem dX9_spells_37 : decode cX9_spells 37 = .ok (.aload_n 0, 1) := by decide +kernel
theorem dX9_spells_38 : decode cX9_spells 38 = .ok (.getfield 42, 3) := by decide +kernel
theorem dX9_spells_41 : decode cX9_spells 41 = .ok (.aload_n 0, 1) := by decide +kernel
theorem dX9_spells_42 : decode cX9_spells 42 = .ok (.getfield 228, 3) := by decide +kernel
theorem dX9_spells_45 : decode cX9_spells 45 = .ok (.iload 9, 2) := by decide +kernel
theorem dX9_spells_47 : decode cX9_spells 47 = .ok (.iadd, 1) := by decide +kernel
theorem dX9_spells_48 : decode cX9_spells 48 = .ok (.iaload, 1) := by decide +kernel
theorem dX9_spells_49 : decode cX9_spells 49 = .ok (.iload 9, 2) := by decide +kernel
theorem dX9_spells_51 : decode cX9_spells 51 = .ok (.ifCond .ne 7, 3) := by decide +kernel
theorem dX9_spells_54 : decode cX9_spells 54 = .ok (.iload_n 2, 1) := by decide +kernel
theorem dX9_spells_55 : decode cX9_spells 55 = .ok (.goto 48, 3) := by decide +kernel
theorem dX9_spells_58 : decode cX9_spells 58 = .ok (.iload 9, 2) := by decide +kernel
theorem dX9_spells_60 : decode cX9_spells 60 = .ok (.iconst 1, 1) := by decide +kernel
theorem dX9_spells_61 : decode cX9_spells 61 = .ok (.if_icmp .ne 7, 3) := by decide +kernel
theorem dX9_spells_64 : decode cX9_spells 64 = .ok (.iload_n 3, 1) := by decide +kernel
theorem dX9_spells_65 : decode cX9_spells 65 = .ok (.goto 38, 3) := by decide +kernel
theorem dX9_spells_68 : decode cX9_spells 68 = .ok (.iload 9, 2) := by decide +kernel
theorem dX9_spells_70 : decode cX9_spells 70 = .ok (.iconst 2, 1) := by decide +kernel
theorem dX9_spells_71 : decode cX9_spells 71 = .ok (.if_icmp .ne 8, 3) := by decide +kernel
theorem dX9_spells_74 : decode cX9_spells 74 = .ok (.iload 4, 2) := by decide +kernel
theorem dX9_spells_76 : decode cX9_spells 76 = .ok (.goto 27, 3) := by decide +kernel
theorem dX9_spells_79 : decode cX9_spells 79 = .ok (.iload 9, 2) := by decide +kernel
theorem dX9_spells_81 : decode cX9_spells 81 = .ok (.iconst 3, 1) := by decide +kernel
theorem dX9_spells_82 : decode cX9_spells 82 = .ok (.if_icmp .ne 8, 3) := by decide +kernel
theorem dX9_spells_85 : decode cX9_spells 85 = .ok (.iload 5, 2) := by decide +kernel
theorem dX9_spells_87 : decode cX9_spells 87 = .ok (.goto 16, 3) := by decide +kernel
theorem dX9_spells_90 : decode cX9_spells 90 = .ok (.iload 9, 2) := by decide +kernel
theorem dX9_spells_92 : decode cX9_spells 92 = .ok (.iconst 4, 1) := by decide +kernel
theorem dX9_spells_93 : decode cX9_spells 93 = .ok (.if_icmp .ne 8, 3) := by decide +kernel
theorem dX9_spells_96 : decode cX9_spells 96 = .ok (.iload 6, 2) := by decide +kernel
theorem dX9_spells_98 : decode cX9_spells 98 = .ok (.goto 5, 3) := by decide +kernel
theorem dX9_spells_101 : decode cX9_spells 101 = .ok (.iload 7, 2) := by decide +kernel
theorem dX9_spells_103 : decode cX9_spells 103 = .ok (.if_icmp .ne 7, 3) := by decide +kernel
theorem dX9_spells_106 : decode cX9_spells 106 = .ok (.iconst 1, 1) := by decide +kernel
theorem dX9_spells_107 : decode cX9_spells 107 = .ok (.goto 4, 3) := by decide +kernel
theorem dX9_spells_110 : decode cX9_spells 110 = .ok (.iconst 0, 1) := by decide +kernel
theorem dX9_spells_111 : decode cX9_spells 111 = .ok (.istore 8, 2) := by decide +kernel
theorem dX9_spells_113 : decode cX9_spells 113 = .ok (.iinc 9 1, 3) := by decide +kernel
theorem dX9_spells_116 : decode cX9_spells 116 = .ok (.goto (-90), 3) := by decide +kernel
theorem dX9_spells_119 : decode cX9_spells 119 = .ok (.iload 8, 2) := by decide +kernel
theorem dX9_spells_121 : decode cX9_spells 121 = .ok (.ireturn, 1) := by decide +kernel
set_option maxRecDepth 20000 in
theorem ggX9_takes_X9_in : GoodIn wsX9_takes wsX9_in := goodIn_r _ [7] (by decide +kernel) (by decide +kernel)
set_option maxRecDepth 20000 in
theorem gX9_takes_X9_in : GoodIn wsX9_takes (va_wsS RX9 59 yX9_in wsX9_in) := goodIn_app (goodIn_of _ (by decide +kernel)) ggX9_takes_X9_in
set_option maxRecDepth 20000 in
theorem ggX9_takes_X9_goBehind : GoodIn wsX9_takes wsX9_goBehind := goodIn_r _ [11, 12, 13, 14, 15, 16, 6, 17, 18, 19, 1, 2, 20, 21, 22, 23, 24, 4, 5, 7, 25, 26, 27, 28, 29, 30, 31, 32, 33, 34, 35, 36, 37, 38, 39, 40, 41, 42, 43, 44, 45, 46, 47, 48] (by decide +kernel) (by decide +kernel)
set_option maxRecDepth 20000 in
theorem gX9_takes_X9_goBehind : GoodIn wsX9_takes (wsV RX9 250 RX9 yX9_goBehind wsX9_goBehind) := goodIn_app (goodIn_of _ (by decide +kernel)) ggX9_takes_X9_goBehind
theorem dX9_takes_0 : decode cX9_takes 0 = .ok (.aload_n 0, 1) := by decide +kernel
theorem dX9_takes_1 : decode cX9_takes 1 = .ok (.getfield 234, 3) := by decide +kernel
theorem dX9_takes_4 : decode cX9_takes 4 = .ok (.iconst 2, 1) := by decide +kernel
theorem dX9_takes_5 : decode cX9_takes 5 = .ok (.if_icmp .ne 18, 3) := by decide +kernel
theorem dX9_takes_8 : decode cX9_takes 8 = .ok (.aload_n 0, 1) := by decide +kernel
theorem dX9_takes_9 : decode cX9_takes 9 = .ok (.getfield 237, 3) := by decide +kernel
theorem dX9_takes_12 : decode cX9_takes 12 = .ok (.i2l, 1) := by decide +kernel
theorem dX9_takes_13 : decode cX9_takes 13 = .ok (.iload_n 2, 1) := by decide +kernel
theorem dX9_takes_14 : decode cX9_takes 14 = .ok (.i2l, 1) := by decide +kernel
theorem dX9_takes_15 : decode cX9_takes 15 = .ok (.iload_n 3, 1) := by decide +kernel
theorem dX9_takes_16 : decode cX9_takes 16 = .ok (.i2l, 1) := by decide +kernel
theorem dX9_takes_17 : decode cX9_takes 17 = .ok (.invokestatic 59, 3) := by decide +kernel
theorem dX9_takes_20 : decode cX9_takes 20 = .ok (.ifCond .ne 5, 3) := by decide +kernel
theorem dX9_takes_23 : decode cX9_takes 23 = .ok (.iconst 0, 1) := by decide +kernel
theorem dX9_takes_24 : decode cX9_takes 24 = .ok (.ireturn, 1) := by decide +kernel
theorem dX9_takes_25 : decode cX9_takes 25 = .ok (.aload_n 0, 1) := by decide +kernel
theorem dX9_takes_26 : decode cX9_takes 26 = .ok (.getfield 48, 3) := by decide +kernel
theorem dX9_takes_29 : decode cX9_takes 29 = .ok (.iload_n 1, 1) := by decide +kernel
theorem dX9_takes_30 : decode cX9_takes 30 = .ok (.aload_n 0, 1) := by decide +kernel
theorem dX9_takes_31 : decode cX9_takes 31 = .ok (.getfield 237, 3) := by decide +kernel
theorem dX9_takes_34 : decode cX9_takes 34 = .ok (.iastore, 1) := by decide +kernel
theorem dX9_takes_35 : decode cX9_takes 35 = .ok (.aload_n 0, 1) := by decide +kernel
theorem dX9_takes_36 : decode cX9_takes 36 = .ok (.invokevirtual 250, 3) := by decide +kernel
theorem dX9_takes_39 : decode cX9_takes 39 = .ok (.iconst 1, 1) := by decide +kernel
theorem dX9_takes_40 : decode cX9_takes 40 = .ok (.ireturn, 1) := by decide +kernel
set_option maxRecDepth 20000 in
theorem ggX9_takesWet_X9_goBehind : GoodIn wsX9_takesWet wsX9_goBehind := goodIn_r _ [8, 9, 10, 11, 12, 13, 7, 14, 15, 16, 1, 17, 18, 19, 20, 21, 22, 23, 24, 25, 26, 27, 28, 29, 30, 35, 36, 37, 38, 39, 40, 41, 42, 43, 44, 45, 46, 47, 48, 49, 50, 51, 52, 53] (by decide +kernel) (by decide +kernel)
set_option maxRecDepth 20000 in
theorem gX9_takesWet_X9_goBehind : GoodIn wsX9_takesWet (wsV RX9 250 RX9 yX9_goBehind wsX9_goBehind) := goodIn_app (goodIn_of _ (by decide +kernel)) ggX9_takesWet_X9_goBehind
set_option maxRecDepth 20000 in
theorem ggX9_takesWet_X9_takes : GoodIn wsX9_takesWet wsX9_takes := goodIn_r _ [34, 1, 17, 3, 23, 24, 7, 25, 4, 5, 6, 8, 9, 10, 11, 12, 13, 14, 15, 16, 18, 19, 20, 21, 22, 26, 27, 28, 29, 30, 35, 36, 37, 38, 39, 40, 41, 42, 43, 44, 45, 46, 47, 48, 49, 50, 51, 52, 53] (by decide +kernel) (by decide +kernel)
set_option maxRecDepth 20000 in
theorem gX9_takesWet_X9_takes : GoodIn wsX9_takesWet (wsV RX9 253 RX9 yX9_takes wsX9_takes) := goodIn_app (goodIn_of _ (by decide +kernel)) ggX9_takesWet_X9_takes
theorem dX9_takesWet_0 : decode cX9_takesWet 0 = .ok (.iconst 0, 1) := by decide +kernel
theorem dX9_takesWet_1 : decode cX9_takesWet 1 = .ok (.istore_n 1, 1) := by decide +kernel
theorem dX9_takesWet_2 : decode cX9_takesWet 2 = .ok (.aload_n 0, 1) := by decide +kernel
theorem dX9_takesWet_3 : decode cX9_takesWet 3 = .ok (.invokevirtual 250, 3) := by decide +kernel
theorem dX9_takesWet_6 : decode cX9_takesWet 6 = .ok (.iload_n 1, 1) := by decide +kernel
theorem dX9_takesWet_7 : decode cX9_takesWet 7 = .ok (.ifCond .eq 11, 3) := by decide +kernel
theorem dX9_takesWet_10 : decode cX9_takesWet 10 = .ok (.aload_n 0, 1) := by decide +kernel
theorem dX9_takesWet_11 : decode cX9_takesWet 11 = .ok (.getfield 234, 3) := by decide +kernel
theorem dX9_takesWet_14 : decode cX9_takesWet 14 = .ok (.iconst 3, 1) := by decide +kernel
theorem dX9_takesWet_15 : decode cX9_takesWet 15 = .ok (.if_icmp .eq 42, 3) := by decide +kernel
theorem dX9_takesWet_18 : decode cX9_takesWet 18 = .ok (.iload_n 1, 1) := by decide +kernel
theorem dX9_takesWet_19 : decode cX9_takesWet 19 = .ok (.bipush 6, 2) := by decide +kernel
theorem dX9_takesWet_21 : decode cX9_takesWet 21 = .ok (.if_icmp .eq 13, 3) := by decide +kernel
theorem dX9_takesWet_24 : decode cX9_takesWet 24 = .ok (.aload_n 0, 1) := by decide +kernel
theorem dX9_takesWet_25 : decode cX9_takesWet 25 = .ok (.iconst 0, 1) := by decide +kernel
theorem dX9_takesWet_26 : decode cX9_takesWet 26 = .ok (.iconst 0, 1) := by decide +kernel
theorem dX9_takesWet_27 : decode cX9_takesWet 27 = .ok (.iconst 4, 1) := by decide +kernel
theorem dX9_takesWet_28 : decode cX9_takesWet 28 = .ok (.invokevirtual 253, 3) := by decide +kernel
theorem dX9_takesWet_31 : decode cX9_takesWet 31 = .ok (.ifCond .ne 5, 3) := by decide +kernel
theorem dX9_takesWet_34 : decode cX9_takesWet 34 = .ok (.iconst 0, 1) := by decide +kernel
theorem dX9_takesWet_35 : decode cX9_takesWet 35 = .ok (.ireturn, 1) := by decide +kernel
theorem dX9_takesWet_36 : decode cX9_takesWet 36 = .ok (.aload_n 0, 1) := by decide +kernel
theorem dX9_takesWet_37 : decode cX9_takesWet 37 = .ok (.getfield 45, 3) := by decide +kernel
theorem dX9_takesWet_40 : decode cX9_takesWet 40 = .ok (.bipush 25, 2) := by decide +kernel
theorem dX9_takesWet_42 : decode cX9_takesWet 42 = .ok (.iload_n 1, 1) := by decide +kernel
theorem dX9_takesWet_43 : decode cX9_takesWet 43 = .ok (.iadd, 1) := by decide +kernel
theorem dX9_takesWet_44 : decode cX9_takesWet 44 = .ok (.aload_n 0, 1) := by decide +kernel
theorem dX9_takesWet_45 : decode cX9_takesWet 45 = .ok (.getfield 48, 3) := by decide +kernel
theorem dX9_takesWet_48 : decode cX9_takesWet 48 = .ok (.iconst 0, 1) := by decide +kernel
theorem dX9_takesWet_49 : decode cX9_takesWet 49 = .ok (.iaload, 1) := by decide +kernel
theorem dX9_takesWet_50 : decode cX9_takesWet 50 = .ok (.iastore, 1) := by decide +kernel
theorem dX9_takesWet_51 : decode cX9_takesWet 51 = .ok (.iinc 1 1, 3) := by decide +kernel
theorem dX9_takesWet_54 : decode cX9_takesWet 54 = .ok (.goto (-48), 3) := by decide +kernel
theorem dX9_takesWet_57 : decode cX9_takesWet 57 = .ok (.iconst 1, 1) := by decide +kernel
theorem dX9_takesWet_58 : decode cX9_takesWet 58 = .ok (.ireturn, 1) := by decide +kernel
set_option maxRecDepth 20000 in
theorem ggX9_takesOne_X9_goBehind : GoodIn wsX9_takesOne wsX9_goBehind := goodIn_r _ [7, 8, 9, 10, 11, 12, 6, 13, 14, 15, 16, 17, 18, 19, 20, 21, 22, 23, 24, 25, 26, 27, 28, 29, 30, 38, 39, 40, 41, 42, 43, 44, 45, 46, 47, 48, 49, 50, 51, 52, 53, 54, 55, 56] (by decide +kernel) (by decide +kernel)
set_option maxRecDepth 20000 in
theorem gX9_takesOne_X9_goBehind : GoodIn wsX9_takesOne (wsV RX9 250 RX9 yX9_goBehind wsX9_goBehind) := goodIn_app (goodIn_of _ (by decide +kernel)) ggX9_takesOne_X9_goBehind
set_option maxRecDepth 20000 in
theorem ggX9_takesOne_X9_takes : GoodIn wsX9_takesOne wsX9_takes := goodIn_r _ [34, 16, 17, 2, 23, 24, 6, 25, 3, 4, 5, 7, 8, 9, 10, 11, 12, 13, 14, 15, 18, 19, 20, 21, 22, 26, 27, 28, 29, 30, 38, 39, 40, 41, 42, 43, 44, 45, 46, 47, 48, 49, 50, 51, 52, 53, 54, 55, 56] (by decide +kernel) (by decide +kernel)
set_option maxRecDepth 20000 in
theorem gX9_takesOne_X9_takes : GoodIn wsX9_takesOne (wsV RX9 253 RX9 yX9_takes wsX9_takes) := goodIn_app (goodIn_of _ (by decide +kernel)) ggX9_takesOne_X9_takes
set_option maxRecDepth 20000 in
theorem ggX9_takesOne_X9_layOne : GoodIn wsX9_takesOne wsX9_layOne := goodIn_r _ [37] (by decide +kernel) (by decide +kernel)
set_option maxRecDepth 20000 in
theorem gX9_takesOne_X9_layOne : GoodIn wsX9_takesOne (va_wsS RX9 88 yX9_layOne wsX9_layOne) := goodIn_app (goodIn_of _ (by decide +kernel)) ggX9_takesOne_X9_layOne
theorem dX9_takesOne_0 : decode cX9_takesOne 0 = .ok (.aload_n 0, 1) := by decide +kernel
theorem dX9_takesOne_1 : decode cX9_takesOne 1 = .ok (.getfield 45, 3) := by decide +kernel
theorem dX9_takesOne_4 : decode cX9_takesOne 4 = .ok (.iconst 0, 1) := by decide +kernel
theorem dX9_takesOne_5 : decode cX9_takesOne 5 = .ok (.iaload, 1) := by decide +kernel
theorem dX9_takesOne_6 : decode cX9_takesOne 6 = .ok (.bipush 7, 2) := by decide +kernel
theorem dX9_takesOne_8 : decode cX9_takesOne 8 = .ok (.if_icmp .ne 5, 3) := by decide +kernel
theorem dX9_takesOne_11 : decode cX9_takesOne 11 = .ok (.iconst 0, 1) := by decide +kernel
theorem dX9_takesOne_12 : decode cX9_takesOne 12 = .ok (.ireturn, 1) := by decide +kernel
theorem dX9_takesOne_13 : decode cX9_takesOne 13 = .ok (.aload_n 0, 1) := by decide +kernel
theorem dX9_takesOne_14 : decode cX9_takesOne 14 = .ok (.invokevirtual 250, 3) := by decide +kernel
theorem dX9_takesOne_17 : decode cX9_takesOne 17 = .ok (.aload_n 0, 1) := by decide +kernel
theorem dX9_takesOne_18 : decode cX9_takesOne 18 = .ok (.iconst 0, 1) := by decide +kernel
theorem dX9_takesOne_19 : decode cX9_takesOne 19 = .ok (.iconst 0, 1) := by decide +kernel
theorem dX9_takesOne_20 : decode cX9_takesOne 20 = .ok (.iconst 5, 1) := by decide +kernel
theorem dX9_takesOne_21 : decode cX9_takesOne 21 = .ok (.invokevirtual 253, 3) := by decide +kernel
theorem dX9_takesOne_24 : decode cX9_takesOne 24 = .ok (.ifCond .eq 14, 3) := by decide +kernel
theorem dX9_takesOne_27 : decode cX9_takesOne 27 = .ok (.aload_n 0, 1) := by decide +kernel
theorem dX9_takesOne_28 : decode cX9_takesOne 28 = .ok (.iconst 1, 1) := by decide +kernel
theorem dX9_takesOne_29 : decode cX9_takesOne 29 = .ok (.iconst 0, 1) := by decide +kernel
theorem dX9_takesOne_30 : decode cX9_takesOne 30 = .ok (.bipush 9, 2) := by decide +kernel
theorem dX9_takesOne_32 : decode cX9_takesOne 32 = .ok (.invokevirtual 253, 3) := by decide +kernel
theorem dX9_takesOne_35 : decode cX9_takesOne 35 = .ok (.ifCond .ne 5, 3) := by decide +kernel
theorem dX9_takesOne_38 : decode cX9_takesOne 38 = .ok (.iconst 0, 1) := by decide +kernel
theorem dX9_takesOne_39 : decode cX9_takesOne 39 = .ok (.ireturn, 1) := by decide +kernel
theorem dX9_takesOne_40 : decode cX9_takesOne 40 = .ok (.aload_n 0, 1) := by decide +kernel
theorem dX9_takesOne_41 : decode cX9_takesOne 41 = .ok (.getfield 45, 3) := by decide +kernel
theorem dX9_takesOne_44 : decode cX9_takesOne 44 = .ok (.aload_n 0, 1) := by decide +kernel
theorem dX9_takesOne_45 : decode cX9_takesOne 45 = .ok (.getfield 48, 3) := by decide +kernel
theorem dX9_takesOne_48 : decode cX9_takesOne 48 = .ok (.iconst 0, 1) := by decide +kernel
theorem dX9_takesOne_49 : decode cX9_takesOne 49 = .ok (.iaload, 1) := by decide +kernel
theorem dX9_takesOne_50 : decode cX9_takesOne 50 = .ok (.aload_n 0, 1) := by decide +kernel
theorem dX9_takesOne_51 : decode cX9_takesOne 51 = .ok (.getfield 48, 3) := by decide +kernel
theorem dX9_takesOne_54 : decode cX9_takesOne 54 = .ok (.iconst 1, 1) := by decide +kernel
theorem dX9_takesOne_55 : decode cX9_takesOne 55 = .ok (.iaload, 1) := by decide +kernel
theorem dX9_takesOne_56 : decode cX9_takesOne 56 = .ok (.invokestatic 88, 3) := by decide +kernel
theorem dX9_takesOne_59 : decode cX9_takesOne 59 = .ok (.iconst 1, 1) := by decide +kernel
theorem dX9_takesOne_60 : decode cX9_takesOne 60 = .ok (.ireturn, 1) := by decide +kernel
set_option maxRecDepth 20000 in
theorem ggX9_isNumberOf_X9_in : GoodIn wsX9_isNumberOf wsX9_in := goodIn_r _ [7] (by decide +kernel) (by decide +kernel)
set_option maxRecDepth 20000 in
theorem gX9_isNumberOf_X9_in : GoodIn wsX9_isNumberOf (va_wsS RX9 59 yX9_in wsX9_in) := goodIn_app (goodIn_of _ (by decide +kernel)) ggX9_isNumberOf_X9_in
set_option maxRecDepth 20000 in
theorem ggX9_isNumberOf_X9_has : GoodIn wsX9_isNumberOf wsX9_has := goodIn_r _ [10] (by decide +kernel) (by decide +kernel)
set_option maxRecDepth 20000 in
theorem gX9_isNumberOf_X9_has : GoodIn wsX9_isNumberOf (va_wsS RX9 106 yX9_has wsX9_has) := goodIn_app (goodIn_of _ (by decide +kernel)) ggX9_isNumberOf_X9_has
theorem dX9_isNumberOf_0 : decode cX9_isNumberOf 0 = .ok (.aload_n 0, 1) := by decide +kernel
theorem dX9_isNumberOf_1 : decode cX9_isNumberOf 1 = .ok (.getfield 234, 3) := by decide +kernel
theorem dX9_isNumberOf_4 : decode cX9_isNumberOf 4 = .ok (.iconst 2, 1) := by decide +kernel
theorem dX9_isNumberOf_5 : decode cX9_isNumberOf 5 = .ok (.if_icmp .ne 46, 3) := by decide +kernel
theorem dX9_isNumberOf_8 : decode cX9_isNumberOf 8 = .ok (.aload_n 0, 1) := by decide +kernel
theorem dX9_isNumberOf_9 : decode cX9_isNumberOf 9 = .ok (.getfield 237, 3) := by decide +kernel
theorem dX9_isNumberOf_12 : decode cX9_isNumberOf 12 = .ok (.i2l, 1) := by decide +kernel
theorem dX9_isNumberOf_13 : decode cX9_isNumberOf 13 = .ok (.lconst 0, 1) := by decide +kernel
theorem dX9_isNumberOf_14 : decode cX9_isNumberOf 14 = .ok (.aload_n 0, 1) := by decide +kernel
theorem dX9_isNumberOf_15 : decode cX9_isNumberOf 15 = .ok (.getfield 45, 3) := by decide +kernel
theorem dX9_isNumberOf_18 : decode cX9_isNumberOf 18 = .ok (.iconst 0, 1) := by decide +kernel
theorem dX9_isNumberOf_19 : decode cX9_isNumberOf 19 = .ok (.iaload, 1) := by decide +kernel
theorem dX9_isNumberOf_20 : decode cX9_isNumberOf 20 = .ok (.iconst 1, 1) := by decide +kernel
theorem dX9_isNumberOf_21 : decode cX9_isNumberOf 21 = .ok (.isub, 1) := by decide +kernel
theorem dX9_isNumberOf_22 : decode cX9_isNumberOf 22 = .ok (.i2l, 1) := by decide +kernel
theorem dX9_isNumberOf_23 : decode cX9_isNumberOf 23 = .ok (.invokestatic 59, 3) := by decide +kernel
theorem dX9_isNumberOf_26 : decode cX9_isNumberOf 26 = .ok (.ifCond .eq 25, 3) := by decide +kernel
theorem dX9_isNumberOf_29 : decode cX9_isNumberOf 29 = .ok (.aload_n 0, 1) := by decide +kernel
theorem dX9_isNumberOf_30 : decode cX9_isNumberOf 30 = .ok (.getfield 45, 3) := by decide +kernel
theorem dX9_isNumberOf_33 : decode cX9_isNumberOf 33 = .ok (.bipush 19, 2) := by decide +kernel
theorem dX9_isNumberOf_35 : decode cX9_isNumberOf 35 = .ok (.iaload, 1) := by decide +kernel
theorem dX9_isNumberOf_36 : decode cX9_isNumberOf 36 = .ok (.aload_n 0, 1) := by decide +kernel
theorem dX9_isNumberOf_37 : decode cX9_isNumberOf 37 = .ok (.getfield 237, 3) := by decide +kernel
theorem dX9_isNumberOf_40 : decode cX9_isNumberOf 40 = .ok (.invokestatic 106, 3) := by decide +kernel
theorem dX9_isNumberOf_43 : decode cX9_isNumberOf 43 = .ok (.iload_n 1, 1) := by decide +kernel
theorem dX9_isNumberOf_44 : decode cX9_isNumberOf 44 = .ok (.if_icmp .ne 7, 3) := by decide +kernel
theorem dX9_isNumberOf_47 : decode cX9_isNumberOf 47 = .ok (.iconst 1, 1) := by decide +kernel
theorem dX9_isNumberOf_48 : decode cX9_isNumberOf 48 = .ok (.goto 4, 3) := by decide +kernel
theorem dX9_isNumberOf_51 : decode cX9_isNumberOf 51 = .ok (.iconst 0, 1) := by decide +kernel
theorem dX9_isNumberOf_52 : decode cX9_isNumberOf 52 = .ok (.ireturn, 1) := by decide +kernel
set_option maxRecDepth 20000 in
theorem ggX9_takesCome_X9_goBehind : GoodIn wsX9_takesCome wsX9_goBehind := goodIn_r _ [7, 8, 9, 10, 11, 12, 6, 13, 14, 15, 16, 2, 17, 18, 19, 20, 21, 22, 23, 24, 25, 26, 27, 28, 29, 67, 68, 69, 70, 71, 72, 73, 74, 75, 76, 77, 78, 79, 80, 81, 82, 83, 84, 85] (by decide +kernel) (by decide +kernel)
set_option maxRecDepth 20000 in
theorem gX9_takesCome_X9_goBehind : GoodIn wsX9_takesCome (wsV RX9 250 RX9 yX9_goBehind wsX9_goBehind) := goodIn_app (goodIn_of _ (by decide +kernel)) ggX9_takesCome_X9_goBehind
set_option maxRecDepth 20000 in
theorem ggX9_takesCome_X9_isNumberOf : GoodIn wsX9_takesCome wsX9_isNumberOf := goodIn_r _ [33, 16, 2, 1, 22, 23, 6, 24, 34, 35, 36, 67, 68, 69, 70, 71, 72, 73, 74, 75, 76, 77, 78, 79, 80, 81, 82, 83, 84, 85] (by decide +kernel) (by decide +kernel)
set_option maxRecDepth 20000 in
theorem gX9_takesCome_X9_isNumberOf : GoodIn wsX9_takesCome (wsV RX9 257 RX9 yX9_isNumberOf wsX9_isNumberOf) := goodIn_app (goodIn_of _ (by decide +kernel)) ggX9_takesCome_X9_isNumberOf
set_option maxRecDepth 20000 in
theorem ggX9_takesCome_X9_goCome : GoodIn wsX9_takesCome wsX9_goCome := goodIn_r _ [39, 40, 41, 6, 42, 34, 35, 36, 43, 44, 45, 46, 47, 48, 49, 50, 51, 52, 53, 54, 55, 56, 57, 58, 59, 60, 61, 62, 63, 64, 65, 66] (by decide +kernel) (by decide +kernel)
set_option maxRecDepth 20000 in
theorem gX9_takesCome_X9_goCome : GoodIn wsX9_takesCome (va_wsS RX9 138 yX9_goCome wsX9_goCome) := goodIn_app (goodIn_of _ (by decide +kernel)) ggX9_takesCome_X9_goCome
theorem dX9_takesCome_0 : decode cX9_takesCome 0 = .ok (.aload_n 0, 1) := by decide +kernel
theorem dX9_takesCome_1 : decode cX9_takesCome 1 = .ok (.invokevirtual 250, 3) := by decide +kernel
theorem dX9_takesCome_4 : decode cX9_takesCome 4 = .ok (.aload_n 0, 1) := by decide +kernel
theorem dX9_takesCome_5 : decode cX9_takesCome 5 = .ok (.iconst 0, 1) := by decide +kernel
theorem dX9_takesCome_6 : decode cX9_takesCome 6 = .ok (.invokevirtual 257, 3) := by decide +kernel
theorem dX9_takesCome_9 : decode cX9_takesCome 9 = .ok (.ifCond .ne 5, 3) := by decide +kernel
theorem dX9_takesCome_12 : decode cX9_takesCome 12 = .ok (.iconst 0, 1) := by decide +kernel
theorem dX9_takesCome_13 : decode cX9_takesCome 13 = .ok (.ireturn, 1) := by decide +kernel
theorem dX9_takesCome_14 : decode cX9_takesCome 14 = .ok (.aload_n 0, 1) := by decide +kernel
theorem dX9_takesCome_15 : decode cX9_takesCome 15 = .ok (.getfield 45, 3) := by decide +kernel
theorem dX9_takesCome_18 : decode cX9_takesCome 18 = .ok (.aload_n 0, 1) := by decide +kernel
theorem dX9_takesCome_19 : decode cX9_takesCome 19 = .ok (.getfield 237, 3) := by decide +kernel
theorem dX9_takesCome_22 : decode cX9_takesCome 22 = .ok (.invokestatic 138, 3) := by decide +kernel
theorem dX9_takesCome_25 : decode cX9_takesCome 25 = .ok (.istore_n 1, 1) := by decide +kernel
theorem dX9_takesCome_26 : decode cX9_takesCome 26 = .ok (.aload_n 0, 1) := by decide +kernel
theorem dX9_takesCome_27 : decode cX9_takesCome 27 = .ok (.invokevirtual 250, 3) := by decide +kernel
theorem dX9_takesCome_30 : decode cX9_takesCome 30 = .ok (.iconst 1, 1) := by decide +kernel
theorem dX9_takesCome_31 : decode cX9_takesCome 31 = .ok (.ireturn, 1) := by decide +kernel
set_option maxRecDepth 20000 in
theorem ggX9_takesGo_X9_goBehind : GoodIn wsX9_takesGo wsX9_goBehind := goodIn_r _ [7, 8, 9, 10, 11, 12, 6, 13, 14, 15, 16, 2, 17, 18, 19, 20, 21, 22, 23, 24, 25, 26, 27, 28, 29, 37, 38, 39, 40, 41, 42, 43, 44, 45, 46, 47, 48, 49, 50, 51, 52, 53, 54, 55] (by decide +kernel) (by decide +kernel)
set_option maxRecDepth 20000 in
theorem gX9_takesGo_X9_goBehind : GoodIn wsX9_takesGo (wsV RX9 250 RX9 yX9_goBehind wsX9_goBehind) := goodIn_app (goodIn_of _ (by decide +kernel)) ggX9_takesGo_X9_goBehind
set_option maxRecDepth 20000 in
theorem ggX9_takesGo_X9_isNumberOf : GoodIn wsX9_takesGo wsX9_isNumberOf := goodIn_r _ [33, 16, 2, 1, 22, 23, 6, 24, 34, 35, 36, 37, 38, 39, 40, 41, 42, 43, 44, 45, 46, 47, 48, 49, 50, 51, 52, 53, 54, 55] (by decide +kernel) (by decide +kernel)
set_option maxRecDepth 20000 in
theorem gX9_takesGo_X9_isNumberOf : GoodIn wsX9_takesGo (wsV RX9 257 RX9 yX9_isNumberOf wsX9_isNumberOf) := goodIn_app (goodIn_of _ (by decide +kernel)) ggX9_takesGo_X9_isNumberOf
theorem dX9_takesGo_0 : decode cX9_takesGo 0 = .ok (.aload_n 0, 1) := by decide +kernel
theorem dX9_takesGo_1 : decode cX9_takesGo 1 = .ok (.invokevirtual 250, 3) := by decide +kernel
theorem dX9_takesGo_4 : decode cX9_takesGo 4 = .ok (.aload_n 0, 1) := by decide +kernel
theorem dX9_takesGo_5 : decode cX9_takesGo 5 = .ok (.iconst 1, 1) := by decide +kernel
theorem dX9_takesGo_6 : decode cX9_takesGo 6 = .ok (.invokevirtual 257, 3) := by decide +kernel
theorem dX9_takesGo_9 : decode cX9_takesGo 9 = .ok (.ifCond .ne 5, 3) := by decide +kernel
theorem dX9_takesGo_12 : decode cX9_takesGo 12 = .ok (.iconst 0, 1) := by decide +kernel
theorem dX9_takesGo_13 : decode cX9_takesGo 13 = .ok (.ireturn, 1) := by decide +kernel
theorem dX9_takesGo_14 : decode cX9_takesGo 14 = .ok (.aload_n 0, 1) := by decide +kernel
theorem dX9_takesGo_15 : decode cX9_takesGo 15 = .ok (.getfield 45, 3) := by decide +kernel
theorem dX9_takesGo_18 : decode cX9_takesGo 18 = .ok (.bipush 19, 2) := by decide +kernel
theorem dX9_takesGo_20 : decode cX9_takesGo 20 = .ok (.dup2, 1) := by decide +kernel
theorem dX9_takesGo_21 : decode cX9_takesGo 21 = .ok (.iaload, 1) := by decide +kernel
theorem dX9_takesGo_22 : decode cX9_takesGo 22 = .ok (.iconst 1, 1) := by decide +kernel
theorem dX9_takesGo_23 : decode cX9_takesGo 23 = .ok (.aload_n 0, 1) := by decide +kernel
theorem dX9_takesGo_24 : decode cX9_takesGo 24 = .ok (.getfield 237, 3) := by decide +kernel
theorem dX9_takesGo_27 : decode cX9_takesGo 27 = .ok (.ishl, 1) := by decide +kernel
theorem dX9_takesGo_28 : decode cX9_takesGo 28 = .ok (.iconst (-1), 1) := by decide +kernel
theorem dX9_takesGo_29 : decode cX9_takesGo 29 = .ok (.ixor, 1) := by decide +kernel
theorem dX9_takesGo_30 : decode cX9_takesGo 30 = .ok (.iand, 1) := by decide +kernel
theorem dX9_takesGo_31 : decode cX9_takesGo 31 = .ok (.iastore, 1) := by decide +kernel
theorem dX9_takesGo_32 : decode cX9_takesGo 32 = .ok (.aload_n 0, 1) := by decide +kernel
theorem dX9_takesGo_33 : decode cX9_takesGo 33 = .ok (.invokevirtual 250, 3) := by decide +kernel
theorem dX9_takesGo_36 : decode cX9_takesGo 36 = .ok (.iconst 1, 1) := by decide +kernel
theorem dX9_takesGo_37 : decode cX9_takesGo 37 = .ok (.ireturn, 1) := by decide +kernel
set_option maxRecDepth 20000 in
theorem ggX9_takesLetter_X9_goBehind : GoodIn wsX9_takesLetter wsX9_goBehind := goodIn_r _ [7, 8, 9, 10, 11, 12, 6, 13, 14, 15, 16, 17, 18, 19, 20, 21, 22, 23, 24, 25, 26, 27, 28, 29, 30, 35, 36, 37, 38, 39, 40, 41, 42, 43, 44, 45, 46, 47, 48, 49, 50, 51, 52, 53] (by decide +kernel) (by decide +kernel)
set_option maxRecDepth 20000 in
theorem gX9_takesLetter_X9_goBehind : GoodIn wsX9_takesLetter (wsV RX9 250 RX9 yX9_goBehind wsX9_goBehind) := goodIn_app (goodIn_of _ (by decide +kernel)) ggX9_takesLetter_X9_goBehind
set_option maxRecDepth 20000 in
theorem ggX9_takesLetter_X9_takes : GoodIn wsX9_takesLetter wsX9_takes := goodIn_r _ [34, 16, 17, 2, 23, 24, 6, 25, 3, 4, 5, 7, 8, 9, 10, 11, 12, 13, 14, 15, 18, 19, 20, 21, 22, 26, 27, 28, 29, 30, 35, 36, 37, 38, 39, 40, 41, 42, 43, 44, 45, 46, 47, 48, 49, 50, 51, 52, 53] (by decide +kernel) (by decide +kernel)
set_option maxRecDepth 20000 in
theorem gX9_takesLetter_X9_takes : GoodIn wsX9_takesLetter (wsV RX9 253 RX9 yX9_takes wsX9_takes) := goodIn_app (goodIn_of _ (by decide +kernel)) ggX9_takesLetter_X9_takes
theorem dX9_takesLetter_0 : decode cX9_takesLetter 0 = .ok (.aload_n 0, 1) := by decide +kernel
theorem dX9_takesLetter_1 : decode cX9_takesLetter 1 = .ok (.invokevirtual 250, 3) := by decide +kernel
theorem dX9_takesLetter_4 : decode cX9_takesLetter 4 = .ok (.aload_n 0, 1) := by decide +kernel
theorem dX9_takesLetter_5 : decode cX9_takesLetter 5 = .ok (.iconst 0, 1) := by decide +kernel
theorem dX9_takesLetter_6 : decode cX9_takesLetter 6 = .ok (.iconst 0, 1) := by decide +kernel
theorem dX9_takesLetter_7 : decode cX9_takesLetter 7 = .ok (.aload_n 0, 1) := by decide +kernel
theorem dX9_takesLetter_8 : decode cX9_takesLetter 8 = .ok (.getfield 45, 3) := by decide +kernel
theorem dX9_takesLetter_11 : decode cX9_takesLetter 11 = .ok (.iconst 0, 1) := by decide +kernel
theorem dX9_takesLetter_12 : decode cX9_takesLetter 12 = .ok (.iaload, 1) := by decide +kernel
theorem dX9_takesLetter_13 : decode cX9_takesLetter 13 = .ok (.iconst 1, 1) := by decide +kernel
theorem dX9_takesLetter_14 : decode cX9_takesLetter 14 = .ok (.isub, 1) := by decide +kernel
theorem dX9_takesLetter_15 : decode cX9_takesLetter 15 = .ok (.invokevirtual 253, 3) := by decide +kernel
theorem dX9_takesLetter_18 : decode cX9_takesLetter 18 = .ok (.ifCond .eq 14, 3) := by decide +kernel
theorem dX9_takesLetter_21 : decode cX9_takesLetter 21 = .ok (.aload_n 0, 1) := by decide +kernel
theorem dX9_takesLetter_22 : decode cX9_takesLetter 22 = .ok (.iconst 1, 1) := by decide +kernel
theorem dX9_takesLetter_23 : decode cX9_takesLetter 23 = .ok (.iconst 0, 1) := by decide +kernel
theorem dX9_takesLetter_24 : decode cX9_takesLetter 24 = .ok (.bipush 9, 2) := by decide +kernel
theorem dX9_takesLetter_26 : decode cX9_takesLetter 26 = .ok (.invokevirtual 253, 3) := by decide +kernel
theorem dX9_takesLetter_29 : decode cX9_takesLetter 29 = .ok (.ifCond .ne 5, 3) := by decide +kernel
theorem dX9_takesLetter_32 : decode cX9_takesLetter 32 = .ok (.iconst 0, 1) := by decide +kernel
theorem dX9_takesLetter_33 : decode cX9_takesLetter 33 = .ok (.ireturn, 1) := by decide +kernel
theorem dX9_takesLetter_34 : decode cX9_takesLetter 34 = .ok (.aload_n 0, 1) := by decide +kernel
theorem dX9_takesLetter_35 : decode cX9_takesLetter 35 = .ok (.getfield 45, 3) := by decide +kernel
theorem dX9_takesLetter_38 : decode cX9_takesLetter 38 = .ok (.iconst 5, 1) := by decide +kernel
theorem dX9_takesLetter_39 : decode cX9_takesLetter 39 = .ok (.aload_n 0, 1) := by decide +kernel
theorem dX9_takesLetter_40 : decode cX9_takesLetter 40 = .ok (.getfield 48, 3) := by decide +kernel
theorem dX9_takesLetter_43 : decode cX9_takesLetter 43 = .ok (.iconst 0, 1) := by decide +kernel
theorem dX9_takesLetter_44 : decode cX9_takesLetter 44 = .ok (.iaload, 1) := by decide +kernel
theorem dX9_takesLetter_45 : decode cX9_takesLetter 45 = .ok (.iadd, 1) := by decide +kernel
theorem dX9_takesLetter_46 : decode cX9_takesLetter 46 = .ok (.aload_n 0, 1) := by decide +kernel
theorem dX9_takesLetter_47 : decode cX9_takesLetter 47 = .ok (.getfield 48, 3) := by decide +kernel
theorem dX9_takesLetter_50 : decode cX9_takesLetter 50 = .ok (.iconst 1, 1) := by decide +kernel
theorem dX9_takesLetter_51 : decode cX9_takesLetter 51 = .ok (.iaload, 1) := by decide +kernel
theorem dX9_takesLetter_52 : decode cX9_takesLetter 52 = .ok (.iastore, 1) := by decide +kernel
theorem dX9_takesLetter_53 : decode cX9_takesLetter 53 = .ok (.iconst 1, 1) := by decide +kernel
theorem dX9_takesLetter_54 : decode cX9_takesLetter 54 = .ok (.ireturn, 1) := by decide +kernel
set_option maxRecDepth 20000 in
theorem ggX9_takesNights_X9_goBehind : GoodIn wsX9_takesNights wsX9_goBehind := goodIn_r _ [7, 8, 9, 10, 11, 12, 6, 13, 14, 15, 16, 17, 18, 19, 20, 21, 22, 23, 24, 25, 26, 27, 28, 29, 30, 38, 39, 40, 41, 42, 43, 44, 45, 46, 47, 48, 49, 50, 51, 52, 53, 54, 55, 56] (by decide +kernel) (by decide +kernel)
set_option maxRecDepth 20000 in
theorem gX9_takesNights_X9_goBehind : GoodIn wsX9_takesNights (wsV RX9 250 RX9 yX9_goBehind wsX9_goBehind) := goodIn_app (goodIn_of _ (by decide +kernel)) ggX9_takesNights_X9_goBehind
set_option maxRecDepth 20000 in
theorem ggX9_takesNights_X9_takes : GoodIn wsX9_takesNights wsX9_takes := goodIn_r _ [34, 16, 17, 2, 23, 24, 6, 25, 3, 4, 5, 7, 8, 9, 10, 11, 12, 13, 14, 15, 18, 19, 20, 21, 22, 26, 27, 28, 29, 30, 38, 39, 40, 41, 42, 43, 44, 45, 46, 47, 48, 49, 50, 51, 52, 53, 54, 55, 56] (by decide +kernel) (by decide +kernel)
set_option maxRecDepth 20000 in
theorem gX9_takesNights_X9_takes : GoodIn wsX9_takesNights (wsV RX9 253 RX9 yX9_takes wsX9_takes) := goodIn_app (goodIn_of _ (by decide +kernel)) ggX9_takesNights_X9_takes
set_option maxRecDepth 20000 in
theorem ggX9_takesNights_X9_goNights : GoodIn wsX9_takesNights wsX9_goNights := goodIn_r _ [37] (by decide +kernel) (by decide +kernel)
set_option maxRecDepth 20000 in
theorem gX9_takesNights_X9_goNights : GoodIn wsX9_takesNights (va_wsS RX9 143 yX9_goNights wsX9_goNights) := goodIn_app (goodIn_of _ (by decide +kernel)) ggX9_takesNights_X9_goNights
theorem dX9_takesNights_0 : decode cX9_takesNights 0 = .ok (.aload_n 0, 1) := by decide +kernel
theorem dX9_takesNights_1 : decode cX9_takesNights 1 = .ok (.invokevirtual 250, 3) := by decide +kernel
theorem dX9_takesNights_4 : decode cX9_takesNights 4 = .ok (.aload_n 0, 1) := by decide +kernel
theorem dX9_takesNights_5 : decode cX9_takesNights 5 = .ok (.iconst 0, 1) := by decide +kernel
theorem dX9_takesNights_6 : decode cX9_takesNights 6 = .ok (.iconst 1, 1) := by decide +kernel
theorem dX9_takesNights_7 : decode cX9_takesNights 7 = .ok (.bipush 99, 2) := by decide +kernel
theorem dX9_takesNights_9 : decode cX9_takesNights 9 = .ok (.invokevirtual 253, 3) := by decide +kernel
theorem dX9_takesNights_12 : decode cX9_takesNights 12 = .ok (.ifCond .ne 5, 3) := by decide +kernel
theorem dX9_takesNights_15 : decode cX9_takesNights 15 = .ok (.iconst 0, 1) := by decide +kernel
theorem dX9_takesNights_16 : decode cX9_takesNights 16 = .ok (.ireturn, 1) := by decide +kernel
theorem dX9_takesNights_17 : decode cX9_takesNights 17 = .ok (.aload_n 0, 1) := by decide +kernel
theorem dX9_takesNights_18 : decode cX9_takesNights 18 = .ok (.getfield 45, 3) := by decide +kernel
theorem dX9_takesNights_21 : decode cX9_takesNights 21 = .ok (.aload_n 0, 1) := by decide +kernel
theorem dX9_takesNights_22 : decode cX9_takesNights 22 = .ok (.getfield 48, 3) := by decide +kernel
theorem dX9_takesNights_25 : decode cX9_takesNights 25 = .ok (.iconst 0, 1) := by decide +kernel
theorem dX9_takesNights_26 : decode cX9_takesNights 26 = .ok (.iaload, 1) := by decide +kernel
theorem dX9_takesNights_27 : decode cX9_takesNights 27 = .ok (.invokestatic 143, 3) := by decide +kernel
theorem dX9_takesNights_30 : decode cX9_takesNights 30 = .ok (.iconst 1, 1) := by decide +kernel
theorem dX9_takesNights_31 : decode cX9_takesNights 31 = .ok (.ireturn, 1) := by decide +kernel
set_option maxRecDepth 20000 in
theorem ggX9_takesItem_X9_spells : GoodIn wsX9_takesItem wsX9_spells := goodIn_r _ [5, 6, 7, 8, 9, 106, 107, 108, 109, 110, 111, 112, 113, 114, 115, 116, 117, 118, 119, 120, 121, 122, 123, 124] (by decide +kernel) (by decide +kernel)
set_option maxRecDepth 20000 in
theorem gX9_takesItem_X9_spells : GoodIn wsX9_takesItem (wsV RX9 261 RX9 yX9_spells wsX9_spells) := goodIn_app (goodIn_of _ (by decide +kernel)) ggX9_takesItem_X9_spells
set_option maxRecDepth 20000 in
theorem ggX9_takesItem_X9_takesWet : GoodIn wsX9_takesItem wsX9_takesWet := goodIn_r _ [13, 6, 14, 15, 16, 17, 18, 4, 19, 9, 7, 20, 21, 22, 23, 24, 8, 25, 26, 27, 28, 29, 30, 31, 32, 33, 34, 35, 36, 37, 38, 39, 40, 41, 42, 106, 107, 108, 109, 110, 111, 112, 113, 114, 115, 116, 117, 118, 119, 120, 121, 122, 123, 124] (by decide +kernel) (by decide +kernel)
set_option maxRecDepth 20000 in
theorem gX9_takesItem_X9_takesWet : GoodIn wsX9_takesItem (wsV RX9 265 RX9 yX9_takesWet wsX9_takesWet) := goodIn_app (goodIn_of _ (by decide +kernel)) ggX9_takesItem_X9_takesWet
set_option maxRecDepth 20000 in
theorem ggX9_takesItem_X9_takesOne : GoodIn wsX9_takesItem wsX9_takesOne := goodIn_r _ [46, 14, 15, 16, 17, 18, 4, 19, 9, 7, 20, 21, 22, 23, 24, 8, 6, 25, 26, 27, 28, 29, 30, 31, 32, 33, 34, 35, 36, 37, 38, 39, 40, 41, 42, 47, 48, 49, 106, 107, 108, 109, 110, 111, 112, 113, 114, 115, 116, 117, 118, 119, 120, 121, 122, 123, 124] (by decide +kernel) (by decide +kernel)
set_option maxRecDepth 20000 in
theorem gX9_takesItem_X9_takesOne : GoodIn wsX9_takesItem (wsV RX9 269 RX9 yX9_takesOne wsX9_takesOne) := goodIn_app (goodIn_of _ (by decide +kernel)) ggX9_takesItem_X9_takesOne
set_option maxRecDepth 20000 in
theorem ggX9_takesItem_X9_takesCome : GoodIn wsX9_takesItem wsX9_takesCome := goodIn_r _ [53, 14, 25, 16, 17, 18, 4, 19, 9, 7, 20, 21, 22, 23, 24, 8, 6, 26, 27, 28, 29, 30, 31, 32, 33, 34, 35, 36, 37, 38, 54, 55, 56, 57, 58, 59, 60, 61, 62, 63, 64, 65, 66, 67, 68, 69, 70, 71, 72, 73, 74, 75, 76, 77, 78, 79, 80, 81, 82, 83, 84, 85, 86, 87, 88, 89, 90, 106, 107, 108, 109, 110, 111, 112, 113, 114, 115, 116, 117, 118, 119, 120, 121, 122, 123, 124] (by decide +kernel) (by decide +kernel)
set_option maxRecDepth 20000 in
theorem gX9_takesItem_X9_takesCome : GoodIn wsX9_takesItem (wsV RX9 272 RX9 yX9_takesCome wsX9_takesCome) := goodIn_app (goodIn_of _ (by decide +kernel)) ggX9_takesItem_X9_takesCome
set_option maxRecDepth 20000 in
theorem ggX9_takesItem_X9_takesGo : GoodIn wsX9_takesItem wsX9_takesGo := goodIn_r _ [94, 14, 25, 16, 17, 18, 4, 19, 9, 7, 20, 21, 22, 23, 24, 8, 6, 26, 27, 28, 29, 30, 31, 32, 33, 34, 35, 36, 37, 38, 54, 55, 56, 57, 58, 59, 60, 106, 107, 108, 109, 110, 111, 112, 113, 114, 115, 116, 117, 118, 119, 120, 121, 122, 123, 124] (by decide +kernel) (by decide +kernel)
set_option maxRecDepth 20000 in
theorem gX9_takesItem_X9_takesGo : GoodIn wsX9_takesItem (wsV RX9 275 RX9 yX9_takesGo wsX9_takesGo) := goodIn_app (goodIn_of _ (by decide +kernel)) ggX9_takesItem_X9_takesGo
set_option maxRecDepth 20000 in
theorem ggX9_takesItem_X9_takesLetter : GoodIn wsX9_takesItem wsX9_takesLetter := goodIn_r _ [98, 14, 15, 16, 17, 18, 4, 19, 9, 7, 20, 21, 22, 23, 24, 8, 6, 25, 26, 27, 28, 29, 30, 31, 32, 33, 34, 35, 36, 37, 38, 39, 40, 41, 42, 106, 107, 108, 109, 110, 111, 112, 113, 114, 115, 116, 117, 118, 119, 120, 121, 122, 123, 124] (by decide +kernel) (by decide +kernel)
set_option maxRecDepth 20000 in
theorem gX9_takesItem_X9_takesLetter : GoodIn wsX9_takesItem (wsV RX9 278 RX9 yX9_takesLetter wsX9_takesLetter) := goodIn_app (goodIn_of _ (by decide +kernel)) ggX9_takesItem_X9_takesLetter
set_option maxRecDepth 20000 in
theorem ggX9_takesItem_X9_takesNights : GoodIn wsX9_takesItem wsX9_takesNights := goodIn_r _ [102, 14, 15, 16, 17, 18, 4, 19, 9, 7, 20, 21, 22, 23, 24, 8, 6, 25, 26, 27, 28, 29, 30, 31, 32, 33, 34, 35, 36, 37, 38, 39, 40, 41, 42, 103, 104, 105, 106, 107, 108, 109, 110, 111, 112, 113, 114, 115, 116, 117, 118, 119, 120, 121, 122, 123, 124] (by decide +kernel) (by decide +kernel)
set_option maxRecDepth 20000 in
theorem gX9_takesItem_X9_takesNights : GoodIn wsX9_takesItem (wsV RX9 281 RX9 yX9_takesNights wsX9_takesNights) := goodIn_app (goodIn_of _ (by decide +kernel)) ggX9_takesItem_X9_takesNights
theorem dX9_takesItem_0 : decode cX9_takesItem 0 = .ok (.aload_n 0, 1) := by decide +kernel
theorem dX9_takesItem_1 : decode cX9_takesItem 1 = .ok (.iconst 3, 1) := by decide +kernel
theorem dX9_takesItem_2 : decode cX9_takesItem 2 = .ok (.bipush 119, 2) := by decide +kernel
theorem dX9_takesItem_4 : decode cX9_takesItem 4 = .ok (.bipush 101, 2) := by decide +kernel
theorem dX9_takesItem_6 : decode cX9_takesItem 6 = .ok (.bipush 116, 2) := by decide +kernel
theorem dX9_takesItem_8 : decode cX9_takesItem 8 = .ok (.iconst 0, 1) := by decide +kernel
theorem dX9_takesItem_9 : decode cX9_takesItem 9 = .ok (.iconst 0, 1) := by decide +kernel
theorem dX9_takesItem_10 : decode cX9_takesItem 10 = .ok (.iconst 0, 1) := by decide +kernel
theorem dX9_takesItem_11 : decode cX9_takesItem 11 = .ok (.invokevirtual 261, 3) := by decide +kernel
theorem dX9_takesItem_14 : decode cX9_takesItem 14 = .ok (.ifCond .eq 8, 3) := by decide +kernel
theorem dX9_takesItem_17 : decode cX9_takesItem 17 = .ok (.aload_n 0, 1) := by decide +kernel
theorem dX9_takesItem_18 : decode cX9_takesItem 18 = .ok (.invokevirtual 265, 3) := by decide +kernel
theorem dX9_takesItem_21 : decode cX9_takesItem 21 = .ok (.ireturn, 1) := by decide +kernel
theorem dX9_takesItem_22 : decode cX9_takesItem 22 = .ok (.aload_n 0, 1) := by decide +kernel
theorem dX9_takesItem_23 : decode cX9_takesItem 23 = .ok (.iconst 3, 1) := by decide +kernel
theorem dX9_takesItem_24 : decode cX9_takesItem 24 = .ok (.bipush 111, 2) := by decide +kernel
theorem dX9_takesItem_26 : decode cX9_takesItem 26 = .ok (.bipush 110, 2) := by decide +kernel
theorem dX9_takesItem_28 : decode cX9_takesItem 28 = .ok (.bipush 101, 2) := by decide +kernel
theorem dX9_takesItem_30 : decode cX9_takesItem 30 = .ok (.iconst 0, 1) := by decide +kernel
theorem dX9_takesItem_31 : decode cX9_takesItem 31 = .ok (.iconst 0, 1) := by decide +kernel
theorem dX9_takesItem_32 : decode cX9_takesItem 32 = .ok (.iconst 0, 1) := by decide +kernel
theorem dX9_takesItem_33 : decode cX9_takesItem 33 = .ok (.invokevirtual 261, 3) := by decide +kernel
theorem dX9_takesItem_36 : decode cX9_takesItem 36 = .ok (.ifCond .eq 8, 3) := by decide +kernel
theorem dX9_takesItem_39 : decode cX9_takesItem 39 = .ok (.aload_n 0, 1) := by decide +kernel
theorem dX9_takesItem_40 : decode cX9_takesItem 40 = .ok (.invokevirtual 269, 3) := by decide +kernel
theorem dX9_takesItem_43 : decode cX9_takesItem 43 = .ok (.ireturn, 1) := by decide +kernel
theorem dX9_takesItem_44 : decode cX9_takesItem 44 = .ok (.aload_n 0, 1) := by decide +kernel
theorem dX9_takesItem_45 : decode cX9_takesItem 45 = .ok (.iconst 4, 1) := by decide +kernel
theorem dX9_takesItem_46 : decode cX9_takesItem 46 = .ok (.bipush 99, 2) := by decide +kernel
theorem dX9_takesItem_48 : decode cX9_takesItem 48 = .ok (.bipush 111, 2) := by decide +kernel
theorem dX9_takesItem_50 : decode cX9_takesItem 50 = .ok (.bipush 109, 2) := by decide +kernel
theorem dX9_takesItem_52 : decode cX9_takesItem 52 = .ok (.bipush 101, 2) := by decide +kernel
theorem dX9_takesItem_54 : decode cX9_takesItem 54 = .ok (.iconst 0, 1) := by decide +kernel
theorem dX9_takesItem_55 : decode cX9_takesItem 55 = .ok (.iconst 0, 1) := by decide +kernel
theorem dX9_takesItem_56 : decode cX9_takesItem 56 = .ok (.invokevirtual 261, 3) := by decide +kernel
theorem dX9_takesItem_59 : decode cX9_takesItem 59 = .ok (.ifCond .eq 8, 3) := by decide +kernel
theorem dX9_takesItem_62 : decode cX9_takesItem 62 = .ok (.aload_n 0, 1) := by decide +kernel
theorem dX9_takesItem_63 : decode cX9_takesItem 63 = .ok (.invokevirtual 272, 3) := by decide +kernel
theorem dX9_takesItem_66 : decode cX9_takesItem 66 = .ok (.ireturn, 1) := by decide +kernel
theorem dX9_takesItem_67 : decode cX9_takesItem 67 = .ok (.aload_n 0, 1) := by decide +kernel
theorem dX9_takesItem_68 : decode cX9_takesItem 68 = .ok (.iconst 2, 1) := by decide +kernel
theorem dX9_takesItem_69 : decode cX9_takesItem 69 = .ok (.bipush 103, 2) := by decide +kernel
theorem dX9_takesItem_71 : decode cX9_takesItem 71 = .ok (.bipush 111, 2) := by decide +kernel
theorem dX9_takesItem_73 : decode cX9_takesItem 73 = .ok (.iconst 0, 1) := by decide +kernel
theorem dX9_takesItem_74 : decode cX9_takesItem 74 = .ok (.iconst 0, 1) := by decide +kernel
theorem dX9_takesItem_75 : decode cX9_takesItem 75 = .ok (.iconst 0, 1) := by decide +kernel
theorem dX9_takesItem_76 : decode cX9_takesItem 76 = .ok (.iconst 0, 1) := by decide +kernel
theorem dX9_takesItem_77 : decode cX9_takesItem 77 = .ok (.invokevirtual 261, 3) := by decide +kernel
theorem dX9_takesItem_80 : decode cX9_takesItem 80 = .ok (.ifCond .eq 8, 3) := by decide +kernel
theorem dX9_takesItem_83 : decode cX9_takesItem 83 = .ok (.aload_n 0, 1) := by decide +kernel
theorem dX9_takesItem_84 : decode cX9_takesItem 84 = .ok (.invokevirtual 275, 3) := by decide +kernel
theorem dX9_takesItem_87 : decode cX9_takesItem 87 = .ok (.ireturn, 1) := by decide +kernel
theorem dX9_takesItem_88 : decode cX9_takesItem 88 = .ok (.aload_n 0, 1) := by decide +kernel
theorem dX9_takesItem_89 : decode cX9_takesItem 89 = .ok (.bipush 6, 2) := by decide +kernel
theorem dX9_takesItem_91 : decode cX9_takesItem 91 = .ok (.bipush 108, 2) := by decide +kernel
theorem dX9_takesItem_93 : decode cX9_takesItem 93 = .ok (.bipush 101, 2) := by decide +kernel
theorem dX9_takesItem_95 : decode cX9_takesItem 95 = .ok (.bipush 116, 2) := by decide +kernel
theorem dX9_takesItem_97 : decode cX9_takesItem 97 = .ok (.bipush 116, 2) := by decide +kernel
theorem dX9_takesItem_99 : decode cX9_takesItem 99 = .ok (.bipush 101, 2) := by decide +kernel
theorem dX9_takesItem_101 : decode cX9_takesItem 101 = .ok (.bipush 114, 2) := by decide +kernel
theorem dX9_takesItem_103 : decode cX9_takesItem 103 = .ok (.invokevirtual 261, 3) := by decide +kernel
theorem dX9_takesItem_106 : decode cX9_takesItem 106 = .ok (.ifCond .eq 8, 3) := by decide +kernel
theorem dX9_takesItem_109 : decode cX9_takesItem 109 = .ok (.aload_n 0, 1) := by decide +kernel
theorem dX9_takesItem_110 : decode cX9_takesItem 110 = .ok (.invokevirtual 278, 3) := by decide +kernel
theorem dX9_takesItem_113 : decode cX9_takesItem 113 = .ok (.ireturn, 1) := by decide +kernel
theorem dX9_takesItem_114 : decode cX9_takesItem 114 = .ok (.aload_n 0, 1) := by decide +kernel
theorem dX9_takesItem_115 : decode cX9_takesItem 115 = .ok (.bipush 6, 2) := by decide +kernel
theorem dX9_takesItem_117 : decode cX9_takesItem 117 = .ok (.bipush 110, 2) := by decide +kernel
theorem dX9_takesItem_119 : decode cX9_takesItem 119 = .ok (.bipush 105, 2) := by decide +kernel
theorem dX9_takesItem_121 : decode cX9_takesItem 121 = .ok (.bipush 103, 2) := by decide +kernel
theorem dX9_takesItem_123 : decode cX9_takesItem 123 = .ok (.bipush 104, 2) := by decide +kernel
theorem dX9_takesItem_125 : decode cX9_takesItem 125 = .ok (.bipush 116, 2) := by decide +kernel
theorem dX9_takesItem_127 : decode cX9_takesItem 127 = .ok (.bipush 115, 2) := by decide +kernel
theorem dX9_takesItem_129 : decode cX9_takesItem 129 = .ok (.invokevirtual 261, 3) := by decide +kernel
theorem dX9_takesItem_132 : decode cX9_takesItem 132 = .ok (.ifCond .eq 14, 3) := by decide +kernel
theorem dX9_takesItem_135 : decode cX9_takesItem 135 = .ok (.aload_n 0, 1) := by decide +kernel
theorem dX9_takesItem_136 : decode cX9_takesItem 136 = .ok (.invokevirtual 281, 3) := by decide +kernel
theorem dX9_takesItem_139 : decode cX9_takesItem 139 = .ok (.ifCond .eq 7, 3) := by decide +kernel
theorem dX9_takesItem_142 : decode cX9_takesItem 142 = .ok (.iconst 1, 1) := by decide +kernel
theorem dX9_takesItem_143 : decode cX9_takesItem 143 = .ok (.goto 4, 3) := by decide +kernel
theorem dX9_takesItem_146 : decode cX9_takesItem 146 = .ok (.iconst 0, 1) := by decide +kernel
theorem dX9_takesItem_147 : decode cX9_takesItem 147 = .ok (.ireturn, 1) := by decide +kernel
set_option maxRecDepth 20000 in
theorem ggX9_read_X9_lookAt : GoodIn wsX9_read wsX9_lookAt := goodIn_r _ [10, 1, 11, 12, 13, 2, 14, 15, 16, 9, 17, 18, 19, 20, 21, 22, 23, 24, 25, 26, 27, 114, 115, 116, 117, 118, 119, 120, 121, 122, 123, 124, 125, 126, 127, 128, 129, 130, 131, 132] (by decide +kernel) (by decide +kernel)
set_option maxRecDepth 20000 in
theorem gX9_read_X9_lookAt : GoodIn wsX9_read (wsV RX9 246 RX9 yX9_lookAt wsX9_lookAt) := goodIn_app (goodIn_of _ (by decide +kernel)) ggX9_read_X9_lookAt
set_option maxRecDepth 20000 in
theorem ggX9_read_X9_spells : GoodIn wsX9_read wsX9_spells := goodIn_r _ [31, 2, 13, 12, 1, 114, 115, 116, 117, 118, 119, 120, 121, 122, 123, 124, 125, 126, 127, 128, 129, 130, 131, 132] (by decide +kernel) (by decide +kernel)
set_option maxRecDepth 20000 in
theorem gX9_read_X9_spells : GoodIn wsX9_read (wsV RX9 261 RX9 yX9_spells wsX9_spells) := goodIn_app (goodIn_of _ (by decide +kernel)) ggX9_read_X9_spells
set_option maxRecDepth 20000 in
theorem ggX9_read_X9_goBehind : GoodIn wsX9_read wsX9_goBehind := goodIn_r _ [35, 1, 13, 6, 7, 8, 9, 10, 11, 12, 2, 14, 15, 16, 17, 18, 19, 20, 21, 22, 23, 24, 25, 26, 27, 114, 115, 116, 117, 118, 119, 120, 121, 122, 123, 124, 125, 126, 127, 128, 129, 130, 131, 132] (by decide +kernel) (by decide +kernel)
set_option maxRecDepth 20000 in
theorem gX9_read_X9_goBehind : GoodIn wsX9_read (wsV RX9 250 RX9 yX9_goBehind wsX9_goBehind) := goodIn_app (goodIn_of _ (by decide +kernel)) ggX9_read_X9_goBehind
set_option maxRecDepth 20000 in
theorem ggX9_read_X9_takes : GoodIn wsX9_read wsX9_takes := goodIn_r _ [39, 2, 14, 4, 20, 21, 9, 22, 32, 33, 34, 35, 1, 13, 6, 7, 8, 10, 11, 12, 15, 16, 17, 18, 19, 23, 24, 25, 26, 27, 114, 115, 116, 117, 118, 119, 120, 121, 122, 123, 124, 125, 126, 127, 128, 129, 130, 131, 132] (by decide +kernel) (by decide +kernel)
set_option maxRecDepth 20000 in
theorem gX9_read_X9_takes : GoodIn wsX9_read (wsV RX9 253 RX9 yX9_takes wsX9_takes) := goodIn_app (goodIn_of _ (by decide +kernel)) ggX9_read_X9_takes
set_option maxRecDepth 20000 in
theorem ggX9_read_X9_begin : GoodIn wsX9_read wsX9_begin := goodIn_r _ [42] (by decide +kernel) (by decide +kernel)
set_option maxRecDepth 20000 in
theorem gX9_read_X9_begin : GoodIn wsX9_read (va_wsS RX9 51 yX9_begin wsX9_begin) := goodIn_app (goodIn_of _ (by decide +kernel)) ggX9_read_X9_begin
set_option maxRecDepth 20000 in
theorem ggX9_read_X9_takesItem : GoodIn wsX9_read wsX9_takesItem := goodIn_r _ [46, 28, 29, 30, 9, 31, 2, 13, 12, 1, 47, 48, 49, 50, 3, 4, 32, 33, 34, 35, 6, 7, 8, 10, 11, 14, 15, 16, 17, 18, 19, 20, 21, 22, 23, 24, 25, 26, 27, 36, 37, 38, 39, 51, 52, 53, 54, 55, 56, 57, 58, 59, 60, 61, 62, 63, 64, 65, 66, 67, 68, 69, 70, 71, 72, 73, 74, 75, 76, 77, 78, 79, 80, 81, 82, 83, 84, 85, 86, 87, 88, 89, 90, 91, 92, 93, 94, 95, 96, 97, 98, 99, 100, 101, 102, 103, 104, 105, 106, 107, 108, 109, 110, 111, 112, 113, 114, 115, 116, 117, 118, 119, 120, 121, 122, 123, 124, 125, 126, 127, 128, 129, 130, 131, 132] (by decide +kernel) (by decide +kernel)
set_option maxRecDepth 20000 in
theorem gX9_read_X9_takesItem : GoodIn wsX9_read (wsV RX9 284 RX9 yX9_takesItem wsX9_takesItem) := goodIn_app (goodIn_of _ (by decide +kernel)) ggX9_read_X9_takesItem
theorem dX9_read_0 : decode cX9_read 0 = .ok (.aload_n 0, 1) := by decide +kernel
theorem dX9_read_1 : decode cX9_read 1 = .ok (.iconst 0, 1) := by decide +kernel
theorem dX9_read_2 : decode cX9_read 2 = .ok (.invokevirtual 246, 3) := by decide +kernel
theorem dX9_read_5 : decode cX9_read 5 = .ok (.aload_n 0, 1) := by decide +kernel
theorem dX9_read_6 : decode cX9_read 6 = .ok (.iconst 3, 1) := by decide +kernel
theorem dX9_read_7 : decode cX9_read 7 = .ok (.bipush 105, 2) := by decide +kernel
theorem dX9_read_9 : decode cX9_read 9 = .ok (.bipush 110, 2) := by decide +kernel
theorem dX9_read_11 : decode cX9_read 11 = .ok (.bipush 110, 2) := by decide +kernel
theorem dX9_read_13 : decode cX9_read 13 = .ok (.iconst 0, 1) := by decide +kernel
theorem dX9_read_14 : decode cX9_read 14 = .ok (.iconst 0, 1) := by decide +kernel
theorem dX9_read_15 : decode cX9_read 15 = .ok (.iconst 0, 1) := by decide +kernel
theorem dX9_read_16 : decode cX9_read 16 = .ok (.invokevirtual 261, 3) := by decide +kernel
theorem dX9_read_19 : decode cX9_read 19 = .ok (.ifCond .ne 11, 3) := by decide +kernel
theorem dX9_read_22 : decode cX9_read 22 = .ok (.bipush (-10), 2) := by decide +kernel
theorem dX9_read_24 : decode cX9_read 24 = .ok (.aload_n 0, 1) := by decide +kernel
theorem dX9_read_25 : decode cX9_read 25 = .ok (.getfield 228, 3) := by decide +kernel
theorem dX9_read_28 : decode cX9_read 28 = .ok (.isub, 1) := by decide +kernel
theorem dX9_read_29 : decode cX9_read 29 = .ok (.ireturn, 1) := by decide +kernel
theorem dX9_read_30 : decode cX9_read 30 = .ok (.aload_n 0, 1) := by decide +kernel
theorem dX9_read_31 : decode cX9_read 31 = .ok (.invokevirtual 250, 3) := by decide +kernel
theorem dX9_read_34 : decode cX9_read 34 = .ok (.aload_n 0, 1) := by decide +kernel
theorem dX9_read_35 : decode cX9_read 35 = .ok (.iconst 0, 1) := by decide +kernel
theorem dX9_read_36 : decode cX9_read 36 = .ok (.iconst 0, 1) := by decide +kernel
theorem dX9_read_37 : decode cX9_read 37 = .ok (.iconst 5, 1) := by decide +kernel
theorem dX9_read_38 : decode cX9_read 38 = .ok (.invokevirtual 253, 3) := by decide +kernel
theorem dX9_read_41 : decode cX9_read 41 = .ok (.ifCond .eq 22, 3) := by decide +kernel
theorem dX9_read_44 : decode cX9_read 44 = .ok (.aload_n 0, 1) := by decide +kernel
theorem dX9_read_45 : decode cX9_read 45 = .ok (.iconst 1, 1) := by decide +kernel
theorem dX9_read_46 : decode cX9_read 46 = .ok (.iconst 0, 1) := by decide +kernel
theorem dX9_read_47 : decode cX9_read 47 = .ok (.bipush 7, 2) := by decide +kernel
theorem dX9_read_49 : decode cX9_read 49 = .ok (.invokevirtual 253, 3) := by decide +kernel
theorem dX9_read_52 : decode cX9_read 52 = .ok (.ifCond .eq 11, 3) := by decide +kernel
theorem dX9_read_55 : decode cX9_read 55 = .ok (.aload_n 0, 1) := by decide +kernel
theorem dX9_read_56 : decode cX9_read 56 = .ok (.getfield 234, 3) := by decide +kernel
theorem dX9_read_59 : decode cX9_read 59 = .ok (.iconst 3, 1) := by decide +kernel
theorem dX9_read_60 : decode cX9_read 60 = .ok (.if_icmp .eq 11, 3) := by decide +kernel
theorem dX9_read_63 : decode cX9_read 63 = .ok (.bipush (-10), 2) := by decide +kernel
theorem dX9_read_65 : decode cX9_read 65 = .ok (.aload_n 0, 1) := by decide +kernel
theorem dX9_read_66 : decode cX9_read 66 = .ok (.getfield 228, 3) := by decide +kernel
theorem dX9_read_69 : decode cX9_read 69 = .ok (.isub, 1) := by decide +kernel
theorem dX9_read_70 : decode cX9_read 70 = .ok (.ireturn, 1) := by decide +kernel
theorem dX9_read_71 : decode cX9_read 71 = .ok (.aload_n 0, 1) := by decide +kernel
theorem dX9_read_72 : decode cX9_read 72 = .ok (.invokevirtual 250, 3) := by decide +kernel
theorem dX9_read_75 : decode cX9_read 75 = .ok (.aload_n 0, 1) := by decide +kernel
theorem dX9_read_76 : decode cX9_read 76 = .ok (.getfield 45, 3) := by decide +kernel
theorem dX9_read_79 : decode cX9_read 79 = .ok (.aload_n 0, 1) := by decide +kernel
theorem dX9_read_80 : decode cX9_read 80 = .ok (.getfield 48, 3) := by decide +kernel
theorem dX9_read_83 : decode cX9_read 83 = .ok (.iconst 0, 1) := by decide +kernel
theorem dX9_read_84 : decode cX9_read 84 = .ok (.iaload, 1) := by decide +kernel
theorem dX9_read_85 : decode cX9_read 85 = .ok (.aload_n 0, 1) := by decide +kernel
theorem dX9_read_86 : decode cX9_read 86 = .ok (.getfield 48, 3) := by decide +kernel
theorem dX9_read_89 : decode cX9_read 89 = .ok (.iconst 1, 1) := by decide +kernel
theorem dX9_read_90 : decode cX9_read 90 = .ok (.iaload, 1) := by decide +kernel
theorem dX9_read_91 : decode cX9_read 91 = .ok (.invokestatic 51, 3) := by decide +kernel
theorem dX9_read_94 : decode cX9_read 94 = .ok (.iconst 1, 1) := by decide +kernel
theorem dX9_read_95 : decode cX9_read 95 = .ok (.istore_n 1, 1) := by decide +kernel
theorem dX9_read_96 : decode cX9_read 96 = .ok (.aload_n 0, 1) := by decide +kernel
theorem dX9_read_97 : decode cX9_read 97 = .ok (.getfield 234, 3) := by decide +kernel
theorem dX9_read_100 : decode cX9_read 100 = .ok (.ifCond .eq 36, 3) := by decide +kernel
theorem dX9_read_103 : decode cX9_read 103 = .ok (.aload_n 0, 1) := by decide +kernel
theorem dX9_read_104 : decode cX9_read 104 = .ok (.invokevirtual 284, 3) := by decide +kernel
theorem dX9_read_107 : decode cX9_read 107 = .ok (.ifCond .eq 11, 3) := by decide +kernel
theorem dX9_read_110 : decode cX9_read 110 = .ok (.aload_n 0, 1) := by decide +kernel
theorem dX9_read_111 : decode cX9_read 111 = .ok (.getfield 234, 3) := by decide +kernel
theorem dX9_read_114 : decode cX9_read 114 = .ok (.iconst 3, 1) := by decide +kernel
theorem dX9_read_115 : decode cX9_read 115 = .ok (.if_icmp .eq 11, 3) := by decide +kernel
theorem dX9_read_118 : decode cX9_read 118 = .ok (.bipush (-10), 2) := by decide +kernel
theorem dX9_read_120 : decode cX9_read 120 = .ok (.aload_n 0, 1) := by decide +kernel
theorem dX9_read_121 : decode cX9_read 121 = .ok (.getfield 228, 3) := by decide +kernel
theorem dX9_read_124 : decode cX9_read 124 = .ok (.isub, 1) := by decide +kernel
theorem dX9_read_125 : decode cX9_read 125 = .ok (.ireturn, 1) := by decide +kernel
theorem dX9_read_126 : decode cX9_read 126 = .ok (.aload_n 0, 1) := by decide +kernel
theorem dX9_read_127 : decode cX9_read 127 = .ok (.invokevirtual 250, 3) := by decide +kernel
theorem dX9_read_130 : decode cX9_read 130 = .ok (.iinc 1 1, 3) := by decide +kernel
theorem dX9_read_133 : decode cX9_read 133 = .ok (.goto (-37), 3) := by decide +kernel
theorem dX9_read_136 : decode cX9_read 136 = .ok (.iconst 0, 1) := by decide +kernel
theorem dX9_read_137 : decode cX9_read 137 = .ok (.istore_n 2, 1) := by decide +kernel
theorem dX9_read_138 : decode cX9_read 138 = .ok (.iload_n 2, 1) := by decide +kernel
theorem dX9_read_139 : decode cX9_read 139 = .ok (.bipush 106, 2) := by decide +kernel
theorem dX9_read_141 : decode cX9_read 141 = .ok (.if_icmp .ge 21, 3) := by decide +kernel
theorem dX9_read_144 : decode cX9_read 144 = .ok (.aload_n 0, 1) := by decide +kernel
theorem dX9_read_145 : decode cX9_read 145 = .ok (.getfield 7, 3) := by decide +kernel
theorem dX9_read_148 : decode cX9_read 148 = .ok (.iload_n 2, 1) := by decide +kernel
theorem dX9_read_149 : decode cX9_read 149 = .ok (.aload_n 0, 1) := by decide +kernel
theorem dX9_read_150 : decode cX9_read 150 = .ok (.getfield 45, 3) := by decide +kernel
theorem dX9_read_153 : decode cX9_read 153 = .ok (.iload_n 2, 1) := by decide +kernel
theorem dX9_read_154 : decode cX9_read 154 = .ok (.iaload, 1) := by decide +kernel
theorem dX9_read_155 : decode cX9_read 155 = .ok (.iastore, 1) := by decide +kernel
theorem dX9_read_156 : decode cX9_read 156 = .ok (.iinc 2 1, 3) := by decide +kernel
theorem dX9_read_159 : decode cX9_read 159 = .ok (.goto (-21), 3) := by decide +kernel
theorem dX9_read_162 : decode cX9_read 162 = .ok (.iload_n 1, 1) := by decide +kernel
theorem dX9_read_163 : decode cX9_read 163 = .ok (.ireturn, 1) := by decide +kernel
set_option maxRecDepth 20000 in
theorem ggX9_part_X9_bad : GoodIn wsX9_part wsX9_bad := goodIn_r _ [7, 8, 9, 10, 11, 12, 13, 14, 15, 16, 17, 18, 19, 20, 21, 22, 23, 24, 25, 26, 27] (by decide +kernel) (by decide +kernel)
set_option maxRecDepth 20000 in
theorem gX9_part_X9_bad : GoodIn wsX9_part (wsV RX9 75 RX9 yX9_bad wsX9_bad) := goodIn_app (goodIn_of _ (by decide +kernel)) ggX9_part_X9_bad
theorem dX9_part_0 : decode cX9_part 0 = .ok (.iload_n 1, 1) := by decide +kernel
theorem dX9_part_1 : decode cX9_part 1 = .ok (.ifCond .ne 10, 3) := by decide +kernel
theorem dX9_part_4 : decode cX9_part 4 = .ok (.aload_n 0, 1) := by decide +kernel
theorem dX9_part_5 : decode cX9_part 5 = .ok (.getfield 193, 3) := by decide +kernel
theorem dX9_part_8 : decode cX9_part 8 = .ok (.goto 22, 3) := by decide +kernel
theorem dX9_part_11 : decode cX9_part 11 = .ok (.iload_n 1, 1) := by decide +kernel
theorem dX9_part_12 : decode cX9_part 12 = .ok (.iconst 1, 1) := by decide +kernel
theorem dX9_part_13 : decode cX9_part 13 = .ok (.if_icmp .ne 10, 3) := by decide +kernel
theorem dX9_part_16 : decode cX9_part 16 = .ok (.aload_n 0, 1) := by decide +kernel
theorem dX9_part_17 : decode cX9_part 17 = .ok (.getfield 23, 3) := by decide +kernel
theorem dX9_part_20 : decode cX9_part 20 = .ok (.goto 10, 3) := by decide +kernel
theorem dX9_part_23 : decode cX9_part 23 = .ok (.aload_n 0, 1) := by decide +kernel
theorem dX9_part_24 : decode cX9_part 24 = .ok (.bipush (-2), 2) := by decide +kernel
theorem dX9_part_26 : decode cX9_part 26 = .ok (.invokevirtual 75, 3) := by decide +kernel
theorem dX9_part_29 : decode cX9_part 29 = .ok (.i2l, 1) := by decide +kernel
theorem dX9_part_30 : decode cX9_part 30 = .ok (.lreturn, 1) := by decide +kernel
set_option maxRecDepth 20000 in
theorem ggX9_image_X9_in : GoodIn wsX9_image wsX9_in := goodIn_r _ [7] (by decide +kernel) (by decide +kernel)
set_option maxRecDepth 20000 in
theorem gX9_image_X9_in : GoodIn wsX9_image (va_wsS RX9 59 yX9_in wsX9_in) := goodIn_app (goodIn_of _ (by decide +kernel)) ggX9_image_X9_in
set_option maxRecDepth 20000 in
theorem ggX9_image_X9_bad : GoodIn wsX9_image wsX9_bad := goodIn_r _ [11, 12, 13, 14, 15, 16, 17, 18, 19, 20, 21, 22, 23, 24, 25, 26, 27, 28, 29, 30, 31] (by decide +kernel) (by decide +kernel)
set_option maxRecDepth 20000 in
theorem gX9_image_X9_bad : GoodIn wsX9_image (wsV RX9 75 RX9 yX9_bad wsX9_bad) := goodIn_app (goodIn_of _ (by decide +kernel)) ggX9_image_X9_bad
theorem dX9_image_0 : decode cX9_image 0 = .ok (.iload_n 1, 1) := by decide +kernel
theorem dX9_image_1 : decode cX9_image 1 = .ok (.i2l, 1) := by decide +kernel
theorem dX9_image_2 : decode cX9_image 2 = .ok (.lconst 0, 1) := by decide +kernel
theorem dX9_image_3 : decode cX9_image 3 = .ok (.lconst 1, 1) := by decide +kernel
theorem dX9_image_4 : decode cX9_image 4 = .ok (.invokestatic 59, 3) := by decide +kernel
theorem dX9_image_7 : decode cX9_image 7 = .ok (.ifCond .ne 10, 3) := by decide +kernel
theorem dX9_image_10 : decode cX9_image 10 = .ok (.aload_n 0, 1) := by decide +kernel
theorem dX9_image_11 : decode cX9_image 11 = .ok (.bipush (-2), 2) := by decide +kernel
theorem dX9_image_13 : decode cX9_image 13 = .ok (.invokevirtual 75, 3) := by decide +kernel
theorem dX9_image_16 : decode cX9_image 16 = .ok (.ireturn, 1) := by decide +kernel
theorem dX9_image_17 : decode cX9_image 17 = .ok (.iconst 0, 1) := by decide +kernel
theorem dX9_image_18 : decode cX9_image 18 = .ok (.istore_n 2, 1) := by decide +kernel
theorem dX9_image_19 : decode cX9_image 19 = .ok (.iload_n 2, 1) := by decide +kernel
theorem dX9_image_20 : decode cX9_image 20 = .ok (.sipush 250, 3) := by decide +kernel
theorem dX9_image_23 : decode cX9_image 23 = .ok (.if_icmp .ge 27, 3) := by decide +kernel
theorem dX9_image_26 : decode cX9_image 26 = .ok (.aload_n 0, 1) := by decide +kernel
theorem dX9_image_27 : decode cX9_image 27 = .ok (.getfield 13, 3) := by decide +kernel
theorem dX9_image_30 : decode cX9_image 30 = .ok (.sipush 250, 3) := by decide +kernel
theorem dX9_image_33 : decode cX9_image 33 = .ok (.iload_n 1, 1) := by decide +kernel
theorem dX9_image_34 : decode cX9_image 34 = .ok (.imul, 1) := by decide +kernel
theorem dX9_image_35 : decode cX9_image 35 = .ok (.iload_n 2, 1) := by decide +kernel
theorem dX9_image_36 : decode cX9_image 36 = .ok (.iadd, 1) := by decide +kernel
theorem dX9_image_37 : decode cX9_image 37 = .ok (.aload_n 0, 1) := by decide +kernel
theorem dX9_image_38 : decode cX9_image 38 = .ok (.getfield 7, 3) := by decide +kernel
theorem dX9_image_41 : decode cX9_image 41 = .ok (.iload_n 2, 1) := by decide +kernel
theorem dX9_image_42 : decode cX9_image 42 = .ok (.iaload, 1) := by decide +kernel
theorem dX9_image_43 : decode cX9_image 43 = .ok (.iastore, 1) := by decide +kernel
theorem dX9_image_44 : decode cX9_image 44 = .ok (.iinc 2 1, 3) := by decide +kernel
theorem dX9_image_47 : decode cX9_image 47 = .ok (.goto (-28), 3) := by decide +kernel
theorem dX9_image_50 : decode cX9_image 50 = .ok (.aload_n 0, 1) := by decide +kernel
theorem dX9_image_51 : decode cX9_image 51 = .ok (.getfield 16, 3) := by decide +kernel
theorem dX9_image_54 : decode cX9_image 54 = .ok (.iload_n 1, 1) := by decide +kernel
theorem dX9_image_55 : decode cX9_image 55 = .ok (.iconst 1, 1) := by decide +kernel
theorem dX9_image_56 : decode cX9_image 56 = .ok (.bastore, 1) := by decide +kernel
theorem dX9_image_57 : decode cX9_image 57 = .ok (.iconst 1, 1) := by decide +kernel
theorem dX9_image_58 : decode cX9_image 58 = .ok (.ireturn, 1) := by decide +kernel
set_option maxRecDepth 20000 in
theorem ggX9_from_X9_in : GoodIn wsX9_from wsX9_in := goodIn_r _ [7] (by decide +kernel) (by decide +kernel)
set_option maxRecDepth 20000 in
theorem gX9_from_X9_in : GoodIn wsX9_from (va_wsS RX9 59 yX9_in wsX9_in) := goodIn_app (goodIn_of _ (by decide +kernel)) ggX9_from_X9_in
set_option maxRecDepth 20000 in
theorem ggX9_from_X9_bad : GoodIn wsX9_from wsX9_bad := goodIn_r _ [11, 12, 17, 18, 19, 20, 21, 22, 23, 24, 25, 26, 27, 28, 29, 30, 31, 32, 33, 34, 35] (by decide +kernel) (by decide +kernel)
set_option maxRecDepth 20000 in
theorem gX9_from_X9_bad : GoodIn wsX9_from (wsV RX9 75 RX9 yX9_bad wsX9_bad) := goodIn_app (goodIn_of _ (by decide +kernel)) ggX9_from_X9_bad
set_option maxRecDepth 20000 in
theorem ggX9_from_X9_no : GoodIn wsX9_from wsX9_no := goodIn_r _ [16, 12, 17, 18, 19, 20, 21, 22, 23, 24, 25, 26, 27, 28, 29, 30, 31, 32, 33, 34, 35] (by decide +kernel) (by decide +kernel)
set_option maxRecDepth 20000 in
theorem gX9_from_X9_no : GoodIn wsX9_from (wsV RX9 132 RX9 yX9_no wsX9_no) := goodIn_app (goodIn_of _ (by decide +kernel)) ggX9_from_X9_no
theorem dX9_from_0 : decode cX9_from 0 = .ok (.iload_n 1, 1) := by decide +kernel
theorem dX9_from_1 : decode cX9_from 1 = .ok (.i2l, 1) := by decide +kernel
theorem dX9_from_2 : decode cX9_from 2 = .ok (.lconst 0, 1) := by decide +kernel
theorem dX9_from_3 : decode cX9_from 3 = .ok (.lconst 1, 1) := by decide +kernel
theorem dX9_from_4 : decode cX9_from 4 = .ok (.invokestatic 59, 3) := by decide +kernel
theorem dX9_from_7 : decode cX9_from 7 = .ok (.ifCond .ne 10, 3) := by decide +kernel
theorem dX9_from_10 : decode cX9_from 10 = .ok (.aload_n 0, 1) := by decide +kernel
theorem dX9_from_11 : decode cX9_from 11 = .ok (.bipush (-2), 2) := by decide +kernel
theorem dX9_from_13 : decode cX9_from 13 = .ok (.invokevirtual 75, 3) := by decide +kernel
theorem dX9_from_16 : decode cX9_from 16 = .ok (.ireturn, 1) := by decide +kernel
theorem dX9_from_17 : decode cX9_from 17 = .ok (.aload_n 0, 1) := by decide +kernel
theorem dX9_from_18 : decode cX9_from 18 = .ok (.getfield 16, 3) := by decide +kernel
theorem dX9_from_21 : decode cX9_from 21 = .ok (.iload_n 1, 1) := by decide +kernel
theorem dX9_from_22 : decode cX9_from 22 = .ok (.baload, 1) := by decide +kernel
theorem dX9_from_23 : decode cX9_from 23 = .ok (.ifCond .ne 8, 3) := by decide +kernel
theorem dX9_from_26 : decode cX9_from 26 = .ok (.aload_n 0, 1) := by decide +kernel
theorem dX9_from_27 : decode cX9_from 27 = .ok (.invokevirtual 132, 3) := by decide +kernel
theorem dX9_from_30 : decode cX9_from 30 = .ok (.ireturn, 1) := by decide +kernel
theorem dX9_from_31 : decode cX9_from 31 = .ok (.iconst 0, 1) := by decide +kernel
theorem dX9_from_32 : decode cX9_from 32 = .ok (.istore_n 2, 1) := by decide +kernel
theorem dX9_from_33 : decode cX9_from 33 = .ok (.iload_n 2, 1) := by decide +kernel
theorem dX9_from_34 : decode cX9_from 34 = .ok (.sipush 250, 3) := by decide +kernel
theorem dX9_from_37 : decode cX9_from 37 = .ok (.if_icmp .ge 27, 3) := by decide +kernel
theorem dX9_from_40 : decode cX9_from 40 = .ok (.aload_n 0, 1) := by decide +kernel
theorem dX9_from_41 : decode cX9_from 41 = .ok (.getfield 7, 3) := by decide +kernel
theorem dX9_from_44 : decode cX9_from 44 = .ok (.iload_n 2, 1) := by decide +kernel
theorem dX9_from_45 : decode cX9_from 45 = .ok (.aload_n 0, 1) := by decide +kernel
theorem dX9_from_46 : decode cX9_from 46 = .ok (.getfield 13, 3) := by decide +kernel
theorem dX9_from_49 : decode cX9_from 49 = .ok (.sipush 250, 3) := by decide +kernel
theorem dX9_from_52 : decode cX9_from 52 = .ok (.iload_n 1, 1) := by decide +kernel
theorem dX9_from_53 : decode cX9_from 53 = .ok (.imul, 1) := by decide +kernel
theorem dX9_from_54 : decode cX9_from 54 = .ok (.iload_n 2, 1) := by decide +kernel
theorem dX9_from_55 : decode cX9_from 55 = .ok (.iadd, 1) := by decide +kernel
theorem dX9_from_56 : decode cX9_from 56 = .ok (.iaload, 1) := by decide +kernel
theorem dX9_from_57 : decode cX9_from 57 = .ok (.iastore, 1) := by decide +kernel
theorem dX9_from_58 : decode cX9_from 58 = .ok (.iinc 2 1, 3) := by decide +kernel
theorem dX9_from_61 : decode cX9_from 61 = .ok (.goto (-28), 3) := by decide +kernel
theorem dX9_from_64 : decode cX9_from 64 = .ok (.iconst 1, 1) := by decide +kernel
theorem dX9_from_65 : decode cX9_from 65 = .ok (.ireturn, 1) := by decide +kernel
set_option maxRecDepth 20000 in
theorem ggX9_status_X9_in : GoodIn wsX9_status wsX9_in := goodIn_r _ [6] (by decide +kernel) (by decide +kernel)
set_option maxRecDepth 20000 in
theorem gX9_status_X9_in : GoodIn wsX9_status (va_wsS RX9 59 yX9_in wsX9_in) := goodIn_app (goodIn_of _ (by decide +kernel)) ggX9_status_X9_in
set_option maxRecDepth 20000 in
theorem ggX9_status_X9_bad : GoodIn wsX9_status wsX9_bad := goodIn_r _ [10, 2, 11, 12, 13, 14, 15, 16, 17, 18, 19, 20, 21, 22, 23, 24, 25, 26, 27, 28, 29] (by decide +kernel) (by decide +kernel)
set_option maxRecDepth 20000 in
theorem gX9_status_X9_bad : GoodIn wsX9_status (wsV RX9 75 RX9 yX9_bad wsX9_bad) := goodIn_app (goodIn_of _ (by decide +kernel)) ggX9_status_X9_bad
theorem dX9_status_0 : decode cX9_status 0 = .ok (.iload_n 1, 1) := by decide +kernel
theorem dX9_status_1 : decode cX9_status 1 = .ok (.i2l, 1) := by decide +kernel
theorem dX9_status_2 : decode cX9_status 2 = .ok (.lconst 0, 1) := by decide +kernel
theorem dX9_status_3 : decode cX9_status 3 = .ok (.ldc2_w 167, 3) := by decide +kernel
theorem dX9_status_6 : decode cX9_status 6 = .ok (.invokestatic 59, 3) := by decide +kernel
theorem dX9_status_9 : decode cX9_status 9 = .ok (.ifCond .eq 12, 3) := by decide +kernel
theorem dX9_status_12 : decode cX9_status 12 = .ok (.aload_n 0, 1) := by decide +kernel
theorem dX9_status_13 : decode cX9_status 13 = .ok (.getfield 20, 3) := by decide +kernel
theorem dX9_status_16 : decode cX9_status 16 = .ok (.iload_n 1, 1) := by decide +kernel
theorem dX9_status_17 : decode cX9_status 17 = .ok (.iaload, 1) := by decide +kernel
theorem dX9_status_18 : decode cX9_status 18 = .ok (.goto 8, 3) := by decide +kernel
theorem dX9_status_21 : decode cX9_status 21 = .ok (.aload_n 0, 1) := by decide +kernel
theorem dX9_status_22 : decode cX9_status 22 = .ok (.iconst (-1), 1) := by decide +kernel
theorem dX9_status_23 : decode cX9_status 23 = .ok (.invokevirtual 75, 3) := by decide +kernel
theorem dX9_status_26 : decode cX9_status 26 = .ok (.ireturn, 1) := by decide +kernel
set_option maxRecDepth 20000 in
theorem ggX9_counted_X9_many : GoodIn wsX9_counted wsX9_many := goodIn_r _ [7, 1, 11, 12, 13, 14, 15, 16, 17, 18, 19, 20, 21, 22, 23, 24, 25, 26, 27, 28, 29] (by decide +kernel) (by decide +kernel)
set_option maxRecDepth 20000 in
theorem gX9_counted_X9_many : GoodIn wsX9_counted (wsV RX9 55 RX9 yX9_many wsX9_many) := goodIn_app (goodIn_of _ (by decide +kernel)) ggX9_counted_X9_many
set_option maxRecDepth 20000 in
theorem ggX9_counted_X9_bits : GoodIn wsX9_counted wsX9_bits := goodIn_r _ [10] (by decide +kernel) (by decide +kernel)
set_option maxRecDepth 20000 in
theorem gX9_counted_X9_bits : GoodIn wsX9_counted (va_wsS RX9 103 yX9_bits wsX9_bits) := goodIn_app (goodIn_of _ (by decide +kernel)) ggX9_counted_X9_bits
theorem dX9_counted_0 : decode cX9_counted 0 = .ok (.iconst 0, 1) := by decide +kernel
theorem dX9_counted_1 : decode cX9_counted 1 = .ok (.istore_n 2, 1) := by decide +kernel
theorem dX9_counted_2 : decode cX9_counted 2 = .ok (.iconst 0, 1) := by decide +kernel
theorem dX9_counted_3 : decode cX9_counted 3 = .ok (.istore_n 3, 1) := by decide +kernel
theorem dX9_counted_4 : decode cX9_counted 4 = .ok (.iload_n 3, 1) := by decide +kernel
theorem dX9_counted_5 : decode cX9_counted 5 = .ok (.aload_n 0, 1) := by decide +kernel
theorem dX9_counted_6 : decode cX9_counted 6 = .ok (.invokevirtual 55, 3) := by decide +kernel
theorem dX9_counted_9 : decode cX9_counted 9 = .ok (.if_icmp .ge 21, 3) := by decide +kernel
theorem dX9_counted_12 : decode cX9_counted 12 = .ok (.iload_n 2, 1) := by decide +kernel
theorem dX9_counted_13 : decode cX9_counted 13 = .ok (.aload_n 0, 1) := by decide +kernel
theorem dX9_counted_14 : decode cX9_counted 14 = .ok (.getfield 7, 3) := by decide +kernel
theorem dX9_counted_17 : decode cX9_counted 17 = .ok (.bipush 12, 2) := by decide +kernel
theorem dX9_counted_19 : decode cX9_counted 19 = .ok (.iload_n 3, 1) := by decide +kernel
theorem dX9_counted_20 : decode cX9_counted 20 = .ok (.iadd, 1) := by decide +kernel
theorem dX9_counted_21 : decode cX9_counted 21 = .ok (.iaload, 1) := by decide +kernel
theorem dX9_counted_22 : decode cX9_counted 22 = .ok (.iadd, 1) := by decide +kernel
theorem dX9_counted_23 : decode cX9_counted 23 = .ok (.istore_n 2, 1) := by decide +kernel
theorem dX9_counted_24 : decode cX9_counted 24 = .ok (.iinc 3 1, 3) := by decide +kernel
theorem dX9_counted_27 : decode cX9_counted 27 = .ok (.goto (-23), 3) := by decide +kernel
theorem dX9_counted_30 : decode cX9_counted 30 = .ok (.iload_n 1, 1) := by decide +kernel
theorem dX9_counted_31 : decode cX9_counted 31 = .ok (.tableswitch 80 0 8 #[49, 54, 65, 73, 80, 80, 80, 80, 75], 49) := by decide +kernel
theorem dX9_counted_80 : decode cX9_counted 80 = .ok (.aload_n 0, 1) := by decide +kernel
theorem dX9_counted_81 : decode cX9_counted 81 = .ok (.invokevirtual 55, 3) := by decide +kernel
theorem dX9_counted_84 : decode cX9_counted 84 = .ok (.ireturn, 1) := by decide +kernel
theorem dX9_counted_85 : decode cX9_counted 85 = .ok (.aload_n 0, 1) := by decide +kernel
theorem dX9_counted_86 : decode cX9_counted 86 = .ok (.getfield 7, 3) := by decide +kernel
theorem dX9_counted_89 : decode cX9_counted 89 = .ok (.bipush 19, 2) := by decide +kernel
theorem dX9_counted_91 : decode cX9_counted 91 = .ok (.iaload, 1) := by decide +kernel
theorem dX9_counted_92 : decode cX9_counted 92 = .ok (.invokestatic 103, 3) := by decide +kernel
theorem dX9_counted_95 : decode cX9_counted 95 = .ok (.ireturn, 1) := by decide +kernel
theorem dX9_counted_96 : decode cX9_counted 96 = .ok (.aload_n 0, 1) := by decide +kernel
theorem dX9_counted_97 : decode cX9_counted 97 = .ok (.getfield 7, 3) := by decide +kernel
theorem dX9_counted_100 : decode cX9_counted 100 = .ok (.bipush 22, 2) := by decide +kernel
theorem dX9_counted_102 : decode cX9_counted 102 = .ok (.iaload, 1) := by decide +kernel
theorem dX9_counted_103 : decode cX9_counted 103 = .ok (.ireturn, 1) := by decide +kernel
theorem dX9_counted_104 : decode cX9_counted 104 = .ok (.iload_n 2, 1) := by decide +kernel
theorem dX9_counted_105 : decode cX9_counted 105 = .ok (.ireturn, 1) := by decide +kernel
theorem dX9_counted_106 : decode cX9_counted 106 = .ok (.aload_n 0, 1) := by decide +kernel
theorem dX9_counted_107 : decode cX9_counted 107 = .ok (.getfield 216, 3) := by decide +kernel
theorem dX9_counted_110 : decode cX9_counted 110 = .ok (.ireturn, 1) := by decide +kernel
theorem dX9_counted_111 : decode cX9_counted 111 = .ok (.aload_n 0, 1) := by decide +kernel
theorem dX9_counted_112 : decode cX9_counted 112 = .ok (.getfield 7, 3) := by decide +kernel
theorem dX9_counted_115 : decode cX9_counted 115 = .ok (.iconst 1, 1) := by decide +kernel
theorem dX9_counted_116 : decode cX9_counted 116 = .ok (.iload_n 1, 1) := by decide +kernel
theorem dX9_counted_117 : decode cX9_counted 117 = .ok (.iadd, 1) := by decide +kernel
theorem dX9_counted_118 : decode cX9_counted 118 = .ok (.iconst 4, 1) := by decide +kernel
theorem dX9_counted_119 : decode cX9_counted 119 = .ok (.isub, 1) := by decide +kernel
theorem dX9_counted_120 : decode cX9_counted 120 = .ok (.iaload, 1) := by decide +kernel
theorem dX9_counted_121 : decode cX9_counted 121 = .ok (.ireturn, 1) := by decide +kernel
set_option maxRecDepth 20000 in
theorem ggX9_count_X9_in : GoodIn wsX9_count wsX9_in := goodIn_r _ [5] (by decide +kernel) (by decide +kernel)
set_option maxRecDepth 20000 in
theorem gX9_count_X9_in : GoodIn wsX9_count (va_wsS RX9 59 yX9_in wsX9_in) := goodIn_app (goodIn_of _ (by decide +kernel)) ggX9_count_X9_in
set_option maxRecDepth 20000 in
theorem ggX9_count_X9_counted : GoodIn wsX9_count wsX9_counted := goodIn_r _ [9, 10, 11, 12, 13, 14, 4, 15, 16, 17, 18, 24, 25, 26, 27, 28, 29, 30, 31, 32, 33, 34, 35, 36, 37, 38, 39, 40, 41, 42] (by decide +kernel) (by decide +kernel)
set_option maxRecDepth 20000 in
theorem gX9_count_X9_counted : GoodIn wsX9_count (wsV RX9 287 RX9 yX9_counted wsX9_counted) := goodIn_app (goodIn_of _ (by decide +kernel)) ggX9_count_X9_counted
set_option maxRecDepth 20000 in
theorem ggX9_count_X9_bad : GoodIn wsX9_count wsX9_bad := goodIn_r _ [22, 23, 24, 25, 26, 27, 28, 29, 30, 31, 32, 33, 34, 35, 36, 37, 38, 39, 40, 41, 42] (by decide +kernel) (by decide +kernel)
set_option maxRecDepth 20000 in
theorem gX9_count_X9_bad : GoodIn wsX9_count (wsV RX9 75 RX9 yX9_bad wsX9_bad) := goodIn_app (goodIn_of _ (by decide +kernel)) ggX9_count_X9_bad
theorem dX9_count_0 : decode cX9_count 0 = .ok (.iload_n 1, 1) := by decide +kernel
theorem dX9_count_1 : decode cX9_count 1 = .ok (.i2l, 1) := by decide +kernel
theorem dX9_count_2 : decode cX9_count 2 = .ok (.lconst 0, 1) := by decide +kernel
theorem dX9_count_3 : decode cX9_count 3 = .ok (.ldc2_w 212, 3) := by decide +kernel
theorem dX9_count_6 : decode cX9_count 6 = .ok (.invokestatic 59, 3) := by decide +kernel
theorem dX9_count_9 : decode cX9_count 9 = .ok (.ifCond .eq 11, 3) := by decide +kernel
theorem dX9_count_12 : decode cX9_count 12 = .ok (.aload_n 0, 1) := by decide +kernel
theorem dX9_count_13 : decode cX9_count 13 = .ok (.iload_n 1, 1) := by decide +kernel
theorem dX9_count_14 : decode cX9_count 14 = .ok (.invokevirtual 287, 3) := by decide +kernel
theorem dX9_count_17 : decode cX9_count 17 = .ok (.goto 9, 3) := by decide +kernel
theorem dX9_count_20 : decode cX9_count 20 = .ok (.aload_n 0, 1) := by decide +kernel
theorem dX9_count_21 : decode cX9_count 21 = .ok (.bipush (-2), 2) := by decide +kernel
theorem dX9_count_23 : decode cX9_count 23 = .ok (.invokevirtual 75, 3) := by decide +kernel
theorem dX9_count_26 : decode cX9_count 26 = .ok (.ireturn, 1) := by decide +kernel
theorem dX9_sums_0 : decode cX9_sums 0 = .ok (.lload_n 1, 1) := by decide +kernel
theorem dX9_sums_1 : decode cX9_sums 1 = .ok (.lstore 5, 2) := by decide +kernel
theorem dX9_sums_3 : decode cX9_sums 3 = .ok (.iconst 0, 1) := by decide +kernel
theorem dX9_sums_4 : decode cX9_sums 4 = .ok (.istore 7, 2) := by decide +kernel
theorem dX9_sums_6 : decode cX9_sums 6 = .ok (.iload 7, 2) := by decide +kernel
theorem dX9_sums_8 : decode cX9_sums 8 = .ok (.iload 4, 2) := by decide +kernel
theorem dX9_sums_10 : decode cX9_sums 10 = .ok (.if_icmp .ge 28, 3) := by decide +kernel
theorem dX9_sums_13 : decode cX9_sums 13 = .ok (.ldc2_w 290, 3) := by decide +kernel
theorem dX9_sums_16 : decode cX9_sums 16 = .ok (.lload 5, 2) := by decide +kernel
theorem dX9_sums_18 : decode cX9_sums 18 = .ok (.lmul, 1) := by decide +kernel
theorem dX9_sums_19 : decode cX9_sums 19 = .ok (.aload_n 0, 1) := by decide +kernel
theorem dX9_sums_20 : decode cX9_sums 20 = .ok (.getfield 7, 3) := by decide +kernel
theorem dX9_sums_23 : decode cX9_sums 23 = .ok (.iload_n 3, 1) := by decide +kernel
theorem dX9_sums_24 : decode cX9_sums 24 = .ok (.iload 7, 2) := by decide +kernel
theorem dX9_sums_26 : decode cX9_sums 26 = .ok (.iadd, 1) := by decide +kernel
theorem dX9_sums_27 : decode cX9_sums 27 = .ok (.iaload, 1) := by decide +kernel
theorem dX9_sums_28 : decode cX9_sums 28 = .ok (.i2l, 1) := by decide +kernel
theorem dX9_sums_29 : decode cX9_sums 29 = .ok (.ladd, 1) := by decide +kernel
theorem dX9_sums_30 : decode cX9_sums 30 = .ok (.lstore 5, 2) := by decide +kernel
theorem dX9_sums_32 : decode cX9_sums 32 = .ok (.iinc 7 1, 3) := by decide +kernel
theorem dX9_sums_35 : decode cX9_sums 35 = .ok (.goto (-29), 3) := by decide +kernel
theorem dX9_sums_38 : decode cX9_sums 38 = .ok (.lload 5, 2) := by decide +kernel
theorem dX9_sums_40 : decode cX9_sums 40 = .ok (.lreturn, 1) := by decide +kernel
set_option maxRecDepth 20000 in
theorem ggX9_digest_X9_counted : GoodIn wsX9_digest wsX9_counted := goodIn_r _ [10, 3, 11, 12, 13, 14, 9, 15, 16, 17, 18, 46, 47, 48, 49, 50, 51, 52, 53, 54, 55, 56, 57, 58, 59, 60, 61, 62, 63, 64] (by decide +kernel) (by decide +kernel)
set_option maxRecDepth 20000 in
theorem gX9_digest_X9_counted : GoodIn wsX9_digest (wsV RX9 287 RX9 yX9_counted wsX9_counted) := goodIn_app (goodIn_of _ (by decide +kernel)) ggX9_digest_X9_counted
set_option maxRecDepth 20000 in
theorem ggX9_digest_X9_toldNow : GoodIn wsX9_digest wsX9_toldNow := goodIn_r _ [22, 3, 23, 24, 9, 25, 26, 27, 28, 29, 30, 31, 46, 47, 48, 49, 50, 51, 52, 53, 54, 55, 56, 57, 58, 59, 60, 61, 62, 63, 64] (by decide +kernel) (by decide +kernel)
set_option maxRecDepth 20000 in
theorem gX9_digest_X9_toldNow : GoodIn wsX9_digest (wsV RX9 150 RX9 yX9_toldNow wsX9_toldNow) := goodIn_app (goodIn_of _ (by decide +kernel)) ggX9_digest_X9_toldNow
set_option maxRecDepth 20000 in
theorem ggX9_digest_X9_sums : GoodIn wsX9_digest wsX9_sums := goodIn_r _ [35, 2, 3, 46, 47, 48, 49, 50, 51, 52, 53, 54, 55, 56, 57, 58, 59, 60, 61, 62, 63, 64] (by decide +kernel) (by decide +kernel)
set_option maxRecDepth 20000 in
theorem gX9_digest_X9_sums : GoodIn wsX9_digest (wsV RX9 294 RX9 yX9_sums wsX9_sums) := goodIn_app (goodIn_of _ (by decide +kernel)) ggX9_digest_X9_sums
set_option maxRecDepth 20000 in
theorem ggX9_digest_X9_many : GoodIn wsX9_digest wsX9_many := goodIn_r _ [15, 3, 46, 47, 48, 49, 50, 51, 52, 53, 54, 55, 56, 57, 58, 59, 60, 61, 62, 63, 64] (by decide +kernel) (by decide +kernel)
set_option maxRecDepth 20000 in
theorem gX9_digest_X9_many : GoodIn wsX9_digest (wsV RX9 55 RX9 yX9_many wsX9_many) := goodIn_app (goodIn_of _ (by decide +kernel)) ggX9_digest_X9_many
set_option maxRecDepth 20000 in
theorem ggX9_digest_X9_toldOf : GoodIn wsX9_digest wsX9_toldOf := goodIn_r _ [39, 3, 40, 41, 9, 42, 43, 44, 45, 46, 47, 48, 49, 50, 51, 52, 53, 54, 55, 56, 57, 58, 59, 60, 61, 62, 63, 64] (by decide +kernel) (by decide +kernel)
set_option maxRecDepth 20000 in
theorem gX9_digest_X9_toldOf : GoodIn wsX9_digest (wsV RX9 147 RX9 yX9_toldOf wsX9_toldOf) := goodIn_app (goodIn_of _ (by decide +kernel)) ggX9_digest_X9_toldOf
theorem dX9_digest_0 : decode cX9_digest 0 = .ok (.ldc2_w 292, 3) := by decide +kernel
theorem dX9_digest_3 : decode cX9_digest 3 = .ok (.lstore_n 1, 1) := by decide +kernel
theorem dX9_digest_4 : decode cX9_digest 4 = .ok (.iconst 0, 1) := by decide +kernel
theorem dX9_digest_5 : decode cX9_digest 5 = .ok (.istore_n 3, 1) := by decide +kernel
theorem dX9_digest_6 : decode cX9_digest 6 = .ok (.iload_n 3, 1) := by decide +kernel
theorem dX9_digest_7 : decode cX9_digest 7 = .ok (.bipush 9, 2) := by decide +kernel
theorem dX9_digest_9 : decode cX9_digest 9 = .ok (.if_icmp .ge 22, 3) := by decide +kernel
theorem dX9_digest_12 : decode cX9_digest 12 = .ok (.ldc2_w 290, 3) := by decide +kernel
theorem dX9_digest_15 : decode cX9_digest 15 = .ok (.lload_n 1, 1) := by decide +kernel
theorem dX9_digest_16 : decode cX9_digest 16 = .ok (.lmul, 1) := by decide +kernel
theorem dX9_digest_17 : decode cX9_digest 17 = .ok (.aload_n 0, 1) := by decide +kernel
theorem dX9_digest_18 : decode cX9_digest 18 = .ok (.iload_n 3, 1) := by decide +kernel
theorem dX9_digest_19 : decode cX9_digest 19 = .ok (.invokevirtual 287, 3) := by decide +kernel
theorem dX9_digest_22 : decode cX9_digest 22 = .ok (.i2l, 1) := by decide +kernel
theorem dX9_digest_23 : decode cX9_digest 23 = .ok (.ladd, 1) := by decide +kernel
theorem dX9_digest_24 : decode cX9_digest 24 = .ok (.lstore_n 1, 1) := by decide +kernel
theorem dX9_digest_25 : decode cX9_digest 25 = .ok (.iinc 3 1, 3) := by decide +kernel
theorem dX9_digest_28 : decode cX9_digest 28 = .ok (.goto (-22), 3) := by decide +kernel
theorem dX9_digest_31 : decode cX9_digest 31 = .ok (.iconst 0, 1) := by decide +kernel
theorem dX9_digest_32 : decode cX9_digest 32 = .ok (.istore_n 3, 1) := by decide +kernel
theorem dX9_digest_33 : decode cX9_digest 33 = .ok (.iload_n 3, 1) := by decide +kernel
theorem dX9_digest_34 : decode cX9_digest 34 = .ok (.iconst 4, 1) := by decide +kernel
theorem dX9_digest_35 : decode cX9_digest 35 = .ok (.if_icmp .ge 22, 3) := by decide +kernel
theorem dX9_digest_38 : decode cX9_digest 38 = .ok (.ldc2_w 290, 3) := by decide +kernel
theorem dX9_digest_41 : decode cX9_digest 41 = .ok (.lload_n 1, 1) := by decide +kernel
theorem dX9_digest_42 : decode cX9_digest 42 = .ok (.lmul, 1) := by decide +kernel
theorem dX9_digest_43 : decode cX9_digest 43 = .ok (.aload_n 0, 1) := by decide +kernel
theorem dX9_digest_44 : decode cX9_digest 44 = .ok (.iload_n 3, 1) := by decide +kernel
theorem dX9_digest_45 : decode cX9_digest 45 = .ok (.invokevirtual 150, 3) := by decide +kernel
theorem dX9_digest_48 : decode cX9_digest 48 = .ok (.i2l, 1) := by decide +kernel
theorem dX9_digest_49 : decode cX9_digest 49 = .ok (.ladd, 1) := by decide +kernel
theorem dX9_digest_50 : decode cX9_digest 50 = .ok (.lstore_n 1, 1) := by decide +kernel
theorem dX9_digest_51 : decode cX9_digest 51 = .ok (.iinc 3 1, 3) := by decide +kernel
theorem dX9_digest_54 : decode cX9_digest 54 = .ok (.goto (-21), 3) := by decide +kernel
theorem dX9_digest_57 : decode cX9_digest 57 = .ok (.aload_n 0, 1) := by decide +kernel
theorem dX9_digest_58 : decode cX9_digest 58 = .ok (.lload_n 1, 1) := by decide +kernel
theorem dX9_digest_59 : decode cX9_digest 59 = .ok (.bipush 25, 2) := by decide +kernel
theorem dX9_digest_61 : decode cX9_digest 61 = .ok (.bipush 6, 2) := by decide +kernel
theorem dX9_digest_63 : decode cX9_digest 63 = .ok (.invokevirtual 294, 3) := by decide +kernel
theorem dX9_digest_66 : decode cX9_digest 66 = .ok (.lstore_n 1, 1) := by decide +kernel
theorem dX9_digest_67 : decode cX9_digest 67 = .ok (.iconst 0, 1) := by decide +kernel
theorem dX9_digest_68 : decode cX9_digest 68 = .ok (.istore_n 3, 1) := by decide +kernel
theorem dX9_digest_69 : decode cX9_digest 69 = .ok (.iload_n 3, 1) := by decide +kernel
theorem dX9_digest_70 : decode cX9_digest 70 = .ok (.aload_n 0, 1) := by decide +kernel
theorem dX9_digest_71 : decode cX9_digest 71 = .ok (.invokevirtual 55, 3) := by decide +kernel
theorem dX9_digest_74 : decode cX9_digest 74 = .ok (.if_icmp .ge 39, 3) := by decide +kernel
theorem dX9_digest_77 : decode cX9_digest 77 = .ok (.iconst 0, 1) := by decide +kernel
theorem dX9_digest_78 : decode cX9_digest 78 = .ok (.istore 4, 2) := by decide +kernel
theorem dX9_digest_80 : decode cX9_digest 80 = .ok (.iload 4, 2) := by decide +kernel
theorem dX9_digest_82 : decode cX9_digest 82 = .ok (.iconst 4, 1) := by decide +kernel
theorem dX9_digest_83 : decode cX9_digest 83 = .ok (.if_icmp .ge 24, 3) := by decide +kernel
theorem dX9_digest_86 : decode cX9_digest 86 = .ok (.ldc2_w 290, 3) := by decide +kernel
theorem dX9_digest_89 : decode cX9_digest 89 = .ok (.lload_n 1, 1) := by decide +kernel
theorem dX9_digest_90 : decode cX9_digest 90 = .ok (.lmul, 1) := by decide +kernel
theorem dX9_digest_91 : decode cX9_digest 91 = .ok (.aload_n 0, 1) := by decide +kernel
theorem dX9_digest_92 : decode cX9_digest 92 = .ok (.iload_n 3, 1) := by decide +kernel
theorem dX9_digest_93 : decode cX9_digest 93 = .ok (.iload 4, 2) := by decide +kernel
theorem dX9_digest_95 : decode cX9_digest 95 = .ok (.invokevirtual 147, 3) := by decide +kernel
theorem dX9_digest_98 : decode cX9_digest 98 = .ok (.i2l, 1) := by decide +kernel
theorem dX9_digest_99 : decode cX9_digest 99 = .ok (.ladd, 1) := by decide +kernel
theorem dX9_digest_100 : decode cX9_digest 100 = .ok (.lstore_n 1, 1) := by decide +kernel
theorem dX9_digest_101 : decode cX9_digest 101 = .ok (.iinc 4 1, 3) := by decide +kernel
theorem dX9_digest_104 : decode cX9_digest 104 = .ok (.goto (-24), 3) := by decide +kernel
theorem dX9_digest_107 : decode cX9_digest 107 = .ok (.iinc 3 1, 3) := by decide +kernel
theorem dX9_digest_110 : decode cX9_digest 110 = .ok (.goto (-41), 3) := by decide +kernel
theorem dX9_digest_113 : decode cX9_digest 113 = .ok (.aload_n 0, 1) := by decide +kernel
theorem dX9_digest_114 : decode cX9_digest 114 = .ok (.lload_n 1, 1) := by decide +kernel
theorem dX9_digest_115 : decode cX9_digest 115 = .ok (.bipush 38, 2) := by decide +kernel
theorem dX9_digest_117 : decode cX9_digest 117 = .ok (.iconst 4, 1) := by decide +kernel
theorem dX9_digest_118 : decode cX9_digest 118 = .ok (.aload_n 0, 1) := by decide +kernel
theorem dX9_digest_119 : decode cX9_digest 119 = .ok (.getfield 7, 3) := by decide +kernel
theorem dX9_digest_122 : decode cX9_digest 122 = .ok (.iconst 1, 1) := by decide +kernel
theorem dX9_digest_123 : decode cX9_digest 123 = .ok (.iaload, 1) := by decide +kernel
theorem dX9_digest_124 : decode cX9_digest 124 = .ok (.imul, 1) := by decide +kernel
theorem dX9_digest_125 : decode cX9_digest 125 = .ok (.invokevirtual 294, 3) := by decide +kernel
theorem dX9_digest_128 : decode cX9_digest 128 = .ok (.lstore_n 1, 1) := by decide +kernel
theorem dX9_digest_129 : decode cX9_digest 129 = .ok (.aload_n 0, 1) := by decide +kernel
theorem dX9_digest_130 : decode cX9_digest 130 = .ok (.lload_n 1, 1) := by decide +kernel
theorem dX9_digest_131 : decode cX9_digest 131 = .ok (.bipush 58, 2) := by decide +kernel
theorem dX9_digest_133 : decode cX9_digest 133 = .ok (.iconst 5, 1) := by decide +kernel
theorem dX9_digest_134 : decode cX9_digest 134 = .ok (.aload_n 0, 1) := by decide +kernel
theorem dX9_digest_135 : decode cX9_digest 135 = .ok (.getfield 7, 3) := by decide +kernel
theorem dX9_digest_138 : decode cX9_digest 138 = .ok (.iconst 2, 1) := by decide +kernel
theorem dX9_digest_139 : decode cX9_digest 139 = .ok (.iaload, 1) := by decide +kernel
theorem dX9_digest_140 : decode cX9_digest 140 = .ok (.imul, 1) := by decide +kernel
theorem dX9_digest_141 : decode cX9_digest 141 = .ok (.invokevirtual 294, 3) := by decide +kernel
theorem dX9_digest_144 : decode cX9_digest 144 = .ok (.lstore_n 1, 1) := by decide +kernel
theorem dX9_digest_145 : decode cX9_digest 145 = .ok (.aload_n 0, 1) := by decide +kernel
theorem dX9_digest_146 : decode cX9_digest 146 = .ok (.lload_n 1, 1) := by decide +kernel
theorem dX9_digest_147 : decode cX9_digest 147 = .ok (.bipush 88, 2) := by decide +kernel
theorem dX9_digest_149 : decode cX9_digest 149 = .ok (.iconst 3, 1) := by decide +kernel
theorem dX9_digest_150 : decode cX9_digest 150 = .ok (.aload_n 0, 1) := by decide +kernel
theorem dX9_digest_151 : decode cX9_digest 151 = .ok (.getfield 7, 3) := by decide +kernel
theorem dX9_digest_154 : decode cX9_digest 154 = .ok (.iconst 3, 1) := by decide +kernel
theorem dX9_digest_155 : decode cX9_digest 155 = .ok (.iaload, 1) := by decide +kernel
theorem dX9_digest_156 : decode cX9_digest 156 = .ok (.imul, 1) := by decide +kernel
theorem dX9_digest_157 : decode cX9_digest 157 = .ok (.invokevirtual 294, 3) := by decide +kernel
theorem dX9_digest_160 : decode cX9_digest 160 = .ok (.lstore_n 1, 1) := by decide +kernel
theorem dX9_digest_161 : decode cX9_digest 161 = .ok (.ldc2_w 290, 3) := by decide +kernel
theorem dX9_digest_164 : decode cX9_digest 164 = .ok (.ldc2_w 290, 3) := by decide +kernel
theorem dX9_digest_167 : decode cX9_digest 167 = .ok (.lload_n 1, 1) := by decide +kernel
theorem dX9_digest_168 : decode cX9_digest 168 = .ok (.lmul, 1) := by decide +kernel
theorem dX9_digest_169 : decode cX9_digest 169 = .ok (.aload_n 0, 1) := by decide +kernel
theorem dX9_digest_170 : decode cX9_digest 170 = .ok (.getfield 193, 3) := by decide +kernel
theorem dX9_digest_173 : decode cX9_digest 173 = .ok (.ladd, 1) := by decide +kernel
theorem dX9_digest_174 : decode cX9_digest 174 = .ok (.lmul, 1) := by decide +kernel
theorem dX9_digest_175 : decode cX9_digest 175 = .ok (.aload_n 0, 1) := by decide +kernel
theorem dX9_digest_176 : decode cX9_digest 176 = .ok (.getfield 23, 3) := by decide +kernel
theorem dX9_digest_179 : decode cX9_digest 179 = .ok (.ladd, 1) := by decide +kernel
theorem dX9_digest_180 : decode cX9_digest 180 = .ok (.lreturn, 1) := by decide +kernel
theorem dJ6_bitCount_0f7a4_0 : decode cJ6_bitCount_0f7a4 0 = .ok (.iload_n 0, 1) := by decide +kernel
theorem dJ6_bitCount_0f7a4_1 : decode cJ6_bitCount_0f7a4 1 = .ok (.iload_n 0, 1) := by decide +kernel
theorem dJ6_bitCount_0f7a4_2 : decode cJ6_bitCount_0f7a4 2 = .ok (.iconst 1, 1) := by decide +kernel
theorem dJ6_bitCount_0f7a4_3 : decode cJ6_bitCount_0f7a4 3 = .ok (.iushr, 1) := by decide +kernel
theorem dJ6_bitCount_0f7a4_4 : decode cJ6_bitCount_0f7a4 4 = .ok (.ldc_w 265, 3) := by decide +kernel
theorem dJ6_bitCount_0f7a4_7 : decode cJ6_bitCount_0f7a4 7 = .ok (.iand, 1) := by decide +kernel
theorem dJ6_bitCount_0f7a4_8 : decode cJ6_bitCount_0f7a4 8 = .ok (.isub, 1) := by decide +kernel
theorem dJ6_bitCount_0f7a4_9 : decode cJ6_bitCount_0f7a4 9 = .ok (.istore_n 0, 1) := by decide +kernel
theorem dJ6_bitCount_0f7a4_10 : decode cJ6_bitCount_0f7a4 10 = .ok (.iload_n 0, 1) := by decide +kernel
theorem dJ6_bitCount_0f7a4_11 : decode cJ6_bitCount_0f7a4 11 = .ok (.ldc_w 266, 3) := by decide +kernel
theorem dJ6_bitCount_0f7a4_14 : decode cJ6_bitCount_0f7a4 14 = .ok (.iand, 1) := by decide +kernel
theorem dJ6_bitCount_0f7a4_15 : decode cJ6_bitCount_0f7a4 15 = .ok (.iload_n 0, 1) := by decide +kernel
theorem dJ6_bitCount_0f7a4_16 : decode cJ6_bitCount_0f7a4 16 = .ok (.iconst 2, 1) := by decide +kernel
theorem dJ6_bitCount_0f7a4_17 : decode cJ6_bitCount_0f7a4 17 = .ok (.iushr, 1) := by decide +kernel
theorem dJ6_bitCount_0f7a4_18 : decode cJ6_bitCount_0f7a4 18 = .ok (.ldc_w 266, 3) := by decide +kernel
theorem dJ6_bitCount_0f7a4_21 : decode cJ6_bitCount_0f7a4 21 = .ok (.iand, 1) := by decide +kernel
theorem dJ6_bitCount_0f7a4_22 : decode cJ6_bitCount_0f7a4 22 = .ok (.iadd, 1) := by decide +kernel
theorem dJ6_bitCount_0f7a4_23 : decode cJ6_bitCount_0f7a4 23 = .ok (.istore_n 0, 1) := by decide +kernel
theorem dJ6_bitCount_0f7a4_24 : decode cJ6_bitCount_0f7a4 24 = .ok (.iload_n 0, 1) := by decide +kernel
theorem dJ6_bitCount_0f7a4_25 : decode cJ6_bitCount_0f7a4 25 = .ok (.iload_n 0, 1) := by decide +kernel
theorem dJ6_bitCount_0f7a4_26 : decode cJ6_bitCount_0f7a4 26 = .ok (.iconst 4, 1) := by decide +kernel
theorem dJ6_bitCount_0f7a4_27 : decode cJ6_bitCount_0f7a4 27 = .ok (.iushr, 1) := by decide +kernel
theorem dJ6_bitCount_0f7a4_28 : decode cJ6_bitCount_0f7a4 28 = .ok (.iadd, 1) := by decide +kernel
theorem dJ6_bitCount_0f7a4_29 : decode cJ6_bitCount_0f7a4 29 = .ok (.ldc_w 267, 3) := by decide +kernel
theorem dJ6_bitCount_0f7a4_32 : decode cJ6_bitCount_0f7a4 32 = .ok (.iand, 1) := by decide +kernel
theorem dJ6_bitCount_0f7a4_33 : decode cJ6_bitCount_0f7a4 33 = .ok (.istore_n 0, 1) := by decide +kernel
theorem dJ6_bitCount_0f7a4_34 : decode cJ6_bitCount_0f7a4 34 = .ok (.iload_n 0, 1) := by decide +kernel
theorem dJ6_bitCount_0f7a4_35 : decode cJ6_bitCount_0f7a4 35 = .ok (.iload_n 0, 1) := by decide +kernel
theorem dJ6_bitCount_0f7a4_36 : decode cJ6_bitCount_0f7a4 36 = .ok (.bipush 8, 2) := by decide +kernel
theorem dJ6_bitCount_0f7a4_38 : decode cJ6_bitCount_0f7a4 38 = .ok (.iushr, 1) := by decide +kernel
theorem dJ6_bitCount_0f7a4_39 : decode cJ6_bitCount_0f7a4 39 = .ok (.iadd, 1) := by decide +kernel
theorem dJ6_bitCount_0f7a4_40 : decode cJ6_bitCount_0f7a4 40 = .ok (.istore_n 0, 1) := by decide +kernel
theorem dJ6_bitCount_0f7a4_41 : decode cJ6_bitCount_0f7a4 41 = .ok (.iload_n 0, 1) := by decide +kernel
theorem dJ6_bitCount_0f7a4_42 : decode cJ6_bitCount_0f7a4 42 = .ok (.iload_n 0, 1) := by decide +kernel
theorem dJ6_bitCount_0f7a4_43 : decode cJ6_bitCount_0f7a4 43 = .ok (.bipush 16, 2) := by decide +kernel
theorem dJ6_bitCount_0f7a4_45 : decode cJ6_bitCount_0f7a4 45 = .ok (.iushr, 1) := by decide +kernel
theorem dJ6_bitCount_0f7a4_46 : decode cJ6_bitCount_0f7a4 46 = .ok (.iadd, 1) := by decide +kernel
theorem dJ6_bitCount_0f7a4_47 : decode cJ6_bitCount_0f7a4 47 = .ok (.istore_n 0, 1) := by decide +kernel
theorem dJ6_bitCount_0f7a4_48 : decode cJ6_bitCount_0f7a4 48 = .ok (.iload_n 0, 1) := by decide +kernel
theorem dJ6_bitCount_0f7a4_49 : decode cJ6_bitCount_0f7a4 49 = .ok (.bipush 63, 2) := by decide +kernel
theorem dJ6_bitCount_0f7a4_51 : decode cJ6_bitCount_0f7a4 51 = .ok (.iand, 1) := by decide +kernel
theorem dJ6_bitCount_0f7a4_52 : decode cJ6_bitCount_0f7a4 52 = .ok (.ireturn, 1) := by decide +kernel
theorem dJ9_max_7cf53_0 : decode cJ9_max_7cf53 0 = .ok (.iload_n 0, 1) := by decide +kernel
theorem dJ9_max_7cf53_1 : decode cJ9_max_7cf53 1 = .ok (.iload_n 1, 1) := by decide +kernel
theorem dJ9_max_7cf53_2 : decode cJ9_max_7cf53 2 = .ok (.if_icmp .lt 7, 3) := by decide +kernel
theorem dJ9_max_7cf53_5 : decode cJ9_max_7cf53 5 = .ok (.iload_n 0, 1) := by decide +kernel
theorem dJ9_max_7cf53_6 : decode cJ9_max_7cf53 6 = .ok (.goto 4, 3) := by decide +kernel
theorem dJ9_max_7cf53_9 : decode cJ9_max_7cf53 9 = .ok (.iload_n 1, 1) := by decide +kernel
theorem dJ9_max_7cf53_10 : decode cJ9_max_7cf53 10 = .ok (.ireturn, 1) := by decide +kernel
theorem dJ9_min_7cf53_0 : decode cJ9_min_7cf53 0 = .ok (.iload_n 0, 1) := by decide +kernel
theorem dJ9_min_7cf53_1 : decode cJ9_min_7cf53 1 = .ok (.iload_n 1, 1) := by decide +kernel
theorem dJ9_min_7cf53_2 : decode cJ9_min_7cf53 2 = .ok (.if_icmp .gt 7, 3) := by decide +kernel
theorem dJ9_min_7cf53_5 : decode cJ9_min_7cf53 5 = .ok (.iload_n 0, 1) := by decide +kernel
theorem dJ9_min_7cf53_6 : decode cJ9_min_7cf53 6 = .ok (.goto 4, 3) := by decide +kernel
theorem dJ9_min_7cf53_9 : decode cJ9_min_7cf53 9 = .ok (.iload_n 1, 1) := by decide +kernel
theorem dJ9_min_7cf53_10 : decode cJ9_min_7cf53 10 = .ok (.ireturn, 1) := by decide +kernel
set_option maxRecDepth 20000 in
theorem ggJ0_length_8abf5_J0_coder_7d493 : GoodIn wsJ0_length_8abf5 wsJ0_coder_7d493 := goodIn_r _ [6, 7, 8] (by decide +kernel) (by decide +kernel)
set_option maxRecDepth 20000 in
theorem gJ0_length_8abf5_J0_coder_7d493 : GoodIn wsJ0_length_8abf5 (wsV RJ0 335 RJ0 yJ0_coder_7d493 wsJ0_coder_7d493) := goodIn_app (goodIn_of _ (by decide +kernel)) ggJ0_length_8abf5_J0_coder_7d493
theorem dJ0_length_8abf5_0 : decode cJ0_length_8abf5 0 = .ok (.aload_n 0, 1) := by decide +kernel
theorem dJ0_length_8abf5_1 : decode cJ0_length_8abf5 1 = .ok (.getfield 9, 3) := by decide +kernel
theorem dJ0_length_8abf5_4 : decode cJ0_length_8abf5 4 = .ok (.arraylength, 1) := by decide +kernel
theorem dJ0_length_8abf5_5 : decode cJ0_length_8abf5 5 = .ok (.aload_n 0, 1) := by decide +kernel
theorem dJ0_length_8abf5_6 : decode cJ0_length_8abf5 6 = .ok (.invokevirtual 335, 3) := by decide +kernel
theorem dJ0_length_8abf5_9 : decode cJ0_length_8abf5 9 = .ok (.ishr, 1) := by decide +kernel
theorem dJ0_length_8abf5_10 : decode cJ0_length_8abf5 10 = .ok (.ireturn, 1) := by decide +kernel
set_option maxRecDepth 20000 in
theorem ggJ0_charAt_5068e_J0_isLatin1_aae02 : GoodIn wsJ0_charAt_5068e wsJ0_isLatin1_aae02 := goodIn_r _ [6, 7, 8] (by decide +kernel) (by decide +kernel)
set_option maxRecDepth 20000 in
theorem gJ0_charAt_5068e_J0_isLatin1_aae02 : GoodIn wsJ0_charAt_5068e (wsV RJ0 492 RJ0 yJ0_isLatin1_aae02 wsJ0_isLatin1_aae02) := goodIn_app (goodIn_of _ (by decide +kernel)) ggJ0_charAt_5068e_J0_isLatin1_aae02
set_option maxRecDepth 20000 in
theorem ggJ0_charAt_5068e_J1_charAt_3b067 : GoodIn wsJ0_charAt_5068e wsJ1_charAt_3b067 := goodIn_r _ [12, 13, 14, 5, 15, 16, 17, 18, 19, 20] (by decide +kernel) (by decide +kernel)
set_option maxRecDepth 20000 in
theorem gJ0_charAt_5068e_J1_charAt_3b067 : GoodIn wsJ0_charAt_5068e (va_wsS RJ0 495 yJ1_charAt_3b067 wsJ1_charAt_3b067) := goodIn_app (goodIn_of _ (by decide +kernel)) ggJ0_charAt_5068e_J1_charAt_3b067
set_option maxRecDepth 20000 in
theorem ggJ0_charAt_5068e_J2_charAt_3b067 : GoodIn wsJ0_charAt_5068e wsJ2_charAt_3b067 := goodIn_r _ [24, 25, 26, 23, 27, 28, 29, 30, 31, 14, 5, 15, 16, 17, 18, 19, 20, 32, 33, 34, 35, 36, 37] (by decide +kernel) (by decide +kernel)
set_option maxRecDepth 20000 in
theorem gJ0_charAt_5068e_J2_charAt_3b067 : GoodIn wsJ0_charAt_5068e (va_wsS RJ0 498 yJ2_charAt_3b067 wsJ2_charAt_3b067) := goodIn_app (goodIn_of _ (by decide +kernel)) ggJ0_charAt_5068e_J2_charAt_3b067
theorem dJ0_charAt_5068e_0 : decode cJ0_charAt_5068e 0 = .ok (.aload_n 0, 1) := by decide +kernel
theorem dJ0_charAt_5068e_1 : decode cJ0_charAt_5068e 1 = .ok (.invokevirtual 492, 3) := by decide +kernel
theorem dJ0_charAt_5068e_4 : decode cJ0_charAt_5068e 4 = .ok (.ifCond .eq 12, 3) := by decide +kernel
theorem dJ0_charAt_5068e_7 : decode cJ0_charAt_5068e 7 = .ok (.aload_n 0, 1) := by decide +kernel
theorem dJ0_charAt_5068e_8 : decode cJ0_charAt_5068e 8 = .ok (.getfield 9, 3) := by decide +kernel
theorem dJ0_charAt_5068e_11 : decode cJ0_charAt_5068e 11 = .ok (.iload_n 1, 1) := by decide +kernel
theorem dJ0_charAt_5068e_12 : decode cJ0_charAt_5068e 12 = .ok (.invokestatic 495, 3) := by decide +kernel
theorem dJ0_charAt_5068e_15 : decode cJ0_charAt_5068e 15 = .ok (.ireturn, 1) := by decide +kernel
theorem dJ0_charAt_5068e_16 : decode cJ0_charAt_5068e 16 = .ok (.aload_n 0, 1) := by decide +kernel
theorem dJ0_charAt_5068e_17 : decode cJ0_charAt_5068e 17 = .ok (.getfield 9, 3) := by decide +kernel
theorem dJ0_charAt_5068e_20 : decode cJ0_charAt_5068e 20 = .ok (.iload_n 1, 1) := by decide +kernel
theorem dJ0_charAt_5068e_21 : decode cJ0_charAt_5068e 21 = .ok (.invokestatic 498, 3) := by decide +kernel
theorem dJ0_charAt_5068e_24 : decode cJ0_charAt_5068e 24 = .ok (.ireturn, 1) := by decide +kernel
theorem dJ0_coder_7d493_0 : decode cJ0_coder_7d493 0 = .ok (.getstatic 38, 3) := by decide +kernel
theorem dJ0_coder_7d493_3 : decode cJ0_coder_7d493 3 = .ok (.ifCond .eq 10, 3) := by decide +kernel
theorem dJ0_coder_7d493_6 : decode cJ0_coder_7d493 6 = .ok (.aload_n 0, 1) := by decide +kernel
theorem dJ0_coder_7d493_7 : decode cJ0_coder_7d493 7 = .ok (.getfield 15, 3) := by decide +kernel
theorem dJ0_coder_7d493_10 : decode cJ0_coder_7d493 10 = .ok (.goto 4, 3) := by decide +kernel
theorem dJ0_coder_7d493_13 : decode cJ0_coder_7d493 13 = .ok (.iconst 1, 1) := by decide +kernel
theorem dJ0_coder_7d493_14 : decode cJ0_coder_7d493 14 = .ok (.ireturn, 1) := by decide +kernel
theorem dJ0_isLatin1_aae02_0 : decode cJ0_isLatin1_aae02 0 = .ok (.getstatic 38, 3) := by decide +kernel
theorem dJ0_isLatin1_aae02_3 : decode cJ0_isLatin1_aae02 3 = .ok (.ifCond .eq 14, 3) := by decide +kernel
theorem dJ0_isLatin1_aae02_6 : decode cJ0_isLatin1_aae02 6 = .ok (.aload_n 0, 1) := by decide +kernel
theorem dJ0_isLatin1_aae02_7 : decode cJ0_isLatin1_aae02 7 = .ok (.getfield 15, 3) := by decide +kernel
theorem dJ0_isLatin1_aae02_10 : decode cJ0_isLatin1_aae02 10 = .ok (.ifCond .ne 7, 3) := by decide +kernel
theorem dJ0_isLatin1_aae02_13 : decode cJ0_isLatin1_aae02 13 = .ok (.iconst 1, 1) := by decide +kernel
theorem dJ0_isLatin1_aae02_14 : decode cJ0_isLatin1_aae02 14 = .ok (.goto 4, 3) := by decide +kernel
theorem dJ0_isLatin1_aae02_17 : decode cJ0_isLatin1_aae02 17 = .ok (.iconst 0, 1) := by decide +kernel
theorem dJ0_isLatin1_aae02_18 : decode cJ0_isLatin1_aae02 18 = .ok (.ireturn, 1) := by decide +kernel
set_option maxRecDepth 20000 in
theorem ggJ0_checkIndex_df160_J3_checkIndex_8e157 : GoodIn wsJ0_checkIndex_df160 wsJ3_checkIndex_8e157 := goodIn_r _ [5] (by decide +kernel) (by decide +kernel)
set_option maxRecDepth 20000 in
theorem gJ0_checkIndex_df160_J3_checkIndex_8e157 : GoodIn wsJ0_checkIndex_df160 (va_wsS RJ0 1059 yJ3_checkIndex_8e157 wsJ3_checkIndex_8e157) := goodIn_app (goodIn_of _ (by decide +kernel)) ggJ0_checkIndex_df160_J3_checkIndex_8e157
theorem dJ0_checkIndex_df160_0 : decode cJ0_checkIndex_df160 0 = .ok (.iload_n 0, 1) := by decide +kernel
theorem dJ0_checkIndex_df160_1 : decode cJ0_checkIndex_df160 1 = .ok (.iload_n 1, 1) := by decide +kernel
theorem dJ0_checkIndex_df160_2 : decode cJ0_checkIndex_df160 2 = .ok (.getstatic 1053, 3) := by decide +kernel
theorem dJ0_checkIndex_df160_5 : decode cJ0_checkIndex_df160 5 = .ok (.invokestatic 1059, 3) := by decide +kernel
theorem dJ0_checkIndex_df160_8 : decode cJ0_checkIndex_df160 8 = .ok (.pop, 1) := by decide +kernel
theorem dJ0_checkIndex_df160_9 : decode cJ0_checkIndex_df160 9 = .ok (.return_, 1) := by decide +kernel
set_option maxRecDepth 20000 in
theorem ggJ1_charAt_3b067_J0_checkIndex_df160 : GoodIn wsJ1_charAt_3b067 wsJ0_checkIndex_df160 := goodIn_r _ [4, 5, 6, 7, 8, 9] (by decide +kernel) (by decide +kernel)
set_option maxRecDepth 20000 in
theorem gJ1_charAt_3b067_J0_checkIndex_df160 : GoodIn wsJ1_charAt_3b067 (va_wsS RJ1 9 yJ0_checkIndex_df160 wsJ0_checkIndex_df160) := goodIn_app (goodIn_of _ (by decide +kernel)) ggJ1_charAt_3b067_J0_checkIndex_df160
theorem dJ1_charAt_3b067_0 : decode cJ1_charAt_3b067 0 = .ok (.iload_n 1, 1) := by decide +kernel
theorem dJ1_charAt_3b067_1 : decode cJ1_charAt_3b067 1 = .ok (.aload_n 0, 1) := by decide +kernel
theorem dJ1_charAt_3b067_2 : decode cJ1_charAt_3b067 2 = .ok (.arraylength, 1) := by decide +kernel
theorem dJ1_charAt_3b067_3 : decode cJ1_charAt_3b067 3 = .ok (.invokestatic 9, 3) := by decide +kernel
theorem dJ1_charAt_3b067_6 : decode cJ1_charAt_3b067 6 = .ok (.aload_n 0, 1) := by decide +kernel
theorem dJ1_charAt_3b067_7 : decode cJ1_charAt_3b067 7 = .ok (.iload_n 1, 1) := by decide +kernel
theorem dJ1_charAt_3b067_8 : decode cJ1_charAt_3b067 8 = .ok (.baload, 1) := by decide +kernel
theorem dJ1_charAt_3b067_9 : decode cJ1_charAt_3b067 9 = .ok (.sipush 255, 3) := by decide +kernel
theorem dJ1_charAt_3b067_12 : decode cJ1_charAt_3b067 12 = .ok (.iand, 1) := by decide +kernel
theorem dJ1_charAt_3b067_13 : decode cJ1_charAt_3b067 13 = .ok (.i2c, 1) := by decide +kernel
theorem dJ1_charAt_3b067_14 : decode cJ1_charAt_3b067 14 = .ok (.ireturn, 1) := by decide +kernel
set_option maxRecDepth 20000 in
theorem ggJ2_getChar_3b067_J2_length_9d52b : GoodIn wsJ2_getChar_3b067 wsJ2_length_9d52b := goodIn_r _ [7] (by decide +kernel) (by decide +kernel)
set_option maxRecDepth 20000 in
theorem gJ2_getChar_3b067_J2_length_9d52b : GoodIn wsJ2_getChar_3b067 (va_wsS RJ2 48 yJ2_length_9d52b wsJ2_length_9d52b) := goodIn_app (goodIn_of _ (by decide +kernel)) ggJ2_getChar_3b067_J2_length_9d52b
theorem dJ2_getChar_3b067_0 : decode cJ2_getChar_3b067 0 = .ok (.getstatic 44, 3) := by decide +kernel
theorem dJ2_getChar_3b067_3 : decode cJ2_getChar_3b067 3 = .ok (.ifCond .ne 25, 3) := by decide +kernel
theorem dJ2_getChar_3b067_6 : decode cJ2_getChar_3b067 6 = .ok (.iload_n 1, 1) := by decide +kernel
theorem dJ2_getChar_3b067_7 : decode cJ2_getChar_3b067 7 = .ok (.ifCond .lt 11, 3) := by decide +kernel
theorem dJ2_getChar_3b067_10 : decode cJ2_getChar_3b067 10 = .ok (.iload_n 1, 1) := by decide +kernel
theorem dJ2_getChar_3b067_11 : decode cJ2_getChar_3b067 11 = .ok (.aload_n 0, 1) := by decide +kernel
theorem dJ2_getChar_3b067_12 : decode cJ2_getChar_3b067 12 = .ok (.invokestatic 48, 3) := by decide +kernel
theorem dJ2_getChar_3b067_15 : decode cJ2_getChar_3b067 15 = .ok (.if_icmp .lt 13, 3) := by decide +kernel
theorem dJ2_getChar_3b067_18 : decode cJ2_getChar_3b067 18 = .ok (.new 52, 3) := by decide +kernel
theorem dJ2_getChar_3b067_21 : decode cJ2_getChar_3b067 21 = .ok (.dup, 1) := by decide +kernel
theorem dJ2_getChar_3b067_22 : decode cJ2_getChar_3b067 22 = .ok (.ldc 54, 2) := by decide +kernel
theorem dJ2_getChar_3b067_24 : decode cJ2_getChar_3b067 24 = .ok (.invokespecial 56, 3) := by decide +kernel
theorem dJ2_getChar_3b067_27 : decode cJ2_getChar_3b067 27 = .ok (.athrow, 1) := by decide +kernel
theorem dJ2_getChar_3b067_28 : decode cJ2_getChar_3b067 28 = .ok (.iload_n 1, 1) := by decide +kernel
theorem dJ2_getChar_3b067_29 : decode cJ2_getChar_3b067 29 = .ok (.iconst 1, 1) := by decide +kernel
theorem dJ2_getChar_3b067_30 : decode cJ2_getChar_3b067 30 = .ok (.ishl, 1) := by decide +kernel
theorem dJ2_getChar_3b067_31 : decode cJ2_getChar_3b067 31 = .ok (.istore_n 1, 1) := by decide +kernel
theorem dJ2_getChar_3b067_32 : decode cJ2_getChar_3b067 32 = .ok (.aload_n 0, 1) := by decide +kernel
theorem dJ2_getChar_3b067_33 : decode cJ2_getChar_3b067 33 = .ok (.iload_n 1, 1) := by decide +kernel
theorem dJ2_getChar_3b067_34 : decode cJ2_getChar_3b067 34 = .ok (.iinc 1 1, 3) := by decide +kernel
theorem dJ2_getChar_3b067_37 : decode cJ2_getChar_3b067 37 = .ok (.baload, 1) := by decide +kernel
theorem dJ2_getChar_3b067_38 : decode cJ2_getChar_3b067 38 = .ok (.sipush 255, 3) := by decide +kernel
theorem dJ2_getChar_3b067_41 : decode cJ2_getChar_3b067 41 = .ok (.iand, 1) := by decide +kernel
theorem dJ2_getChar_3b067_42 : decode cJ2_getChar_3b067 42 = .ok (.getstatic 59, 3) := by decide +kernel
theorem dJ2_getChar_3b067_45 : decode cJ2_getChar_3b067 45 = .ok (.ishl, 1) := by decide +kernel
theorem dJ2_getChar_3b067_46 : decode cJ2_getChar_3b067 46 = .ok (.aload_n 0, 1) := by decide +kernel
theorem dJ2_getChar_3b067_47 : decode cJ2_getChar_3b067 47 = .ok (.iload_n 1, 1) := by decide +kernel
theorem dJ2_getChar_3b067_48 : decode cJ2_getChar_3b067 48 = .ok (.baload, 1) := by decide +kernel
theorem dJ2_getChar_3b067_49 : decode cJ2_getChar_3b067 49 = .ok (.sipush 255, 3) := by decide +kernel
theorem dJ2_getChar_3b067_52 : decode cJ2_getChar_3b067 52 = .ok (.iand, 1) := by decide +kernel
theorem dJ2_getChar_3b067_53 : decode cJ2_getChar_3b067 53 = .ok (.getstatic 63, 3) := by decide +kernel
theorem dJ2_getChar_3b067_56 : decode cJ2_getChar_3b067 56 = .ok (.ishl, 1) := by decide +kernel
theorem dJ2_getChar_3b067_57 : decode cJ2_getChar_3b067 57 = .ok (.ior, 1) := by decide +kernel
theorem dJ2_getChar_3b067_58 : decode cJ2_getChar_3b067 58 = .ok (.i2c, 1) := by decide +kernel
theorem dJ2_getChar_3b067_59 : decode cJ2_getChar_3b067 59 = .ok (.ireturn, 1) := by decide +kernel
theorem dJ2_length_9d52b_0 : decode cJ2_length_9d52b 0 = .ok (.aload_n 0, 1) := by decide +kernel
theorem dJ2_length_9d52b_1 : decode cJ2_length_9d52b 1 = .ok (.arraylength, 1) := by decide +kernel
theorem dJ2_length_9d52b_2 : decode cJ2_length_9d52b 2 = .ok (.iconst 1, 1) := by decide +kernel
theorem dJ2_length_9d52b_3 : decode cJ2_length_9d52b 3 = .ok (.ishr, 1) := by decide +kernel
theorem dJ2_length_9d52b_4 : decode cJ2_length_9d52b 4 = .ok (.ireturn, 1) := by decide +kernel
set_option maxRecDepth 20000 in
theorem ggJ2_charAt_3b067_J2_checkIndex_2214a : GoodIn wsJ2_charAt_3b067 wsJ2_checkIndex_2214a := goodIn_r _ [4, 5, 6, 3, 7, 8, 9, 10, 11, 12, 13, 14, 15, 16] (by decide +kernel) (by decide +kernel)
set_option maxRecDepth 20000 in
theorem gJ2_charAt_3b067_J2_checkIndex_2214a : GoodIn wsJ2_charAt_3b067 (va_wsS RJ2 67 yJ2_checkIndex_2214a wsJ2_checkIndex_2214a) := goodIn_app (goodIn_of _ (by decide +kernel)) ggJ2_charAt_3b067_J2_checkIndex_2214a
set_option maxRecDepth 20000 in
theorem ggJ2_charAt_3b067_J2_getChar_3b067 : GoodIn wsJ2_charAt_3b067 wsJ2_getChar_3b067 := goodIn_r _ [19, 20, 21, 22, 5, 6, 3, 7] (by decide +kernel) (by decide +kernel)
set_option maxRecDepth 20000 in
theorem gJ2_charAt_3b067_J2_getChar_3b067 : GoodIn wsJ2_charAt_3b067 (va_wsS RJ2 71 yJ2_getChar_3b067 wsJ2_getChar_3b067) := goodIn_app (goodIn_of _ (by decide +kernel)) ggJ2_charAt_3b067_J2_getChar_3b067
theorem dJ2_charAt_3b067_0 : decode cJ2_charAt_3b067 0 = .ok (.iload_n 1, 1) := by decide +kernel
theorem dJ2_charAt_3b067_1 : decode cJ2_charAt_3b067 1 = .ok (.aload_n 0, 1) := by decide +kernel
theorem dJ2_charAt_3b067_2 : decode cJ2_charAt_3b067 2 = .ok (.invokestatic 67, 3) := by decide +kernel
theorem dJ2_charAt_3b067_5 : decode cJ2_charAt_3b067 5 = .ok (.aload_n 0, 1) := by decide +kernel
theorem dJ2_charAt_3b067_6 : decode cJ2_charAt_3b067 6 = .ok (.iload_n 1, 1) := by decide +kernel
theorem dJ2_charAt_3b067_7 : decode cJ2_charAt_3b067 7 = .ok (.invokestatic 71, 3) := by decide +kernel
theorem dJ2_charAt_3b067_10 : decode cJ2_charAt_3b067 10 = .ok (.ireturn, 1) := by decide +kernel
set_option maxRecDepth 20000 in
theorem ggJ2_checkIndex_2214a_J2_length_9d52b : GoodIn wsJ2_checkIndex_2214a wsJ2_length_9d52b := goodIn_r _ [4] (by decide +kernel) (by decide +kernel)
set_option maxRecDepth 20000 in
theorem gJ2_checkIndex_2214a_J2_length_9d52b : GoodIn wsJ2_checkIndex_2214a (va_wsS RJ2 48 yJ2_length_9d52b wsJ2_length_9d52b) := goodIn_app (goodIn_of _ (by decide +kernel)) ggJ2_checkIndex_2214a_J2_length_9d52b
set_option maxRecDepth 20000 in
theorem ggJ2_checkIndex_2214a_J0_checkIndex_df160 : GoodIn wsJ2_checkIndex_2214a wsJ0_checkIndex_df160 := goodIn_r _ [8, 9, 10, 11, 12, 13] (by decide +kernel) (by decide +kernel)
set_option maxRecDepth 20000 in
theorem gJ2_checkIndex_2214a_J0_checkIndex_df160 : GoodIn wsJ2_checkIndex_2214a (va_wsS RJ2 414 yJ0_checkIndex_df160 wsJ0_checkIndex_df160) := goodIn_app (goodIn_of _ (by decide +kernel)) ggJ2_checkIndex_2214a_J0_checkIndex_df160
theorem dJ2_checkIndex_2214a_0 : decode cJ2_checkIndex_2214a 0 = .ok (.iload_n 0, 1) := by decide +kernel
theorem dJ2_checkIndex_2214a_1 : decode cJ2_checkIndex_2214a 1 = .ok (.aload_n 1, 1) := by decide +kernel
theorem dJ2_checkIndex_2214a_2 : decode cJ2_checkIndex_2214a 2 = .ok (.invokestatic 48, 3) := by decide +kernel
theorem dJ2_checkIndex_2214a_5 : decode cJ2_checkIndex_2214a 5 = .ok (.invokestatic 414, 3) := by decide +kernel
theorem dJ2_checkIndex_2214a_8 : decode cJ2_checkIndex_2214a 8 = .ok (.return_, 1) := by decide +kernel
theorem dJ3_checkIndex_8e157_0 : decode cJ3_checkIndex_8e157 0 = .ok (.iload_n 0, 1) := by decide +kernel
theorem dJ3_checkIndex_8e157_1 : decode cJ3_checkIndex_8e157 1 = .ok (.ifCond .lt 8, 3) := by decide +kernel
theorem dJ3_checkIndex_8e157_4 : decode cJ3_checkIndex_8e157 4 = .ok (.iload_n 0, 1) := by decide +kernel
theorem dJ3_checkIndex_8e157_5 : decode cJ3_checkIndex_8e157 5 = .ok (.iload_n 1, 1) := by decide +kernel
theorem dJ3_checkIndex_8e157_6 : decode cJ3_checkIndex_8e157 6 = .ok (.if_icmp .lt 10, 3) := by decide +kernel
theorem dJ3_checkIndex_8e157_9 : decode cJ3_checkIndex_8e157 9 = .ok (.aload_n 2, 1) := by decide +kernel
theorem dJ3_checkIndex_8e157_10 : decode cJ3_checkIndex_8e157 10 = .ok (.iload_n 0, 1) := by decide +kernel
theorem dJ3_checkIndex_8e157_11 : decode cJ3_checkIndex_8e157 11 = .ok (.iload_n 1, 1) := by decide +kernel
theorem dJ3_checkIndex_8e157_12 : decode cJ3_checkIndex_8e157 12 = .ok (.invokestatic 95, 3) := by decide +kernel
theorem dJ3_checkIndex_8e157_15 : decode cJ3_checkIndex_8e157 15 = .ok (.athrow, 1) := by decide +kernel
theorem dJ3_checkIndex_8e157_16 : decode cJ3_checkIndex_8e157 16 = .ok (.iload_n 0, 1) := by decide +kernel
theorem dJ3_checkIndex_8e157_17 : decode cJ3_checkIndex_8e157 17 = .ok (.ireturn, 1) := by decide +kernel
