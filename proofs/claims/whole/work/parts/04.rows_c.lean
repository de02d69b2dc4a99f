theorem dX6_init_0 : decode cX6_init 0 = .ok (.aload_n 0, 1) := by decide +kernel
theorem dX6_init_1 : decode cX6_init 1 = .ok (.invokespecial 1, 3) := by decide +kernel
theorem dX6_init_4 : decode cX6_init 4 = .ok (.aload_n 0, 1) := by decide +kernel
theorem dX6_init_5 : decode cX6_init 5 = .ok (.bipush 10, 2) := by decide +kernel
theorem dX6_init_7 : decode cX6_init 7 = .ok (.newarray .int, 2) := by decide +kernel
theorem dX6_init_9 : decode cX6_init 9 = .ok (.putfield 7, 3) := by decide +kernel
theorem dX6_init_12 : decode cX6_init 12 = .ok (.aload_n 0, 1) := by decide +kernel
theorem dX6_init_13 : decode cX6_init 13 = .ok (.bipush 10, 2) := by decide +kernel
theorem dX6_init_15 : decode cX6_init 15 = .ok (.newarray .int, 2) := by decide +kernel
theorem dX6_init_17 : decode cX6_init 17 = .ok (.putfield 13, 3) := by decide +kernel
theorem dX6_init_20 : decode cX6_init 20 = .ok (.aload_n 0, 1) := by decide +kernel
theorem dX6_init_21 : decode cX6_init 21 = .ok (.bipush 10, 2) := by decide +kernel
theorem dX6_init_23 : decode cX6_init 23 = .ok (.newarray .int, 2) := by decide +kernel
theorem dX6_init_25 : decode cX6_init 25 = .ok (.putfield 16, 3) := by decide +kernel
theorem dX6_init_28 : decode cX6_init 28 = .ok (.aload_n 0, 1) := by decide +kernel
theorem dX6_init_29 : decode cX6_init 29 = .ok (.bipush 120, 2) := by decide +kernel
theorem dX6_init_31 : decode cX6_init 31 = .ok (.newarray .int, 2) := by decide +kernel
theorem dX6_init_33 : decode cX6_init 33 = .ok (.putfield 19, 3) := by decide +kernel
theorem dX6_init_36 : decode cX6_init 36 = .ok (.aload_n 0, 1) := by decide +kernel
theorem dX6_init_37 : decode cX6_init 37 = .ok (.sipush 3024, 3) := by decide +kernel
theorem dX6_init_40 : decode cX6_init 40 = .ok (.newarray .long, 2) := by decide +kernel
theorem dX6_init_42 : decode cX6_init 42 = .ok (.putfield 22, 3) := by decide +kernel
theorem dX6_init_45 : decode cX6_init 45 = .ok (.aload_n 0, 1) := by decide +kernel
theorem dX6_init_46 : decode cX6_init 46 = .ok (.sipush 3024, 3) := by decide +kernel
theorem dX6_init_49 : decode cX6_init 49 = .ok (.newarray .long, 2) := by decide +kernel
theorem dX6_init_51 : decode cX6_init 51 = .ok (.putfield 26, 3) := by decide +kernel
theorem dX6_init_54 : decode cX6_init 54 = .ok (.aload_n 0, 1) := by decide +kernel
theorem dX6_init_55 : decode cX6_init 55 = .ok (.bipush 64, 2) := by decide +kernel
theorem dX6_init_57 : decode cX6_init 57 = .ok (.newarray .int, 2) := by decide +kernel
theorem dX6_init_59 : decode cX6_init 59 = .ok (.putfield 29, 3) := by decide +kernel
theorem dX6_init_62 : decode cX6_init 62 = .ok (.aload_n 0, 1) := by decide +kernel
theorem dX6_init_63 : decode cX6_init 63 = .ok (.sipush 3024, 3) := by decide +kernel
theorem dX6_init_66 : decode cX6_init 66 = .ok (.newarray .long, 2) := by decide +kernel
theorem dX6_init_68 : decode cX6_init 68 = .ok (.putfield 32, 3) := by decide +kernel
theorem dX6_init_71 : decode cX6_init 71 = .ok (.aload_n 0, 1) := by decide +kernel
theorem dX6_init_72 : decode cX6_init 72 = .ok (.sipush 3024, 3) := by decide +kernel
theorem dX6_init_75 : decode cX6_init 75 = .ok (.newarray .long, 2) := by decide +kernel
theorem dX6_init_77 : decode cX6_init 77 = .ok (.putfield 35, 3) := by decide +kernel
theorem dX6_init_80 : decode cX6_init 80 = .ok (.aload_n 0, 1) := by decide +kernel
theorem dX6_init_81 : decode cX6_init 81 = .ok (.ldc 38, 2) := by decide +kernel
theorem dX6_init_83 : decode cX6_init 83 = .ok (.newarray .long, 2) := by decide +kernel
theorem dX6_init_85 : decode cX6_init 85 = .ok (.putfield 39, 3) := by decide +kernel
theorem dX6_init_88 : decode cX6_init 88 = .ok (.aload_n 0, 1) := by decide +kernel
theorem dX6_init_89 : decode cX6_init 89 = .ok (.sipush 3024, 3) := by decide +kernel
theorem dX6_init_92 : decode cX6_init 92 = .ok (.newarray .int, 2) := by decide +kernel
theorem dX6_init_94 : decode cX6_init 94 = .ok (.putfield 42, 3) := by decide +kernel
theorem dX6_init_97 : decode cX6_init 97 = .ok (.aload_n 0, 1) := by decide +kernel
theorem dX6_init_98 : decode cX6_init 98 = .ok (.sipush 3024, 3) := by decide +kernel
theorem dX6_init_101 : decode cX6_init 101 = .ok (.newarray .long, 2) := by decide +kernel
theorem dX6_init_103 : decode cX6_init 103 = .ok (.putfield 45, 3) := by decide +kernel
theorem dX6_init_106 : decode cX6_init 106 = .ok (.aload_n 0, 1) := by decide +kernel
theorem dX6_init_107 : decode cX6_init 107 = .ok (.bipush 64, 2) := by decide +kernel
theorem dX6_init_109 : decode cX6_init 109 = .ok (.newarray .int, 2) := by decide +kernel
theorem dX6_init_111 : decode cX6_init 111 = .ok (.putfield 48, 3) := by decide +kernel
theorem dX6_init_114 : decode cX6_init 114 = .ok (.return_, 1) := by decide +kernel
theorem dX6_within_0 : decode cX6_within 0 = .ok (.iload_n 0, 1) := by decide +kernel
theorem dX6_within_1 : decode cX6_within 1 = .ok (.iload_n 1, 1) := by decide +kernel
theorem dX6_within_2 : decode cX6_within 2 = .ok (.if_icmp .lt 12, 3) := by decide +kernel
theorem dX6_within_5 : decode cX6_within 5 = .ok (.iload_n 0, 1) := by decide +kernel
theorem dX6_within_6 : decode cX6_within 6 = .ok (.iload_n 2, 1) := by decide +kernel
theorem dX6_within_7 : decode cX6_within 7 = .ok (.if_icmp .gt 7, 3) := by decide +kernel
theorem dX6_within_10 : decode cX6_within 10 = .ok (.iconst 1, 1) := by decide +kernel
theorem dX6_within_11 : decode cX6_within 11 = .ok (.goto 4, 3) := by decide +kernel
theorem dX6_within_14 : decode cX6_within 14 = .ok (.iconst 0, 1) := by decide +kernel
theorem dX6_within_15 : decode cX6_within 15 = .ok (.ireturn, 1) := by decide +kernel
set_option maxRecDepth 20000 in
theorem ggX6_lays_X6_within : GoodIn wsX6_lays wsX6_within := goodIn_r _ [4] (by decide +kernel) (by decide +kernel)
set_option maxRecDepth 20000 in
theorem gX6_lays_X6_within : GoodIn wsX6_lays (va_wsS RX6 51 yX6_within wsX6_within) := goodIn_app (goodIn_of _ (by decide +kernel)) ggX6_lays_X6_within
theorem dX6_lays_0 : decode cX6_lays 0 = .ok (.iconst 0, 1) := by decide +kernel
theorem dX6_lays_1 : decode cX6_lays 1 = .ok (.istore_n 2, 1) := by decide +kernel
theorem dX6_lays_2 : decode cX6_lays 2 = .ok (.iload_n 0, 1) := by decide +kernel
theorem dX6_lays_3 : decode cX6_lays 3 = .ok (.istore_n 3, 1) := by decide +kernel
theorem dX6_lays_4 : decode cX6_lays 4 = .ok (.iload_n 3, 1) := by decide +kernel
theorem dX6_lays_5 : decode cX6_lays 5 = .ok (.ifCond .le 14, 3) := by decide +kernel
theorem dX6_lays_8 : decode cX6_lays 8 = .ok (.iinc 2 1, 3) := by decide +kernel
theorem dX6_lays_11 : decode cX6_lays 11 = .ok (.iload_n 3, 1) := by decide +kernel
theorem dX6_lays_12 : decode cX6_lays 12 = .ok (.bipush 10, 2) := by decide +kernel
theorem dX6_lays_14 : decode cX6_lays 14 = .ok (.idiv, 1) := by decide +kernel
theorem dX6_lays_15 : decode cX6_lays 15 = .ok (.istore_n 3, 1) := by decide +kernel
theorem dX6_lays_16 : decode cX6_lays 16 = .ok (.goto (-12), 3) := by decide +kernel
theorem dX6_lays_19 : decode cX6_lays 19 = .ok (.iload_n 2, 1) := by decide +kernel
theorem dX6_lays_20 : decode cX6_lays 20 = .ok (.iconst 1, 1) := by decide +kernel
theorem dX6_lays_21 : decode cX6_lays 21 = .ok (.bipush 9, 2) := by decide +kernel
theorem dX6_lays_23 : decode cX6_lays 23 = .ok (.invokestatic 51, 3) := by decide +kernel
theorem dX6_lays_26 : decode cX6_lays 26 = .ok (.istore_n 3, 1) := by decide +kernel
theorem dX6_lays_27 : decode cX6_lays 27 = .ok (.iconst 0, 1) := by decide +kernel
theorem dX6_lays_28 : decode cX6_lays 28 = .ok (.istore 4, 2) := by decide +kernel
theorem dX6_lays_30 : decode cX6_lays 30 = .ok (.iload_n 0, 1) := by decide +kernel
theorem dX6_lays_31 : decode cX6_lays 31 = .ok (.istore 5, 2) := by decide +kernel
theorem dX6_lays_33 : decode cX6_lays 33 = .ok (.iload_n 3, 1) := by decide +kernel
theorem dX6_lays_34 : decode cX6_lays 34 = .ok (.ifCond .eq 7, 3) := by decide +kernel
theorem dX6_lays_37 : decode cX6_lays 37 = .ok (.iload_n 2, 1) := by decide +kernel
theorem dX6_lays_38 : decode cX6_lays 38 = .ok (.goto 4, 3) := by decide +kernel
theorem dX6_lays_41 : decode cX6_lays 41 = .ok (.iconst 0, 1) := by decide +kernel
theorem dX6_lays_42 : decode cX6_lays 42 = .ok (.istore 6, 2) := by decide +kernel
theorem dX6_lays_44 : decode cX6_lays 44 = .ok (.iload 6, 2) := by decide +kernel
theorem dX6_lays_46 : decode cX6_lays 46 = .ok (.ifCond .le 70, 3) := by decide +kernel
theorem dX6_lays_49 : decode cX6_lays 49 = .ok (.aload_n 1, 1) := by decide +kernel
theorem dX6_lays_50 : decode cX6_lays 50 = .ok (.iload 6, 2) := by decide +kernel
theorem dX6_lays_52 : decode cX6_lays 52 = .ok (.iload 5, 2) := by decide +kernel
theorem dX6_lays_54 : decode cX6_lays 54 = .ok (.bipush 10, 2) := by decide +kernel
theorem dX6_lays_56 : decode cX6_lays 56 = .ok (.irem, 1) := by decide +kernel
theorem dX6_lays_57 : decode cX6_lays 57 = .ok (.iastore, 1) := by decide +kernel
theorem dX6_lays_58 : decode cX6_lays 58 = .ok (.iload 5, 2) := by decide +kernel
theorem dX6_lays_60 : decode cX6_lays 60 = .ok (.bipush 10, 2) := by decide +kernel
theorem dX6_lays_62 : decode cX6_lays 62 = .ok (.idiv, 1) := by decide +kernel
theorem dX6_lays_63 : decode cX6_lays 63 = .ok (.istore 5, 2) := by decide +kernel
theorem dX6_lays_65 : decode cX6_lays 65 = .ok (.iload_n 3, 1) := by decide +kernel
theorem dX6_lays_66 : decode cX6_lays 66 = .ok (.ifCond .eq 31, 3) := by decide +kernel
theorem dX6_lays_69 : decode cX6_lays 69 = .ok (.aload_n 1, 1) := by decide +kernel
theorem dX6_lays_70 : decode cX6_lays 70 = .ok (.iload 6, 2) := by decide +kernel
theorem dX6_lays_72 : decode cX6_lays 72 = .ok (.iaload, 1) := by decide +kernel
theorem dX6_lays_73 : decode cX6_lays 73 = .ok (.iconst 1, 1) := by decide +kernel
theorem dX6_lays_74 : decode cX6_lays 74 = .ok (.iload_n 2, 1) := by decide +kernel
theorem dX6_lays_75 : decode cX6_lays 75 = .ok (.invokestatic 51, 3) := by decide +kernel
theorem dX6_lays_78 : decode cX6_lays 78 = .ok (.ifCond .eq 19, 3) := by decide +kernel
theorem dX6_lays_81 : decode cX6_lays 81 = .ok (.iload 4, 2) := by decide +kernel
theorem dX6_lays_83 : decode cX6_lays 83 = .ok (.aload_n 1, 1) := by decide +kernel
theorem dX6_lays_84 : decode cX6_lays 84 = .ok (.iload 6, 2) := by decide +kernel
theorem dX6_lays_86 : decode cX6_lays 86 = .ok (.iaload, 1) := by decide +kernel
theorem dX6_lays_87 : decode cX6_lays 87 = .ok (.ishr, 1) := by decide +kernel
theorem dX6_lays_88 : decode cX6_lays 88 = .ok (.iconst 1, 1) := by decide +kernel
theorem dX6_lays_89 : decode cX6_lays 89 = .ok (.iand, 1) := by decide +kernel
theorem dX6_lays_90 : decode cX6_lays 90 = .ok (.ifCond .ne 7, 3) := by decide +kernel
theorem dX6_lays_93 : decode cX6_lays 93 = .ok (.iconst 1, 1) := by decide +kernel
theorem dX6_lays_94 : decode cX6_lays 94 = .ok (.goto 4, 3) := by decide +kernel
theorem dX6_lays_97 : decode cX6_lays 97 = .ok (.iconst 0, 1) := by decide +kernel
theorem dX6_lays_98 : decode cX6_lays 98 = .ok (.istore_n 3, 1) := by decide +kernel
theorem dX6_lays_99 : decode cX6_lays 99 = .ok (.iload 4, 2) := by decide +kernel
theorem dX6_lays_101 : decode cX6_lays 101 = .ok (.iconst 1, 1) := by decide +kernel
theorem dX6_lays_102 : decode cX6_lays 102 = .ok (.aload_n 1, 1) := by decide +kernel
theorem dX6_lays_103 : decode cX6_lays 103 = .ok (.iload 6, 2) := by decide +kernel
theorem dX6_lays_105 : decode cX6_lays 105 = .ok (.iaload, 1) := by decide +kernel
theorem dX6_lays_106 : decode cX6_lays 106 = .ok (.ishl, 1) := by decide +kernel
theorem dX6_lays_107 : decode cX6_lays 107 = .ok (.ior, 1) := by decide +kernel
theorem dX6_lays_108 : decode cX6_lays 108 = .ok (.istore 4, 2) := by decide +kernel
theorem dX6_lays_110 : decode cX6_lays 110 = .ok (.iinc 6 (-1), 3) := by decide +kernel
theorem dX6_lays_113 : decode cX6_lays 113 = .ok (.goto (-69), 3) := by decide +kernel
theorem dX6_lays_116 : decode cX6_lays 116 = .ok (.iload_n 2, 1) := by decide +kernel
theorem dX6_lays_117 : decode cX6_lays 117 = .ok (.iconst 1, 1) := by decide +kernel
theorem dX6_lays_118 : decode cX6_lays 118 = .ok (.iadd, 1) := by decide +kernel
theorem dX6_lays_119 : decode cX6_lays 119 = .ok (.istore 6, 2) := by decide +kernel
theorem dX6_lays_121 : decode cX6_lays 121 = .ok (.iload 6, 2) := by decide +kernel
theorem dX6_lays_123 : decode cX6_lays 123 = .ok (.bipush 9, 2) := by decide +kernel
theorem dX6_lays_125 : decode cX6_lays 125 = .ok (.if_icmp .gt 15, 3) := by decide +kernel
theorem dX6_lays_128 : decode cX6_lays 128 = .ok (.aload_n 1, 1) := by decide +kernel
theorem dX6_lays_129 : decode cX6_lays 129 = .ok (.iload 6, 2) := by decide +kernel
theorem dX6_lays_131 : decode cX6_lays 131 = .ok (.iload 6, 2) := by decide +kernel
theorem dX6_lays_133 : decode cX6_lays 133 = .ok (.iastore, 1) := by decide +kernel
theorem dX6_lays_134 : decode cX6_lays 134 = .ok (.iinc 6 1, 3) := by decide +kernel
theorem dX6_lays_137 : decode cX6_lays 137 = .ok (.goto (-16), 3) := by decide +kernel
theorem dX6_lays_140 : decode cX6_lays 140 = .ok (.iload_n 3, 1) := by decide +kernel
theorem dX6_lays_141 : decode cX6_lays 141 = .ok (.ireturn, 1) := by decide +kernel
theorem dX6_plainOf_0 : decode cX6_plainOf 0 = .ok (.bipush 9, 2) := by decide +kernel
theorem dX6_plainOf_2 : decode cX6_plainOf 2 = .ok (.istore_n 1, 1) := by decide +kernel
theorem dX6_plainOf_3 : decode cX6_plainOf 3 = .ok (.iload_n 1, 1) := by decide +kernel
theorem dX6_plainOf_4 : decode cX6_plainOf 4 = .ok (.iconst 1, 1) := by decide +kernel
theorem dX6_plainOf_5 : decode cX6_plainOf 5 = .ok (.if_icmp .le 16, 3) := by decide +kernel
theorem dX6_plainOf_8 : decode cX6_plainOf 8 = .ok (.aload_n 0, 1) := by decide +kernel
theorem dX6_plainOf_9 : decode cX6_plainOf 9 = .ok (.iload_n 1, 1) := by decide +kernel
theorem dX6_plainOf_10 : decode cX6_plainOf 10 = .ok (.iaload, 1) := by decide +kernel
theorem dX6_plainOf_11 : decode cX6_plainOf 11 = .ok (.iload_n 1, 1) := by decide +kernel
theorem dX6_plainOf_12 : decode cX6_plainOf 12 = .ok (.if_icmp .ne 9, 3) := by decide +kernel
theorem dX6_plainOf_15 : decode cX6_plainOf 15 = .ok (.iinc 1 (-1), 3) := by decide +kernel
theorem dX6_plainOf_18 : decode cX6_plainOf 18 = .ok (.goto (-15), 3) := by decide +kernel
theorem dX6_plainOf_21 : decode cX6_plainOf 21 = .ok (.iconst 0, 1) := by decide +kernel
theorem dX6_plainOf_22 : decode cX6_plainOf 22 = .ok (.istore_n 2, 1) := by decide +kernel
theorem dX6_plainOf_23 : decode cX6_plainOf 23 = .ok (.iconst 1, 1) := by decide +kernel
theorem dX6_plainOf_24 : decode cX6_plainOf 24 = .ok (.istore_n 3, 1) := by decide +kernel
theorem dX6_plainOf_25 : decode cX6_plainOf 25 = .ok (.iload_n 3, 1) := by decide +kernel
theorem dX6_plainOf_26 : decode cX6_plainOf 26 = .ok (.iload_n 1, 1) := by decide +kernel
theorem dX6_plainOf_27 : decode cX6_plainOf 27 = .ok (.if_icmp .gt 18, 3) := by decide +kernel
theorem dX6_plainOf_30 : decode cX6_plainOf 30 = .ok (.bipush 10, 2) := by decide +kernel
theorem dX6_plainOf_32 : decode cX6_plainOf 32 = .ok (.iload_n 2, 1) := by decide +kernel
theorem dX6_plainOf_33 : decode cX6_plainOf 33 = .ok (.imul, 1) := by decide +kernel
theorem dX6_plainOf_34 : decode cX6_plainOf 34 = .ok (.aload_n 0, 1) := by decide +kernel
theorem dX6_plainOf_35 : decode cX6_plainOf 35 = .ok (.iload_n 3, 1) := by decide +kernel
theorem dX6_plainOf_36 : decode cX6_plainOf 36 = .ok (.iaload, 1) := by decide +kernel
theorem dX6_plainOf_37 : decode cX6_plainOf 37 = .ok (.iadd, 1) := by decide +kernel
theorem dX6_plainOf_38 : decode cX6_plainOf 38 = .ok (.istore_n 2, 1) := by decide +kernel
theorem dX6_plainOf_39 : decode cX6_plainOf 39 = .ok (.iinc 3 1, 3) := by decide +kernel
theorem dX6_plainOf_42 : decode cX6_plainOf 42 = .ok (.goto (-17), 3) := by decide +kernel
theorem dX6_plainOf_45 : decode cX6_plainOf 45 = .ok (.iload_n 2, 1) := by decide +kernel
theorem dX6_plainOf_46 : decode cX6_plainOf 46 = .ok (.ireturn, 1) := by decide +kernel
theorem dX6_codeAt_0 : decode cX6_codeAt 0 = .ok (.iconst 0, 1) := by decide +kernel
theorem dX6_codeAt_1 : decode cX6_codeAt 1 = .ok (.istore_n 2, 1) := by decide +kernel
theorem dX6_codeAt_2 : decode cX6_codeAt 2 = .ok (.iload_n 1, 1) := by decide +kernel
theorem dX6_codeAt_3 : decode cX6_codeAt 3 = .ok (.iconst 1, 1) := by decide +kernel
theorem dX6_codeAt_4 : decode cX6_codeAt 4 = .ok (.iadd, 1) := by decide +kernel
theorem dX6_codeAt_5 : decode cX6_codeAt 5 = .ok (.istore_n 3, 1) := by decide +kernel
theorem dX6_codeAt_6 : decode cX6_codeAt 6 = .ok (.iload_n 3, 1) := by decide +kernel
theorem dX6_codeAt_7 : decode cX6_codeAt 7 = .ok (.bipush 9, 2) := by decide +kernel
theorem dX6_codeAt_9 : decode cX6_codeAt 9 = .ok (.if_icmp .gt 26, 3) := by decide +kernel
theorem dX6_codeAt_12 : decode cX6_codeAt 12 = .ok (.iload_n 2, 1) := by decide +kernel
theorem dX6_codeAt_13 : decode cX6_codeAt 13 = .ok (.aload_n 0, 1) := by decide +kernel
theorem dX6_codeAt_14 : decode cX6_codeAt 14 = .ok (.iload_n 3, 1) := by decide +kernel
theorem dX6_codeAt_15 : decode cX6_codeAt 15 = .ok (.iaload, 1) := by decide +kernel
theorem dX6_codeAt_16 : decode cX6_codeAt 16 = .ok (.aload_n 0, 1) := by decide +kernel
theorem dX6_codeAt_17 : decode cX6_codeAt 17 = .ok (.iload_n 1, 1) := by decide +kernel
theorem dX6_codeAt_18 : decode cX6_codeAt 18 = .ok (.iaload, 1) := by decide +kernel
theorem dX6_codeAt_19 : decode cX6_codeAt 19 = .ok (.if_icmp .ge 7, 3) := by decide +kernel
theorem dX6_codeAt_22 : decode cX6_codeAt 22 = .ok (.iconst 1, 1) := by decide +kernel
theorem dX6_codeAt_23 : decode cX6_codeAt 23 = .ok (.goto 4, 3) := by decide +kernel
theorem dX6_codeAt_26 : decode cX6_codeAt 26 = .ok (.iconst 0, 1) := by decide +kernel
theorem dX6_codeAt_27 : decode cX6_codeAt 27 = .ok (.iadd, 1) := by decide +kernel
theorem dX6_codeAt_28 : decode cX6_codeAt 28 = .ok (.istore_n 2, 1) := by decide +kernel
theorem dX6_codeAt_29 : decode cX6_codeAt 29 = .ok (.iinc 3 1, 3) := by decide +kernel
theorem dX6_codeAt_32 : decode cX6_codeAt 32 = .ok (.goto (-26), 3) := by decide +kernel
theorem dX6_codeAt_35 : decode cX6_codeAt 35 = .ok (.iload_n 2, 1) := by decide +kernel
theorem dX6_codeAt_36 : decode cX6_codeAt 36 = .ok (.ireturn, 1) := by decide +kernel
set_option maxRecDepth 20000 in
theorem ggX6_lengthOf_X6_codeAt : GoodIn wsX6_lengthOf wsX6_codeAt := goodIn_r _ [4] (by decide +kernel) (by decide +kernel)
set_option maxRecDepth 20000 in
theorem gX6_lengthOf_X6_codeAt : GoodIn wsX6_lengthOf (va_wsS RX6 55 yX6_codeAt wsX6_codeAt) := goodIn_app (goodIn_of _ (by decide +kernel)) ggX6_lengthOf_X6_codeAt
theorem dX6_lengthOf_0 : decode cX6_lengthOf 0 = .ok (.iconst 0, 1) := by decide +kernel
theorem dX6_lengthOf_1 : decode cX6_lengthOf 1 = .ok (.istore_n 1, 1) := by decide +kernel
theorem dX6_lengthOf_2 : decode cX6_lengthOf 2 = .ok (.iconst 1, 1) := by decide +kernel
theorem dX6_lengthOf_3 : decode cX6_lengthOf 3 = .ok (.istore_n 2, 1) := by decide +kernel
theorem dX6_lengthOf_4 : decode cX6_lengthOf 4 = .ok (.iload_n 2, 1) := by decide +kernel
theorem dX6_lengthOf_5 : decode cX6_lengthOf 5 = .ok (.bipush 9, 2) := by decide +kernel
theorem dX6_lengthOf_7 : decode cX6_lengthOf 7 = .ok (.if_icmp .gt 17, 3) := by decide +kernel
theorem dX6_lengthOf_10 : decode cX6_lengthOf 10 = .ok (.iload_n 1, 1) := by decide +kernel
theorem dX6_lengthOf_11 : decode cX6_lengthOf 11 = .ok (.aload_n 0, 1) := by decide +kernel
theorem dX6_lengthOf_12 : decode cX6_lengthOf 12 = .ok (.iload_n 2, 1) := by decide +kernel
theorem dX6_lengthOf_13 : decode cX6_lengthOf 13 = .ok (.invokestatic 55, 3) := by decide +kernel
theorem dX6_lengthOf_16 : decode cX6_lengthOf 16 = .ok (.iadd, 1) := by decide +kernel
theorem dX6_lengthOf_17 : decode cX6_lengthOf 17 = .ok (.istore_n 1, 1) := by decide +kernel
theorem dX6_lengthOf_18 : decode cX6_lengthOf 18 = .ok (.iinc 2 1, 3) := by decide +kernel
theorem dX6_lengthOf_21 : decode cX6_lengthOf 21 = .ok (.goto (-17), 3) := by decide +kernel
theorem dX6_lengthOf_24 : decode cX6_lengthOf 24 = .ok (.iload_n 1, 1) := by decide +kernel
theorem dX6_lengthOf_25 : decode cX6_lengthOf 25 = .ok (.ireturn, 1) := by decide +kernel
theorem dX6_exchange_0 : decode cX6_exchange 0 = .ok (.aload_n 0, 1) := by decide +kernel
theorem dX6_exchange_1 : decode cX6_exchange 1 = .ok (.iload_n 1, 1) := by decide +kernel
theorem dX6_exchange_2 : decode cX6_exchange 2 = .ok (.iaload, 1) := by decide +kernel
theorem dX6_exchange_3 : decode cX6_exchange 3 = .ok (.istore_n 3, 1) := by decide +kernel
theorem dX6_exchange_4 : decode cX6_exchange 4 = .ok (.aload_n 0, 1) := by decide +kernel
theorem dX6_exchange_5 : decode cX6_exchange 5 = .ok (.iload_n 1, 1) := by decide +kernel
theorem dX6_exchange_6 : decode cX6_exchange 6 = .ok (.aload_n 0, 1) := by decide +kernel
theorem dX6_exchange_7 : decode cX6_exchange 7 = .ok (.iload_n 2, 1) := by decide +kernel
theorem dX6_exchange_8 : decode cX6_exchange 8 = .ok (.iaload, 1) := by decide +kernel
theorem dX6_exchange_9 : decode cX6_exchange 9 = .ok (.iastore, 1) := by decide +kernel
theorem dX6_exchange_10 : decode cX6_exchange 10 = .ok (.aload_n 0, 1) := by decide +kernel
theorem dX6_exchange_11 : decode cX6_exchange 11 = .ok (.iload_n 2, 1) := by decide +kernel
theorem dX6_exchange_12 : decode cX6_exchange 12 = .ok (.iload_n 3, 1) := by decide +kernel
theorem dX6_exchange_13 : decode cX6_exchange 13 = .ok (.iastore, 1) := by decide +kernel
theorem dX6_exchange_14 : decode cX6_exchange 14 = .ok (.return_, 1) := by decide +kernel
theorem dX6_descentsOf_0 : decode cX6_descentsOf 0 = .ok (.iconst 0, 1) := by decide +kernel
theorem dX6_descentsOf_1 : decode cX6_descentsOf 1 = .ok (.istore_n 1, 1) := by decide +kernel
theorem dX6_descentsOf_2 : decode cX6_descentsOf 2 = .ok (.iconst 1, 1) := by decide +kernel
theorem dX6_descentsOf_3 : decode cX6_descentsOf 3 = .ok (.istore_n 2, 1) := by decide +kernel
theorem dX6_descentsOf_4 : decode cX6_descentsOf 4 = .ok (.iload_n 2, 1) := by decide +kernel
theorem dX6_descentsOf_5 : decode cX6_descentsOf 5 = .ok (.bipush 9, 2) := by decide +kernel
theorem dX6_descentsOf_7 : decode cX6_descentsOf 7 = .ok (.if_icmp .ge 30, 3) := by decide +kernel
theorem dX6_descentsOf_10 : decode cX6_descentsOf 10 = .ok (.iload_n 1, 1) := by decide +kernel
theorem dX6_descentsOf_11 : decode cX6_descentsOf 11 = .ok (.aload_n 0, 1) := by decide +kernel
theorem dX6_descentsOf_12 : decode cX6_descentsOf 12 = .ok (.iload_n 2, 1) := by decide +kernel
theorem dX6_descentsOf_13 : decode cX6_descentsOf 13 = .ok (.iaload, 1) := by decide +kernel
theorem dX6_descentsOf_14 : decode cX6_descentsOf 14 = .ok (.aload_n 0, 1) := by decide +kernel
theorem dX6_descentsOf_15 : decode cX6_descentsOf 15 = .ok (.iload_n 2, 1) := by decide +kernel
theorem dX6_descentsOf_16 : decode cX6_descentsOf 16 = .ok (.iconst 1, 1) := by decide +kernel
theorem dX6_descentsOf_17 : decode cX6_descentsOf 17 = .ok (.iadd, 1) := by decide +kernel
theorem dX6_descentsOf_18 : decode cX6_descentsOf 18 = .ok (.iaload, 1) := by decide +kernel
theorem dX6_descentsOf_19 : decode cX6_descentsOf 19 = .ok (.if_icmp .le 9, 3) := by decide +kernel
theorem dX6_descentsOf_22 : decode cX6_descentsOf 22 = .ok (.iconst 1, 1) := by decide +kernel
theorem dX6_descentsOf_23 : decode cX6_descentsOf 23 = .ok (.iload_n 2, 1) := by decide +kernel
theorem dX6_descentsOf_24 : decode cX6_descentsOf 24 = .ok (.ishl, 1) := by decide +kernel
theorem dX6_descentsOf_25 : decode cX6_descentsOf 25 = .ok (.goto 4, 3) := by decide +kernel
theorem dX6_descentsOf_28 : decode cX6_descentsOf 28 = .ok (.iconst 0, 1) := by decide +kernel
theorem dX6_descentsOf_29 : decode cX6_descentsOf 29 = .ok (.ior, 1) := by decide +kernel
theorem dX6_descentsOf_30 : decode cX6_descentsOf 30 = .ok (.istore_n 1, 1) := by decide +kernel
theorem dX6_descentsOf_31 : decode cX6_descentsOf 31 = .ok (.iinc 2 1, 3) := by decide +kernel
theorem dX6_descentsOf_34 : decode cX6_descentsOf 34 = .ok (.goto (-30), 3) := by decide +kernel
theorem dX6_descentsOf_37 : decode cX6_descentsOf 37 = .ok (.iload_n 1, 1) := by decide +kernel
theorem dX6_descentsOf_38 : decode cX6_descentsOf 38 = .ok (.ireturn, 1) := by decide +kernel
set_option maxRecDepth 20000 in
theorem ggX6_isFit_X6_descentsOf : GoodIn wsX6_isFit wsX6_descentsOf := goodIn_r _ [4] (by decide +kernel) (by decide +kernel)
set_option maxRecDepth 20000 in
theorem gX6_isFit_X6_descentsOf : GoodIn wsX6_isFit (va_wsS RX6 59 yX6_descentsOf wsX6_descentsOf) := goodIn_app (goodIn_of _ (by decide +kernel)) ggX6_isFit_X6_descentsOf
theorem dX6_isFit_0 : decode cX6_isFit 0 = .ok (.aload_n 0, 1) := by decide +kernel
theorem dX6_isFit_1 : decode cX6_isFit 1 = .ok (.invokestatic 59, 3) := by decide +kernel
theorem dX6_isFit_4 : decode cX6_isFit 4 = .ok (.bipush 32, 2) := by decide +kernel
theorem dX6_isFit_6 : decode cX6_isFit 6 = .ok (.if_icmp .ge 7, 3) := by decide +kernel
theorem dX6_isFit_9 : decode cX6_isFit 9 = .ok (.iconst 1, 1) := by decide +kernel
theorem dX6_isFit_10 : decode cX6_isFit 10 = .ok (.goto 4, 3) := by decide +kernel
theorem dX6_isFit_13 : decode cX6_isFit 13 = .ok (.iconst 0, 1) := by decide +kernel
theorem dX6_isFit_14 : decode cX6_isFit 14 = .ok (.ireturn, 1) := by decide +kernel
theorem dX6_isSmall_0 : decode cX6_isSmall 0 = .ok (.iconst 1, 1) := by decide +kernel
theorem dX6_isSmall_1 : decode cX6_isSmall 1 = .ok (.istore_n 1, 1) := by decide +kernel
theorem dX6_isSmall_2 : decode cX6_isSmall 2 = .ok (.bipush 6, 2) := by decide +kernel
theorem dX6_isSmall_4 : decode cX6_isSmall 4 = .ok (.istore_n 2, 1) := by decide +kernel
theorem dX6_isSmall_5 : decode cX6_isSmall 5 = .ok (.iload_n 2, 1) := by decide +kernel
theorem dX6_isSmall_6 : decode cX6_isSmall 6 = .ok (.bipush 9, 2) := by decide +kernel
theorem dX6_isSmall_8 : decode cX6_isSmall 8 = .ok (.if_icmp .gt 26, 3) := by decide +kernel
theorem dX6_isSmall_11 : decode cX6_isSmall 11 = .ok (.iload_n 1, 1) := by decide +kernel
theorem dX6_isSmall_12 : decode cX6_isSmall 12 = .ok (.ifCond .eq 14, 3) := by decide +kernel
theorem dX6_isSmall_15 : decode cX6_isSmall 15 = .ok (.aload_n 0, 1) := by decide +kernel
theorem dX6_isSmall_16 : decode cX6_isSmall 16 = .ok (.iload_n 2, 1) := by decide +kernel
theorem dX6_isSmall_17 : decode cX6_isSmall 17 = .ok (.iaload, 1) := by decide +kernel
theorem dX6_isSmall_18 : decode cX6_isSmall 18 = .ok (.iload_n 2, 1) := by decide +kernel
theorem dX6_isSmall_19 : decode cX6_isSmall 19 = .ok (.if_icmp .ne 7, 3) := by decide +kernel
theorem dX6_isSmall_22 : decode cX6_isSmall 22 = .ok (.iconst 1, 1) := by decide +kernel
theorem dX6_isSmall_23 : decode cX6_isSmall 23 = .ok (.goto 4, 3) := by decide +kernel
theorem dX6_isSmall_26 : decode cX6_isSmall 26 = .ok (.iconst 0, 1) := by decide +kernel
theorem dX6_isSmall_27 : decode cX6_isSmall 27 = .ok (.istore_n 1, 1) := by decide +kernel
theorem dX6_isSmall_28 : decode cX6_isSmall 28 = .ok (.iinc 2 1, 3) := by decide +kernel
theorem dX6_isSmall_31 : decode cX6_isSmall 31 = .ok (.goto (-26), 3) := by decide +kernel
theorem dX6_isSmall_34 : decode cX6_isSmall 34 = .ok (.iload_n 1, 1) := by decide +kernel
theorem dX6_isSmall_35 : decode cX6_isSmall 35 = .ok (.ireturn, 1) := by decide +kernel
set_option maxRecDepth 20000 in
theorem ggX6_plain_X6_lays : GoodIn wsX6_plain wsX6_lays := goodIn_r _ [5, 6, 7, 4, 8] (by decide +kernel) (by decide +kernel)
set_option maxRecDepth 20000 in
theorem gX6_plain_X6_lays : GoodIn wsX6_plain (va_wsS RX6 63 yX6_lays wsX6_lays) := goodIn_app (goodIn_of _ (by decide +kernel)) ggX6_plain_X6_lays
set_option maxRecDepth 20000 in
theorem ggX6_plain_X6_plainOf : GoodIn wsX6_plain wsX6_plainOf := goodIn_r _ [11] (by decide +kernel) (by decide +kernel)
set_option maxRecDepth 20000 in
theorem gX6_plain_X6_plainOf : GoodIn wsX6_plain (va_wsS RX6 67 yX6_plainOf wsX6_plainOf) := goodIn_app (goodIn_of _ (by decide +kernel)) ggX6_plain_X6_plainOf
theorem dX6_plain_0 : decode cX6_plain 0 = .ok (.iload_n 1, 1) := by decide +kernel
theorem dX6_plain_1 : decode cX6_plain 1 = .ok (.aload_n 0, 1) := by decide +kernel
theorem dX6_plain_2 : decode cX6_plain 2 = .ok (.getfield 7, 3) := by decide +kernel
theorem dX6_plain_5 : decode cX6_plain 5 = .ok (.invokestatic 63, 3) := by decide +kernel
theorem dX6_plain_8 : decode cX6_plain 8 = .ok (.ifCond .eq 13, 3) := by decide +kernel
theorem dX6_plain_11 : decode cX6_plain 11 = .ok (.aload_n 0, 1) := by decide +kernel
theorem dX6_plain_12 : decode cX6_plain 12 = .ok (.getfield 7, 3) := by decide +kernel
theorem dX6_plain_15 : decode cX6_plain 15 = .ok (.invokestatic 67, 3) := by decide +kernel
theorem dX6_plain_18 : decode cX6_plain 18 = .ok (.goto 5, 3) := by decide +kernel
theorem dX6_plain_21 : decode cX6_plain 21 = .ok (.bipush (-2), 2) := by decide +kernel
theorem dX6_plain_23 : decode cX6_plain 23 = .ok (.ireturn, 1) := by decide +kernel
set_option maxRecDepth 20000 in
theorem ggX6_length_X6_lays : GoodIn wsX6_length wsX6_lays := goodIn_r _ [5, 6, 7, 4, 8] (by decide +kernel) (by decide +kernel)
set_option maxRecDepth 20000 in
theorem gX6_length_X6_lays : GoodIn wsX6_length (va_wsS RX6 63 yX6_lays wsX6_lays) := goodIn_app (goodIn_of _ (by decide +kernel)) ggX6_length_X6_lays
set_option maxRecDepth 20000 in
theorem ggX6_length_X6_lengthOf : GoodIn wsX6_length wsX6_lengthOf := goodIn_r _ [11, 12, 13, 4, 14] (by decide +kernel) (by decide +kernel)
set_option maxRecDepth 20000 in
theorem gX6_length_X6_lengthOf : GoodIn wsX6_length (va_wsS RX6 70 yX6_lengthOf wsX6_lengthOf) := goodIn_app (goodIn_of _ (by decide +kernel)) ggX6_length_X6_lengthOf
theorem dX6_length_0 : decode cX6_length 0 = .ok (.iload_n 1, 1) := by decide +kernel
theorem dX6_length_1 : decode cX6_length 1 = .ok (.aload_n 0, 1) := by decide +kernel
theorem dX6_length_2 : decode cX6_length 2 = .ok (.getfield 7, 3) := by decide +kernel
theorem dX6_length_5 : decode cX6_length 5 = .ok (.invokestatic 63, 3) := by decide +kernel
theorem dX6_length_8 : decode cX6_length 8 = .ok (.ifCond .eq 13, 3) := by decide +kernel
theorem dX6_length_11 : decode cX6_length 11 = .ok (.aload_n 0, 1) := by decide +kernel
theorem dX6_length_12 : decode cX6_length 12 = .ok (.getfield 7, 3) := by decide +kernel
theorem dX6_length_15 : decode cX6_length 15 = .ok (.invokestatic 70, 3) := by decide +kernel
theorem dX6_length_18 : decode cX6_length 18 = .ok (.goto 5, 3) := by decide +kernel
theorem dX6_length_21 : decode cX6_length 21 = .ok (.bipush (-2), 2) := by decide +kernel
theorem dX6_length_23 : decode cX6_length 23 = .ok (.ireturn, 1) := by decide +kernel
set_option maxRecDepth 20000 in
theorem ggX6_code_X6_lays : GoodIn wsX6_code wsX6_lays := goodIn_r _ [5, 6, 7, 4, 8] (by decide +kernel) (by decide +kernel)
set_option maxRecDepth 20000 in
theorem gX6_code_X6_lays : GoodIn wsX6_code (va_wsS RX6 63 yX6_lays wsX6_lays) := goodIn_app (goodIn_of _ (by decide +kernel)) ggX6_code_X6_lays
set_option maxRecDepth 20000 in
theorem ggX6_code_X6_within : GoodIn wsX6_code wsX6_within := goodIn_r _ [8] (by decide +kernel) (by decide +kernel)
set_option maxRecDepth 20000 in
theorem gX6_code_X6_within : GoodIn wsX6_code (va_wsS RX6 51 yX6_within wsX6_within) := goodIn_app (goodIn_of _ (by decide +kernel)) ggX6_code_X6_within
set_option maxRecDepth 20000 in
theorem ggX6_code_X6_codeAt : GoodIn wsX6_code wsX6_codeAt := goodIn_r _ [11] (by decide +kernel) (by decide +kernel)
set_option maxRecDepth 20000 in
theorem gX6_code_X6_codeAt : GoodIn wsX6_code (va_wsS RX6 55 yX6_codeAt wsX6_codeAt) := goodIn_app (goodIn_of _ (by decide +kernel)) ggX6_code_X6_codeAt
theorem dX6_code_0 : decode cX6_code 0 = .ok (.iload_n 1, 1) := by decide +kernel
theorem dX6_code_1 : decode cX6_code 1 = .ok (.aload_n 0, 1) := by decide +kernel
theorem dX6_code_2 : decode cX6_code 2 = .ok (.getfield 7, 3) := by decide +kernel
theorem dX6_code_5 : decode cX6_code 5 = .ok (.invokestatic 63, 3) := by decide +kernel
theorem dX6_code_8 : decode cX6_code 8 = .ok (.ifCond .eq 24, 3) := by decide +kernel
theorem dX6_code_11 : decode cX6_code 11 = .ok (.iload_n 2, 1) := by decide +kernel
theorem dX6_code_12 : decode cX6_code 12 = .ok (.iconst 1, 1) := by decide +kernel
theorem dX6_code_13 : decode cX6_code 13 = .ok (.bipush 9, 2) := by decide +kernel
theorem dX6_code_15 : decode cX6_code 15 = .ok (.invokestatic 51, 3) := by decide +kernel
theorem dX6_code_18 : decode cX6_code 18 = .ok (.ifCond .eq 14, 3) := by decide +kernel
theorem dX6_code_21 : decode cX6_code 21 = .ok (.aload_n 0, 1) := by decide +kernel
theorem dX6_code_22 : decode cX6_code 22 = .ok (.getfield 7, 3) := by decide +kernel
theorem dX6_code_25 : decode cX6_code 25 = .ok (.iload_n 2, 1) := by decide +kernel
theorem dX6_code_26 : decode cX6_code 26 = .ok (.invokestatic 55, 3) := by decide +kernel
theorem dX6_code_29 : decode cX6_code 29 = .ok (.goto 5, 3) := by decide +kernel
theorem dX6_code_32 : decode cX6_code 32 = .ok (.bipush (-2), 2) := by decide +kernel
theorem dX6_code_34 : decode cX6_code 34 = .ok (.ireturn, 1) := by decide +kernel
set_option maxRecDepth 20000 in
theorem ggX6_descents_X6_lays : GoodIn wsX6_descents wsX6_lays := goodIn_r _ [5, 6, 7, 4, 8] (by decide +kernel) (by decide +kernel)
set_option maxRecDepth 20000 in
theorem gX6_descents_X6_lays : GoodIn wsX6_descents (va_wsS RX6 63 yX6_lays wsX6_lays) := goodIn_app (goodIn_of _ (by decide +kernel)) ggX6_descents_X6_lays
set_option maxRecDepth 20000 in
theorem ggX6_descents_X6_descentsOf : GoodIn wsX6_descents wsX6_descentsOf := goodIn_r _ [11] (by decide +kernel) (by decide +kernel)
set_option maxRecDepth 20000 in
theorem gX6_descents_X6_descentsOf : GoodIn wsX6_descents (va_wsS RX6 59 yX6_descentsOf wsX6_descentsOf) := goodIn_app (goodIn_of _ (by decide +kernel)) ggX6_descents_X6_descentsOf
theorem dX6_descents_0 : decode cX6_descents 0 = .ok (.iload_n 1, 1) := by decide +kernel
theorem dX6_descents_1 : decode cX6_descents 1 = .ok (.aload_n 0, 1) := by decide +kernel
theorem dX6_descents_2 : decode cX6_descents 2 = .ok (.getfield 7, 3) := by decide +kernel
theorem dX6_descents_5 : decode cX6_descents 5 = .ok (.invokestatic 63, 3) := by decide +kernel
theorem dX6_descents_8 : decode cX6_descents 8 = .ok (.ifCond .eq 13, 3) := by decide +kernel
theorem dX6_descents_11 : decode cX6_descents 11 = .ok (.aload_n 0, 1) := by decide +kernel
theorem dX6_descents_12 : decode cX6_descents 12 = .ok (.getfield 7, 3) := by decide +kernel
theorem dX6_descents_15 : decode cX6_descents 15 = .ok (.invokestatic 59, 3) := by decide +kernel
theorem dX6_descents_18 : decode cX6_descents 18 = .ok (.goto 5, 3) := by decide +kernel
theorem dX6_descents_21 : decode cX6_descents 21 = .ok (.bipush (-2), 2) := by decide +kernel
theorem dX6_descents_23 : decode cX6_descents 23 = .ok (.ireturn, 1) := by decide +kernel
set_option maxRecDepth 20000 in
theorem ggX6_inverse_X6_lays : GoodIn wsX6_inverse wsX6_lays := goodIn_r _ [6, 7, 8, 5, 9] (by decide +kernel) (by decide +kernel)
set_option maxRecDepth 20000 in
theorem gX6_inverse_X6_lays : GoodIn wsX6_inverse (va_wsS RX6 63 yX6_lays wsX6_lays) := goodIn_app (goodIn_of _ (by decide +kernel)) ggX6_inverse_X6_lays
set_option maxRecDepth 20000 in
theorem ggX6_inverse_X6_plainOf : GoodIn wsX6_inverse wsX6_plainOf := goodIn_r _ [12] (by decide +kernel) (by decide +kernel)
set_option maxRecDepth 20000 in
theorem gX6_inverse_X6_plainOf : GoodIn wsX6_inverse (va_wsS RX6 67 yX6_plainOf wsX6_plainOf) := goodIn_app (goodIn_of _ (by decide +kernel)) ggX6_inverse_X6_plainOf
theorem dX6_inverse_0 : decode cX6_inverse 0 = .ok (.iload_n 1, 1) := by decide +kernel
theorem dX6_inverse_1 : decode cX6_inverse 1 = .ok (.aload_n 0, 1) := by decide +kernel
theorem dX6_inverse_2 : decode cX6_inverse 2 = .ok (.getfield 7, 3) := by decide +kernel
theorem dX6_inverse_5 : decode cX6_inverse 5 = .ok (.invokestatic 63, 3) := by decide +kernel
theorem dX6_inverse_8 : decode cX6_inverse 8 = .ok (.ifCond .ne 6, 3) := by decide +kernel
theorem dX6_inverse_11 : decode cX6_inverse 11 = .ok (.bipush (-2), 2) := by decide +kernel
theorem dX6_inverse_13 : decode cX6_inverse 13 = .ok (.ireturn, 1) := by decide +kernel
theorem dX6_inverse_14 : decode cX6_inverse 14 = .ok (.iconst 1, 1) := by decide +kernel
theorem dX6_inverse_15 : decode cX6_inverse 15 = .ok (.istore_n 2, 1) := by decide +kernel
theorem dX6_inverse_16 : decode cX6_inverse 16 = .ok (.iload_n 2, 1) := by decide +kernel
theorem dX6_inverse_17 : decode cX6_inverse 17 = .ok (.bipush 9, 2) := by decide +kernel
theorem dX6_inverse_19 : decode cX6_inverse 19 = .ok (.if_icmp .gt 21, 3) := by decide +kernel
theorem dX6_inverse_22 : decode cX6_inverse 22 = .ok (.aload_n 0, 1) := by decide +kernel
theorem dX6_inverse_23 : decode cX6_inverse 23 = .ok (.getfield 13, 3) := by decide +kernel
theorem dX6_inverse_26 : decode cX6_inverse 26 = .ok (.aload_n 0, 1) := by decide +kernel
theorem dX6_inverse_27 : decode cX6_inverse 27 = .ok (.getfield 7, 3) := by decide +kernel
theorem dX6_inverse_30 : decode cX6_inverse 30 = .ok (.iload_n 2, 1) := by decide +kernel
theorem dX6_inverse_31 : decode cX6_inverse 31 = .ok (.iaload, 1) := by decide +kernel
theorem dX6_inverse_32 : decode cX6_inverse 32 = .ok (.iload_n 2, 1) := by decide +kernel
theorem dX6_inverse_33 : decode cX6_inverse 33 = .ok (.iastore, 1) := by decide +kernel
theorem dX6_inverse_34 : decode cX6_inverse 34 = .ok (.iinc 2 1, 3) := by decide +kernel
theorem dX6_inverse_37 : decode cX6_inverse 37 = .ok (.goto (-21), 3) := by decide +kernel
theorem dX6_inverse_40 : decode cX6_inverse 40 = .ok (.aload_n 0, 1) := by decide +kernel
theorem dX6_inverse_41 : decode cX6_inverse 41 = .ok (.getfield 13, 3) := by decide +kernel
theorem dX6_inverse_44 : decode cX6_inverse 44 = .ok (.invokestatic 67, 3) := by decide +kernel
theorem dX6_inverse_47 : decode cX6_inverse 47 = .ok (.ireturn, 1) := by decide +kernel
set_option maxRecDepth 20000 in
theorem ggX6_after_X6_lays : GoodIn wsX6_after wsX6_lays := goodIn_r _ [7, 8, 9, 6, 10] (by decide +kernel) (by decide +kernel)
set_option maxRecDepth 20000 in
theorem gX6_after_X6_lays : GoodIn wsX6_after (va_wsS RX6 63 yX6_lays wsX6_lays) := goodIn_app (goodIn_of _ (by decide +kernel)) ggX6_after_X6_lays
set_option maxRecDepth 20000 in
theorem ggX6_after_X6_plainOf : GoodIn wsX6_after wsX6_plainOf := goodIn_r _ [13] (by decide +kernel) (by decide +kernel)
set_option maxRecDepth 20000 in
theorem gX6_after_X6_plainOf : GoodIn wsX6_after (va_wsS RX6 67 yX6_plainOf wsX6_plainOf) := goodIn_app (goodIn_of _ (by decide +kernel)) ggX6_after_X6_plainOf
theorem dX6_after_0 : decode cX6_after 0 = .ok (.iload_n 1, 1) := by decide +kernel
theorem dX6_after_1 : decode cX6_after 1 = .ok (.aload_n 0, 1) := by decide +kernel
theorem dX6_after_2 : decode cX6_after 2 = .ok (.getfield 7, 3) := by decide +kernel
theorem dX6_after_5 : decode cX6_after 5 = .ok (.invokestatic 63, 3) := by decide +kernel
theorem dX6_after_8 : decode cX6_after 8 = .ok (.ifCond .eq 14, 3) := by decide +kernel
theorem dX6_after_11 : decode cX6_after 11 = .ok (.iload_n 2, 1) := by decide +kernel
theorem dX6_after_12 : decode cX6_after 12 = .ok (.aload_n 0, 1) := by decide +kernel
theorem dX6_after_13 : decode cX6_after 13 = .ok (.getfield 13, 3) := by decide +kernel
theorem dX6_after_16 : decode cX6_after 16 = .ok (.invokestatic 63, 3) := by decide +kernel
theorem dX6_after_19 : decode cX6_after 19 = .ok (.ifCond .ne 6, 3) := by decide +kernel
theorem dX6_after_22 : decode cX6_after 22 = .ok (.bipush (-2), 2) := by decide +kernel
theorem dX6_after_24 : decode cX6_after 24 = .ok (.ireturn, 1) := by decide +kernel
theorem dX6_after_25 : decode cX6_after 25 = .ok (.iconst 1, 1) := by decide +kernel
theorem dX6_after_26 : decode cX6_after 26 = .ok (.istore_n 3, 1) := by decide +kernel
theorem dX6_after_27 : decode cX6_after 27 = .ok (.iload_n 3, 1) := by decide +kernel
theorem dX6_after_28 : decode cX6_after 28 = .ok (.bipush 9, 2) := by decide +kernel
theorem dX6_after_30 : decode cX6_after 30 = .ok (.if_icmp .gt 26, 3) := by decide +kernel
theorem dX6_after_33 : decode cX6_after 33 = .ok (.aload_n 0, 1) := by decide +kernel
theorem dX6_after_34 : decode cX6_after 34 = .ok (.getfield 16, 3) := by decide +kernel
theorem dX6_after_37 : decode cX6_after 37 = .ok (.iload_n 3, 1) := by decide +kernel
theorem dX6_after_38 : decode cX6_after 38 = .ok (.aload_n 0, 1) := by decide +kernel
theorem dX6_after_39 : decode cX6_after 39 = .ok (.getfield 7, 3) := by decide +kernel
theorem dX6_after_42 : decode cX6_after 42 = .ok (.aload_n 0, 1) := by decide +kernel
theorem dX6_after_43 : decode cX6_after 43 = .ok (.getfield 13, 3) := by decide +kernel
theorem dX6_after_46 : decode cX6_after 46 = .ok (.iload_n 3, 1) := by decide +kernel
theorem dX6_after_47 : decode cX6_after 47 = .ok (.iaload, 1) := by decide +kernel
theorem dX6_after_48 : decode cX6_after 48 = .ok (.iaload, 1) := by decide +kernel
theorem dX6_after_49 : decode cX6_after 49 = .ok (.iastore, 1) := by decide +kernel
theorem dX6_after_50 : decode cX6_after 50 = .ok (.iinc 3 1, 3) := by decide +kernel
theorem dX6_after_53 : decode cX6_after 53 = .ok (.goto (-26), 3) := by decide +kernel
theorem dX6_after_56 : decode cX6_after 56 = .ok (.aload_n 0, 1) := by decide +kernel
theorem dX6_after_57 : decode cX6_after 57 = .ok (.getfield 16, 3) := by decide +kernel
theorem dX6_after_60 : decode cX6_after 60 = .ok (.invokestatic 67, 3) := by decide +kernel
theorem dX6_after_63 : decode cX6_after 63 = .ok (.ireturn, 1) := by decide +kernel
theorem dX6_laysCode_0 : decode cX6_laysCode 0 = .ok (.iconst 0, 1) := by decide +kernel
theorem dX6_laysCode_1 : decode cX6_laysCode 1 = .ok (.istore 6, 2) := by decide +kernel
theorem dX6_laysCode_3 : decode cX6_laysCode 3 = .ok (.iconst 1, 1) := by decide +kernel
theorem dX6_laysCode_4 : decode cX6_laysCode 4 = .ok (.istore 7, 2) := by decide +kernel
theorem dX6_laysCode_6 : decode cX6_laysCode 6 = .ok (.iload 7, 2) := by decide +kernel
theorem dX6_laysCode_8 : decode cX6_laysCode 8 = .ok (.bipush 9, 2) := by decide +kernel
theorem dX6_laysCode_10 : decode cX6_laysCode 10 = .ok (.if_icmp .gt 115, 3) := by decide +kernel
theorem dX6_laysCode_13 : decode cX6_laysCode 13 = .ok (.iload 7, 2) := by decide +kernel
theorem dX6_laysCode_15 : decode cX6_laysCode 15 = .ok (.iconst 1, 1) := by decide +kernel
theorem dX6_laysCode_16 : decode cX6_laysCode 16 = .ok (.if_icmp .ne 7, 3) := by decide +kernel
theorem dX6_laysCode_19 : decode cX6_laysCode 19 = .ok (.iload_n 1, 1) := by decide +kernel
theorem dX6_laysCode_20 : decode cX6_laysCode 20 = .ok (.goto 35, 3) := by decide +kernel
theorem dX6_laysCode_23 : decode cX6_laysCode 23 = .ok (.iload 7, 2) := by decide +kernel
theorem dX6_laysCode_25 : decode cX6_laysCode 25 = .ok (.iconst 2, 1) := by decide +kernel
theorem dX6_laysCode_26 : decode cX6_laysCode 26 = .ok (.if_icmp .ne 7, 3) := by decide +kernel
theorem dX6_laysCode_29 : decode cX6_laysCode 29 = .ok (.iload_n 2, 1) := by decide +kernel
theorem dX6_laysCode_30 : decode cX6_laysCode 30 = .ok (.goto 25, 3) := by decide +kernel
theorem dX6_laysCode_33 : decode cX6_laysCode 33 = .ok (.iload 7, 2) := by decide +kernel
theorem dX6_laysCode_35 : decode cX6_laysCode 35 = .ok (.iconst 3, 1) := by decide +kernel
theorem dX6_laysCode_36 : decode cX6_laysCode 36 = .ok (.if_icmp .ne 7, 3) := by decide +kernel
theorem dX6_laysCode_39 : decode cX6_laysCode 39 = .ok (.iload_n 3, 1) := by decide +kernel
theorem dX6_laysCode_40 : decode cX6_laysCode 40 = .ok (.goto 15, 3) := by decide +kernel
theorem dX6_laysCode_43 : decode cX6_laysCode 43 = .ok (.iload 7, 2) := by decide +kernel
theorem dX6_laysCode_45 : decode cX6_laysCode 45 = .ok (.iconst 4, 1) := by decide +kernel
theorem dX6_laysCode_46 : decode cX6_laysCode 46 = .ok (.if_icmp .ne 8, 3) := by decide +kernel
theorem dX6_laysCode_49 : decode cX6_laysCode 49 = .ok (.iload 4, 2) := by decide +kernel
theorem dX6_laysCode_51 : decode cX6_laysCode 51 = .ok (.goto 4, 3) := by decide +kernel
theorem dX6_laysCode_54 : decode cX6_laysCode 54 = .ok (.iconst 0, 1) := by decide +kernel
theorem dX6_laysCode_55 : decode cX6_laysCode 55 = .ok (.istore 8, 2) := by decide +kernel
theorem dX6_laysCode_57 : decode cX6_laysCode 57 = .ok (.iconst 1, 1) := by decide +kernel
theorem dX6_laysCode_58 : decode cX6_laysCode 58 = .ok (.istore 9, 2) := by decide +kernel
theorem dX6_laysCode_60 : decode cX6_laysCode 60 = .ok (.iload 6, 2) := by decide +kernel
theorem dX6_laysCode_62 : decode cX6_laysCode 62 = .ok (.iload 9, 2) := by decide +kernel
theorem dX6_laysCode_64 : decode cX6_laysCode 64 = .ok (.ishr, 1) := by decide +kernel
theorem dX6_laysCode_65 : decode cX6_laysCode 65 = .ok (.iconst 1, 1) := by decide +kernel
theorem dX6_laysCode_66 : decode cX6_laysCode 66 = .ok (.iand, 1) := by decide +kernel
theorem dX6_laysCode_67 : decode cX6_laysCode 67 = .ok (.iconst 1, 1) := by decide +kernel
theorem dX6_laysCode_68 : decode cX6_laysCode 68 = .ok (.if_icmp .eq 8, 3) := by decide +kernel
theorem dX6_laysCode_71 : decode cX6_laysCode 71 = .ok (.iload 8, 2) := by decide +kernel
theorem dX6_laysCode_73 : decode cX6_laysCode 73 = .ok (.ifCond .le 30, 3) := by decide +kernel
theorem dX6_laysCode_76 : decode cX6_laysCode 76 = .ok (.iload 8, 2) := by decide +kernel
theorem dX6_laysCode_78 : decode cX6_laysCode 78 = .ok (.iload 6, 2) := by decide +kernel
theorem dX6_laysCode_80 : decode cX6_laysCode 80 = .ok (.iload 9, 2) := by decide +kernel
theorem dX6_laysCode_82 : decode cX6_laysCode 82 = .ok (.ishr, 1) := by decide +kernel
theorem dX6_laysCode_83 : decode cX6_laysCode 83 = .ok (.iconst 1, 1) := by decide +kernel
theorem dX6_laysCode_84 : decode cX6_laysCode 84 = .ok (.iand, 1) := by decide +kernel
theorem dX6_laysCode_85 : decode cX6_laysCode 85 = .ok (.iconst 1, 1) := by decide +kernel
theorem dX6_laysCode_86 : decode cX6_laysCode 86 = .ok (.if_icmp .ne 7, 3) := by decide +kernel
theorem dX6_laysCode_89 : decode cX6_laysCode 89 = .ok (.iconst 0, 1) := by decide +kernel
theorem dX6_laysCode_90 : decode cX6_laysCode 90 = .ok (.goto 4, 3) := by decide +kernel
theorem dX6_laysCode_93 : decode cX6_laysCode 93 = .ok (.iconst 1, 1) := by decide +kernel
theorem dX6_laysCode_94 : decode cX6_laysCode 94 = .ok (.isub, 1) := by decide +kernel
theorem dX6_laysCode_95 : decode cX6_laysCode 95 = .ok (.istore 8, 2) := by decide +kernel
theorem dX6_laysCode_97 : decode cX6_laysCode 97 = .ok (.iinc 9 1, 3) := by decide +kernel
theorem dX6_laysCode_100 : decode cX6_laysCode 100 = .ok (.goto (-40), 3) := by decide +kernel
theorem dX6_laysCode_103 : decode cX6_laysCode 103 = .ok (.aload 5, 2) := by decide +kernel
theorem dX6_laysCode_105 : decode cX6_laysCode 105 = .ok (.iload 7, 2) := by decide +kernel
theorem dX6_laysCode_107 : decode cX6_laysCode 107 = .ok (.iload 9, 2) := by decide +kernel
theorem dX6_laysCode_109 : decode cX6_laysCode 109 = .ok (.iastore, 1) := by decide +kernel
theorem dX6_laysCode_110 : decode cX6_laysCode 110 = .ok (.iload 6, 2) := by decide +kernel
theorem dX6_laysCode_112 : decode cX6_laysCode 112 = .ok (.iconst 1, 1) := by decide +kernel
theorem dX6_laysCode_113 : decode cX6_laysCode 113 = .ok (.iload 9, 2) := by decide +kernel
theorem dX6_laysCode_115 : decode cX6_laysCode 115 = .ok (.ishl, 1) := by decide +kernel
theorem dX6_laysCode_116 : decode cX6_laysCode 116 = .ok (.ior, 1) := by decide +kernel
theorem dX6_laysCode_117 : decode cX6_laysCode 117 = .ok (.istore 6, 2) := by decide +kernel
theorem dX6_laysCode_119 : decode cX6_laysCode 119 = .ok (.iinc 7 1, 3) := by decide +kernel
theorem dX6_laysCode_122 : decode cX6_laysCode 122 = .ok (.goto (-116), 3) := by decide +kernel
theorem dX6_laysCode_125 : decode cX6_laysCode 125 = .ok (.return_, 1) := by decide +kernel
set_option maxRecDepth 20000 in
theorem ggX6_ofCode_X6_within : GoodIn wsX6_ofCode wsX6_within := goodIn_r _ [5] (by decide +kernel) (by decide +kernel)
set_option maxRecDepth 20000 in
theorem gX6_ofCode_X6_within : GoodIn wsX6_ofCode (va_wsS RX6 51 yX6_within wsX6_within) := goodIn_app (goodIn_of _ (by decide +kernel)) ggX6_ofCode_X6_within
set_option maxRecDepth 20000 in
theorem ggX6_ofCode_X6_laysCode : GoodIn wsX6_ofCode wsX6_laysCode := goodIn_r _ [9] (by decide +kernel) (by decide +kernel)
set_option maxRecDepth 20000 in
theorem gX6_ofCode_X6_laysCode : GoodIn wsX6_ofCode (wsV RX6 73 RX6 yX6_laysCode wsX6_laysCode) := goodIn_app (goodIn_of _ (by decide +kernel)) ggX6_ofCode_X6_laysCode
set_option maxRecDepth 20000 in
theorem ggX6_ofCode_X6_plainOf : GoodIn wsX6_ofCode wsX6_plainOf := goodIn_r _ [12] (by decide +kernel) (by decide +kernel)
set_option maxRecDepth 20000 in
theorem gX6_ofCode_X6_plainOf : GoodIn wsX6_ofCode (va_wsS RX6 67 yX6_plainOf wsX6_plainOf) := goodIn_app (goodIn_of _ (by decide +kernel)) ggX6_ofCode_X6_plainOf
theorem dX6_ofCode_0 : decode cX6_ofCode 0 = .ok (.iload_n 1, 1) := by decide +kernel
theorem dX6_ofCode_1 : decode cX6_ofCode 1 = .ok (.iconst 0, 1) := by decide +kernel
theorem dX6_ofCode_2 : decode cX6_ofCode 2 = .ok (.bipush 8, 2) := by decide +kernel
theorem dX6_ofCode_4 : decode cX6_ofCode 4 = .ok (.invokestatic 51, 3) := by decide +kernel
theorem dX6_ofCode_7 : decode cX6_ofCode 7 = .ok (.ifCond .eq 33, 3) := by decide +kernel
theorem dX6_ofCode_10 : decode cX6_ofCode 10 = .ok (.iload_n 2, 1) := by decide +kernel
theorem dX6_ofCode_11 : decode cX6_ofCode 11 = .ok (.iconst 0, 1) := by decide +kernel
theorem dX6_ofCode_12 : decode cX6_ofCode 12 = .ok (.bipush 7, 2) := by decide +kernel
theorem dX6_ofCode_14 : decode cX6_ofCode 14 = .ok (.invokestatic 51, 3) := by decide +kernel
theorem dX6_ofCode_17 : decode cX6_ofCode 17 = .ok (.ifCond .eq 23, 3) := by decide +kernel
theorem dX6_ofCode_20 : decode cX6_ofCode 20 = .ok (.iload_n 3, 1) := by decide +kernel
theorem dX6_ofCode_21 : decode cX6_ofCode 21 = .ok (.iconst 0, 1) := by decide +kernel
theorem dX6_ofCode_22 : decode cX6_ofCode 22 = .ok (.bipush 6, 2) := by decide +kernel
theorem dX6_ofCode_24 : decode cX6_ofCode 24 = .ok (.invokestatic 51, 3) := by decide +kernel
theorem dX6_ofCode_27 : decode cX6_ofCode 27 = .ok (.ifCond .eq 13, 3) := by decide +kernel
theorem dX6_ofCode_30 : decode cX6_ofCode 30 = .ok (.iload 4, 2) := by decide +kernel
theorem dX6_ofCode_32 : decode cX6_ofCode 32 = .ok (.iconst 0, 1) := by decide +kernel
theorem dX6_ofCode_33 : decode cX6_ofCode 33 = .ok (.iconst 5, 1) := by decide +kernel
theorem dX6_ofCode_34 : decode cX6_ofCode 34 = .ok (.invokestatic 51, 3) := by decide +kernel
theorem dX6_ofCode_37 : decode cX6_ofCode 37 = .ok (.ifCond .ne 6, 3) := by decide +kernel
theorem dX6_ofCode_40 : decode cX6_ofCode 40 = .ok (.bipush (-2), 2) := by decide +kernel
theorem dX6_ofCode_42 : decode cX6_ofCode 42 = .ok (.ireturn, 1) := by decide +kernel
theorem dX6_ofCode_43 : decode cX6_ofCode 43 = .ok (.aload_n 0, 1) := by decide +kernel
theorem dX6_ofCode_44 : decode cX6_ofCode 44 = .ok (.iload_n 1, 1) := by decide +kernel
theorem dX6_ofCode_45 : decode cX6_ofCode 45 = .ok (.iload_n 2, 1) := by decide +kernel
theorem dX6_ofCode_46 : decode cX6_ofCode 46 = .ok (.iload_n 3, 1) := by decide +kernel
theorem dX6_ofCode_47 : decode cX6_ofCode 47 = .ok (.iload 4, 2) := by decide +kernel
theorem dX6_ofCode_49 : decode cX6_ofCode 49 = .ok (.aload_n 0, 1) := by decide +kernel
theorem dX6_ofCode_50 : decode cX6_ofCode 50 = .ok (.getfield 7, 3) := by decide +kernel
theorem dX6_ofCode_53 : decode cX6_ofCode 53 = .ok (.invokevirtual 73, 3) := by decide +kernel
theorem dX6_ofCode_56 : decode cX6_ofCode 56 = .ok (.aload_n 0, 1) := by decide +kernel
theorem dX6_ofCode_57 : decode cX6_ofCode 57 = .ok (.getfield 7, 3) := by decide +kernel
theorem dX6_ofCode_60 : decode cX6_ofCode 60 = .ok (.invokestatic 67, 3) := by decide +kernel
theorem dX6_ofCode_63 : decode cX6_ofCode 63 = .ok (.ireturn, 1) := by decide +kernel
theorem dX6_manyFrom_0 : decode cX6_manyFrom 0 = .ok (.iconst 0, 1) := by decide +kernel
theorem dX6_manyFrom_1 : decode cX6_manyFrom 1 = .ok (.istore_n 3, 1) := by decide +kernel
theorem dX6_manyFrom_2 : decode cX6_manyFrom 2 = .ok (.iconst 1, 1) := by decide +kernel
theorem dX6_manyFrom_3 : decode cX6_manyFrom 3 = .ok (.istore 4, 2) := by decide +kernel
theorem dX6_manyFrom_5 : decode cX6_manyFrom 5 = .ok (.iload 4, 2) := by decide +kernel
theorem dX6_manyFrom_7 : decode cX6_manyFrom 7 = .ok (.iload_n 1, 1) := by decide +kernel
theorem dX6_manyFrom_8 : decode cX6_manyFrom 8 = .ok (.if_icmp .gt 25, 3) := by decide +kernel
theorem dX6_manyFrom_11 : decode cX6_manyFrom 11 = .ok (.iload_n 3, 1) := by decide +kernel
theorem dX6_manyFrom_12 : decode cX6_manyFrom 12 = .ok (.aload_n 0, 1) := by decide +kernel
theorem dX6_manyFrom_13 : decode cX6_manyFrom 13 = .ok (.iload 4, 2) := by decide +kernel
theorem dX6_manyFrom_15 : decode cX6_manyFrom 15 = .ok (.iaload, 1) := by decide +kernel
theorem dX6_manyFrom_16 : decode cX6_manyFrom 16 = .ok (.iload_n 2, 1) := by decide +kernel
theorem dX6_manyFrom_17 : decode cX6_manyFrom 17 = .ok (.if_icmp .lt 7, 3) := by decide +kernel
theorem dX6_manyFrom_20 : decode cX6_manyFrom 20 = .ok (.iconst 1, 1) := by decide +kernel
theorem dX6_manyFrom_21 : decode cX6_manyFrom 21 = .ok (.goto 4, 3) := by decide +kernel
theorem dX6_manyFrom_24 : decode cX6_manyFrom 24 = .ok (.iconst 0, 1) := by decide +kernel
theorem dX6_manyFrom_25 : decode cX6_manyFrom 25 = .ok (.iadd, 1) := by decide +kernel
theorem dX6_manyFrom_26 : decode cX6_manyFrom 26 = .ok (.istore_n 3, 1) := by decide +kernel
theorem dX6_manyFrom_27 : decode cX6_manyFrom 27 = .ok (.iinc 4 1, 3) := by decide +kernel
theorem dX6_manyFrom_30 : decode cX6_manyFrom 30 = .ok (.goto (-25), 3) := by decide +kernel
theorem dX6_manyFrom_33 : decode cX6_manyFrom 33 = .ok (.iload_n 3, 1) := by decide +kernel
theorem dX6_manyFrom_34 : decode cX6_manyFrom 34 = .ok (.ireturn, 1) := by decide +kernel
set_option maxRecDepth 20000 in
theorem ggX6_below_X6_lays : GoodIn wsX6_below wsX6_lays := goodIn_r _ [6, 7, 8, 5, 9] (by decide +kernel) (by decide +kernel)
set_option maxRecDepth 20000 in
theorem gX6_below_X6_lays : GoodIn wsX6_below (va_wsS RX6 63 yX6_lays wsX6_lays) := goodIn_app (goodIn_of _ (by decide +kernel)) ggX6_below_X6_lays
set_option maxRecDepth 20000 in
theorem ggX6_below_X6_manyFrom : GoodIn wsX6_below wsX6_manyFrom := goodIn_r _ [12] (by decide +kernel) (by decide +kernel)
set_option maxRecDepth 20000 in
theorem gX6_below_X6_manyFrom : GoodIn wsX6_below (va_wsS RX6 77 yX6_manyFrom wsX6_manyFrom) := goodIn_app (goodIn_of _ (by decide +kernel)) ggX6_below_X6_manyFrom
theorem dX6_below_0 : decode cX6_below 0 = .ok (.iload_n 1, 1) := by decide +kernel
theorem dX6_below_1 : decode cX6_below 1 = .ok (.aload_n 0, 1) := by decide +kernel
theorem dX6_below_2 : decode cX6_below 2 = .ok (.getfield 7, 3) := by decide +kernel
theorem dX6_below_5 : decode cX6_below 5 = .ok (.invokestatic 63, 3) := by decide +kernel
theorem dX6_below_8 : decode cX6_below 8 = .ok (.ifCond .eq 14, 3) := by decide +kernel
theorem dX6_below_11 : decode cX6_below 11 = .ok (.iload_n 2, 1) := by decide +kernel
theorem dX6_below_12 : decode cX6_below 12 = .ok (.aload_n 0, 1) := by decide +kernel
theorem dX6_below_13 : decode cX6_below 13 = .ok (.getfield 13, 3) := by decide +kernel
theorem dX6_below_16 : decode cX6_below 16 = .ok (.invokestatic 63, 3) := by decide +kernel
theorem dX6_below_19 : decode cX6_below 19 = .ok (.ifCond .ne 6, 3) := by decide +kernel
theorem dX6_below_22 : decode cX6_below 22 = .ok (.bipush (-2), 2) := by decide +kernel
theorem dX6_below_24 : decode cX6_below 24 = .ok (.ireturn, 1) := by decide +kernel
theorem dX6_below_25 : decode cX6_below 25 = .ok (.iconst 1, 1) := by decide +kernel
theorem dX6_below_26 : decode cX6_below 26 = .ok (.istore_n 3, 1) := by decide +kernel
theorem dX6_below_27 : decode cX6_below 27 = .ok (.iload_n 3, 1) := by decide +kernel
theorem dX6_below_28 : decode cX6_below 28 = .ok (.bipush 9, 2) := by decide +kernel
theorem dX6_below_30 : decode cX6_below 30 = .ok (.if_icmp .gt 50, 3) := by decide +kernel
theorem dX6_below_33 : decode cX6_below 33 = .ok (.iconst 1, 1) := by decide +kernel
theorem dX6_below_34 : decode cX6_below 34 = .ok (.istore 4, 2) := by decide +kernel
theorem dX6_below_36 : decode cX6_below 36 = .ok (.iload 4, 2) := by decide +kernel
theorem dX6_below_38 : decode cX6_below 38 = .ok (.bipush 9, 2) := by decide +kernel
theorem dX6_below_40 : decode cX6_below 40 = .ok (.if_icmp .gt 34, 3) := by decide +kernel
theorem dX6_below_43 : decode cX6_below 43 = .ok (.aload_n 0, 1) := by decide +kernel
theorem dX6_below_44 : decode cX6_below 44 = .ok (.getfield 7, 3) := by decide +kernel
theorem dX6_below_47 : decode cX6_below 47 = .ok (.iload_n 3, 1) := by decide +kernel
theorem dX6_below_48 : decode cX6_below 48 = .ok (.iload 4, 2) := by decide +kernel
theorem dX6_below_50 : decode cX6_below 50 = .ok (.invokestatic 77, 3) := by decide +kernel
theorem dX6_below_53 : decode cX6_below 53 = .ok (.aload_n 0, 1) := by decide +kernel
theorem dX6_below_54 : decode cX6_below 54 = .ok (.getfield 13, 3) := by decide +kernel
theorem dX6_below_57 : decode cX6_below 57 = .ok (.iload_n 3, 1) := by decide +kernel
theorem dX6_below_58 : decode cX6_below 58 = .ok (.iload 4, 2) := by decide +kernel
theorem dX6_below_60 : decode cX6_below 60 = .ok (.invokestatic 77, 3) := by decide +kernel
theorem dX6_below_63 : decode cX6_below 63 = .ok (.if_icmp .le 5, 3) := by decide +kernel
theorem dX6_below_66 : decode cX6_below 66 = .ok (.iconst 0, 1) := by decide +kernel
theorem dX6_below_67 : decode cX6_below 67 = .ok (.ireturn, 1) := by decide +kernel
theorem dX6_below_68 : decode cX6_below 68 = .ok (.iinc 4 1, 3) := by decide +kernel
theorem dX6_below_71 : decode cX6_below 71 = .ok (.goto (-35), 3) := by decide +kernel
theorem dX6_below_74 : decode cX6_below 74 = .ok (.iinc 3 1, 3) := by decide +kernel
theorem dX6_below_77 : decode cX6_below 77 = .ok (.goto (-50), 3) := by decide +kernel
theorem dX6_below_80 : decode cX6_below 80 = .ok (.iconst 1, 1) := by decide +kernel
theorem dX6_below_81 : decode cX6_below 81 = .ok (.ireturn, 1) := by decide +kernel
set_option maxRecDepth 20000 in
theorem ggX6_laysSmall_X6_laysCode : GoodIn wsX6_laysSmall wsX6_laysCode := goodIn_r _ [6] (by decide +kernel) (by decide +kernel)
set_option maxRecDepth 20000 in
theorem gX6_laysSmall_X6_laysCode : GoodIn wsX6_laysSmall (wsV RX6 73 RX6 yX6_laysCode wsX6_laysCode) := goodIn_app (goodIn_of _ (by decide +kernel)) ggX6_laysSmall_X6_laysCode
theorem dX6_laysSmall_0 : decode cX6_laysSmall 0 = .ok (.aload_n 0, 1) := by decide +kernel
theorem dX6_laysSmall_1 : decode cX6_laysSmall 1 = .ok (.iload_n 1, 1) := by decide +kernel
theorem dX6_laysSmall_2 : decode cX6_laysSmall 2 = .ok (.bipush 24, 2) := by decide +kernel
theorem dX6_laysSmall_4 : decode cX6_laysSmall 4 = .ok (.idiv, 1) := by decide +kernel
theorem dX6_laysSmall_5 : decode cX6_laysSmall 5 = .ok (.iload_n 1, 1) := by decide +kernel
theorem dX6_laysSmall_6 : decode cX6_laysSmall 6 = .ok (.bipush 6, 2) := by decide +kernel
theorem dX6_laysSmall_8 : decode cX6_laysSmall 8 = .ok (.idiv, 1) := by decide +kernel
theorem dX6_laysSmall_9 : decode cX6_laysSmall 9 = .ok (.iconst 4, 1) := by decide +kernel
theorem dX6_laysSmall_10 : decode cX6_laysSmall 10 = .ok (.irem, 1) := by decide +kernel
theorem dX6_laysSmall_11 : decode cX6_laysSmall 11 = .ok (.iload_n 1, 1) := by decide +kernel
theorem dX6_laysSmall_12 : decode cX6_laysSmall 12 = .ok (.iconst 2, 1) := by decide +kernel
theorem dX6_laysSmall_13 : decode cX6_laysSmall 13 = .ok (.idiv, 1) := by decide +kernel
theorem dX6_laysSmall_14 : decode cX6_laysSmall 14 = .ok (.iconst 3, 1) := by decide +kernel
theorem dX6_laysSmall_15 : decode cX6_laysSmall 15 = .ok (.irem, 1) := by decide +kernel
theorem dX6_laysSmall_16 : decode cX6_laysSmall 16 = .ok (.iload_n 1, 1) := by decide +kernel
theorem dX6_laysSmall_17 : decode cX6_laysSmall 17 = .ok (.iconst 2, 1) := by decide +kernel
theorem dX6_laysSmall_18 : decode cX6_laysSmall 18 = .ok (.irem, 1) := by decide +kernel
theorem dX6_laysSmall_19 : decode cX6_laysSmall 19 = .ok (.aload_n 0, 1) := by decide +kernel
theorem dX6_laysSmall_20 : decode cX6_laysSmall 20 = .ok (.getfield 13, 3) := by decide +kernel
theorem dX6_laysSmall_23 : decode cX6_laysSmall 23 = .ok (.invokevirtual 73, 3) := by decide +kernel
theorem dX6_laysSmall_26 : decode cX6_laysSmall 26 = .ok (.return_, 1) := by decide +kernel
set_option maxRecDepth 20000 in
theorem ggX6_smallOf_X6_codeAt : GoodIn wsX6_smallOf wsX6_codeAt := goodIn_r _ [4] (by decide +kernel) (by decide +kernel)
set_option maxRecDepth 20000 in
theorem gX6_smallOf_X6_codeAt : GoodIn wsX6_smallOf (va_wsS RX6 55 yX6_codeAt wsX6_codeAt) := goodIn_app (goodIn_of _ (by decide +kernel)) ggX6_smallOf_X6_codeAt
theorem dX6_smallOf_0 : decode cX6_smallOf 0 = .ok (.bipush 24, 2) := by decide +kernel
theorem dX6_smallOf_2 : decode cX6_smallOf 2 = .ok (.aload_n 0, 1) := by decide +kernel
theorem dX6_smallOf_3 : decode cX6_smallOf 3 = .ok (.iconst 1, 1) := by decide +kernel
theorem dX6_smallOf_4 : decode cX6_smallOf 4 = .ok (.invokestatic 55, 3) := by decide +kernel
theorem dX6_smallOf_7 : decode cX6_smallOf 7 = .ok (.imul, 1) := by decide +kernel
theorem dX6_smallOf_8 : decode cX6_smallOf 8 = .ok (.bipush 6, 2) := by decide +kernel
theorem dX6_smallOf_10 : decode cX6_smallOf 10 = .ok (.aload_n 0, 1) := by decide +kernel
theorem dX6_smallOf_11 : decode cX6_smallOf 11 = .ok (.iconst 2, 1) := by decide +kernel
theorem dX6_smallOf_12 : decode cX6_smallOf 12 = .ok (.invokestatic 55, 3) := by decide +kernel
theorem dX6_smallOf_15 : decode cX6_smallOf 15 = .ok (.imul, 1) := by decide +kernel
theorem dX6_smallOf_16 : decode cX6_smallOf 16 = .ok (.iadd, 1) := by decide +kernel
theorem dX6_smallOf_17 : decode cX6_smallOf 17 = .ok (.iconst 2, 1) := by decide +kernel
theorem dX6_smallOf_18 : decode cX6_smallOf 18 = .ok (.aload_n 0, 1) := by decide +kernel
theorem dX6_smallOf_19 : decode cX6_smallOf 19 = .ok (.iconst 3, 1) := by decide +kernel
theorem dX6_smallOf_20 : decode cX6_smallOf 20 = .ok (.invokestatic 55, 3) := by decide +kernel
theorem dX6_smallOf_23 : decode cX6_smallOf 23 = .ok (.imul, 1) := by decide +kernel
theorem dX6_smallOf_24 : decode cX6_smallOf 24 = .ok (.iadd, 1) := by decide +kernel
theorem dX6_smallOf_25 : decode cX6_smallOf 25 = .ok (.aload_n 0, 1) := by decide +kernel
theorem dX6_smallOf_26 : decode cX6_smallOf 26 = .ok (.iconst 4, 1) := by decide +kernel
theorem dX6_smallOf_27 : decode cX6_smallOf 27 = .ok (.invokestatic 55, 3) := by decide +kernel
theorem dX6_smallOf_30 : decode cX6_smallOf 30 = .ok (.iadd, 1) := by decide +kernel
theorem dX6_smallOf_31 : decode cX6_smallOf 31 = .ok (.ireturn, 1) := by decide +kernel
set_option maxRecDepth 20000 in
theorem ggX6_findWays_X6_laysSmall : GoodIn wsX6_findWays wsX6_laysSmall := goodIn_r _ [7, 1, 8, 9, 10, 6, 11, 21, 22, 23, 24, 25, 26, 27, 28, 29, 30, 31, 32, 33, 34, 35, 36] (by decide +kernel) (by decide +kernel)
set_option maxRecDepth 20000 in
theorem gX6_findWays_X6_laysSmall : GoodIn wsX6_findWays (wsV RX6 81 RX6 yX6_laysSmall wsX6_laysSmall) := goodIn_app (goodIn_of _ (by decide +kernel)) ggX6_findWays_X6_laysSmall
set_option maxRecDepth 20000 in
theorem ggX6_findWays_X6_exchange : GoodIn wsX6_findWays wsX6_exchange := goodIn_r _ [14] (by decide +kernel) (by decide +kernel)
set_option maxRecDepth 20000 in
theorem gX6_findWays_X6_exchange : GoodIn wsX6_findWays (va_wsS RX6 85 yX6_exchange wsX6_exchange) := goodIn_app (goodIn_of _ (by decide +kernel)) ggX6_findWays_X6_exchange
set_option maxRecDepth 20000 in
theorem ggX6_findWays_X6_smallOf : GoodIn wsX6_findWays wsX6_smallOf := goodIn_r _ [17, 18, 19, 6, 20] (by decide +kernel) (by decide +kernel)
set_option maxRecDepth 20000 in
theorem gX6_findWays_X6_smallOf : GoodIn wsX6_findWays (va_wsS RX6 89 yX6_smallOf wsX6_smallOf) := goodIn_app (goodIn_of _ (by decide +kernel)) ggX6_findWays_X6_smallOf
theorem dX6_findWays_0 : decode cX6_findWays 0 = .ok (.iconst 0, 1) := by decide +kernel
theorem dX6_findWays_1 : decode cX6_findWays 1 = .ok (.istore_n 2, 1) := by decide +kernel
theorem dX6_findWays_2 : decode cX6_findWays 2 = .ok (.iconst 1, 1) := by decide +kernel
theorem dX6_findWays_3 : decode cX6_findWays 3 = .ok (.istore_n 3, 1) := by decide +kernel
theorem dX6_findWays_4 : decode cX6_findWays 4 = .ok (.iload_n 3, 1) := by decide +kernel
theorem dX6_findWays_5 : decode cX6_findWays 5 = .ok (.iconst 5, 1) := by decide +kernel
theorem dX6_findWays_6 : decode cX6_findWays 6 = .ok (.if_icmp .ge 57, 3) := by decide +kernel
theorem dX6_findWays_9 : decode cX6_findWays 9 = .ok (.aload_n 0, 1) := by decide +kernel
theorem dX6_findWays_10 : decode cX6_findWays 10 = .ok (.iload_n 1, 1) := by decide +kernel
theorem dX6_findWays_11 : decode cX6_findWays 11 = .ok (.invokevirtual 81, 3) := by decide +kernel
theorem dX6_findWays_14 : decode cX6_findWays 14 = .ok (.aload_n 0, 1) := by decide +kernel
theorem dX6_findWays_15 : decode cX6_findWays 15 = .ok (.getfield 13, 3) := by decide +kernel
theorem dX6_findWays_18 : decode cX6_findWays 18 = .ok (.iload_n 3, 1) := by decide +kernel
theorem dX6_findWays_19 : decode cX6_findWays 19 = .ok (.iaload, 1) := by decide +kernel
theorem dX6_findWays_20 : decode cX6_findWays 20 = .ok (.aload_n 0, 1) := by decide +kernel
theorem dX6_findWays_21 : decode cX6_findWays 21 = .ok (.getfield 13, 3) := by decide +kernel
theorem dX6_findWays_24 : decode cX6_findWays 24 = .ok (.iload_n 3, 1) := by decide +kernel
theorem dX6_findWays_25 : decode cX6_findWays 25 = .ok (.iconst 1, 1) := by decide +kernel
theorem dX6_findWays_26 : decode cX6_findWays 26 = .ok (.iadd, 1) := by decide +kernel
theorem dX6_findWays_27 : decode cX6_findWays 27 = .ok (.iaload, 1) := by decide +kernel
theorem dX6_findWays_28 : decode cX6_findWays 28 = .ok (.if_icmp .le 29, 3) := by decide +kernel
theorem dX6_findWays_31 : decode cX6_findWays 31 = .ok (.aload_n 0, 1) := by decide +kernel
theorem dX6_findWays_32 : decode cX6_findWays 32 = .ok (.getfield 13, 3) := by decide +kernel
theorem dX6_findWays_35 : decode cX6_findWays 35 = .ok (.iload_n 3, 1) := by decide +kernel
theorem dX6_findWays_36 : decode cX6_findWays 36 = .ok (.iload_n 3, 1) := by decide +kernel
theorem dX6_findWays_37 : decode cX6_findWays 37 = .ok (.iconst 1, 1) := by decide +kernel
theorem dX6_findWays_38 : decode cX6_findWays 38 = .ok (.iadd, 1) := by decide +kernel
theorem dX6_findWays_39 : decode cX6_findWays 39 = .ok (.invokestatic 85, 3) := by decide +kernel
theorem dX6_findWays_42 : decode cX6_findWays 42 = .ok (.iload_n 2, 1) := by decide +kernel
theorem dX6_findWays_43 : decode cX6_findWays 43 = .ok (.aload_n 0, 1) := by decide +kernel
theorem dX6_findWays_44 : decode cX6_findWays 44 = .ok (.getfield 19, 3) := by decide +kernel
theorem dX6_findWays_47 : decode cX6_findWays 47 = .ok (.aload_n 0, 1) := by decide +kernel
theorem dX6_findWays_48 : decode cX6_findWays 48 = .ok (.getfield 13, 3) := by decide +kernel
theorem dX6_findWays_51 : decode cX6_findWays 51 = .ok (.invokestatic 89, 3) := by decide +kernel
theorem dX6_findWays_54 : decode cX6_findWays 54 = .ok (.iaload, 1) := by decide +kernel
theorem dX6_findWays_55 : decode cX6_findWays 55 = .ok (.iadd, 1) := by decide +kernel
theorem dX6_findWays_56 : decode cX6_findWays 56 = .ok (.istore_n 2, 1) := by decide +kernel
theorem dX6_findWays_57 : decode cX6_findWays 57 = .ok (.iinc 3 1, 3) := by decide +kernel
theorem dX6_findWays_60 : decode cX6_findWays 60 = .ok (.goto (-56), 3) := by decide +kernel
theorem dX6_findWays_63 : decode cX6_findWays 63 = .ok (.aload_n 0, 1) := by decide +kernel
theorem dX6_findWays_64 : decode cX6_findWays 64 = .ok (.getfield 19, 3) := by decide +kernel
theorem dX6_findWays_67 : decode cX6_findWays 67 = .ok (.iload_n 1, 1) := by decide +kernel
theorem dX6_findWays_68 : decode cX6_findWays 68 = .ok (.iload_n 1, 1) := by decide +kernel
theorem dX6_findWays_69 : decode cX6_findWays 69 = .ok (.ifCond .ne 7, 3) := by decide +kernel
theorem dX6_findWays_72 : decode cX6_findWays 72 = .ok (.iconst 1, 1) := by decide +kernel
theorem dX6_findWays_73 : decode cX6_findWays 73 = .ok (.goto 4, 3) := by decide +kernel
theorem dX6_findWays_76 : decode cX6_findWays 76 = .ok (.iload_n 2, 1) := by decide +kernel
theorem dX6_findWays_77 : decode cX6_findWays 77 = .ok (.iastore, 1) := by decide +kernel
theorem dX6_findWays_78 : decode cX6_findWays 78 = .ok (.return_, 1) := by decide +kernel
set_option maxRecDepth 20000 in
theorem ggX6_words_X6_lays : GoodIn wsX6_words wsX6_lays := goodIn_r _ [6, 7, 8, 5, 9] (by decide +kernel) (by decide +kernel)
set_option maxRecDepth 20000 in
theorem gX6_words_X6_lays : GoodIn wsX6_words (va_wsS RX6 63 yX6_lays wsX6_lays) := goodIn_app (goodIn_of _ (by decide +kernel)) ggX6_words_X6_lays
set_option maxRecDepth 20000 in
theorem ggX6_words_X6_isSmall : GoodIn wsX6_words wsX6_isSmall := goodIn_r _ [12] (by decide +kernel) (by decide +kernel)
set_option maxRecDepth 20000 in
theorem gX6_words_X6_isSmall : GoodIn wsX6_words (va_wsS RX6 92 yX6_isSmall wsX6_isSmall) := goodIn_app (goodIn_of _ (by decide +kernel)) ggX6_words_X6_isSmall
set_option maxRecDepth 20000 in
theorem ggX6_words_X6_lengthOf : GoodIn wsX6_words wsX6_lengthOf := goodIn_r _ [15, 16, 17, 5, 18] (by decide +kernel) (by decide +kernel)
set_option maxRecDepth 20000 in
theorem gX6_words_X6_lengthOf : GoodIn wsX6_words (va_wsS RX6 70 yX6_lengthOf wsX6_lengthOf) := goodIn_app (goodIn_of _ (by decide +kernel)) ggX6_words_X6_lengthOf
set_option maxRecDepth 20000 in
theorem ggX6_words_X6_findWays : GoodIn wsX6_words wsX6_findWays := goodIn_r _ [22, 23, 2, 24, 25, 26, 5, 27, 28, 29, 30, 31, 32, 33, 34, 35, 36, 37, 16, 17, 18, 38, 39, 40, 41, 42, 43, 44, 45, 46, 47, 48, 49, 50, 51, 52, 53] (by decide +kernel) (by decide +kernel)
set_option maxRecDepth 20000 in
theorem gX6_words_X6_findWays : GoodIn wsX6_words (wsV RX6 96 RX6 yX6_findWays wsX6_findWays) := goodIn_app (goodIn_of _ (by decide +kernel)) ggX6_words_X6_findWays
set_option maxRecDepth 20000 in
theorem ggX6_words_X6_smallOf : GoodIn wsX6_words wsX6_smallOf := goodIn_r _ [37, 16, 17, 5, 18] (by decide +kernel) (by decide +kernel)
set_option maxRecDepth 20000 in
theorem gX6_words_X6_smallOf : GoodIn wsX6_words (va_wsS RX6 89 yX6_smallOf wsX6_smallOf) := goodIn_app (goodIn_of _ (by decide +kernel)) ggX6_words_X6_smallOf
theorem dX6_words_0 : decode cX6_words 0 = .ok (.iload_n 1, 1) := by decide +kernel
theorem dX6_words_1 : decode cX6_words 1 = .ok (.aload_n 0, 1) := by decide +kernel
theorem dX6_words_2 : decode cX6_words 2 = .ok (.getfield 7, 3) := by decide +kernel
theorem dX6_words_5 : decode cX6_words 5 = .ok (.invokestatic 63, 3) := by decide +kernel
theorem dX6_words_8 : decode cX6_words 8 = .ok (.ifCond .ne 6, 3) := by decide +kernel
theorem dX6_words_11 : decode cX6_words 11 = .ok (.bipush (-2), 2) := by decide +kernel
theorem dX6_words_13 : decode cX6_words 13 = .ok (.ireturn, 1) := by decide +kernel
theorem dX6_words_14 : decode cX6_words 14 = .ok (.aload_n 0, 1) := by decide +kernel
theorem dX6_words_15 : decode cX6_words 15 = .ok (.getfield 7, 3) := by decide +kernel
theorem dX6_words_18 : decode cX6_words 18 = .ok (.invokestatic 92, 3) := by decide +kernel
theorem dX6_words_21 : decode cX6_words 21 = .ok (.ifCond .ne 6, 3) := by decide +kernel
theorem dX6_words_24 : decode cX6_words 24 = .ok (.bipush (-3), 2) := by decide +kernel
theorem dX6_words_26 : decode cX6_words 26 = .ok (.ireturn, 1) := by decide +kernel
theorem dX6_words_27 : decode cX6_words 27 = .ok (.aload_n 0, 1) := by decide +kernel
theorem dX6_words_28 : decode cX6_words 28 = .ok (.getfield 7, 3) := by decide +kernel
theorem dX6_words_31 : decode cX6_words 31 = .ok (.invokestatic 70, 3) := by decide +kernel
theorem dX6_words_34 : decode cX6_words 34 = .ok (.istore_n 2, 1) := by decide +kernel
theorem dX6_words_35 : decode cX6_words 35 = .ok (.iconst 0, 1) := by decide +kernel
theorem dX6_words_36 : decode cX6_words 36 = .ok (.istore_n 3, 1) := by decide +kernel
theorem dX6_words_37 : decode cX6_words 37 = .ok (.iload_n 3, 1) := by decide +kernel
theorem dX6_words_38 : decode cX6_words 38 = .ok (.iload_n 2, 1) := by decide +kernel
theorem dX6_words_39 : decode cX6_words 39 = .ok (.if_icmp .gt 60, 3) := by decide +kernel
theorem dX6_words_42 : decode cX6_words 42 = .ok (.iconst 0, 1) := by decide +kernel
theorem dX6_words_43 : decode cX6_words 43 = .ok (.istore 4, 2) := by decide +kernel
theorem dX6_words_45 : decode cX6_words 45 = .ok (.iload 4, 2) := by decide +kernel
theorem dX6_words_47 : decode cX6_words 47 = .ok (.bipush 120, 2) := by decide +kernel
theorem dX6_words_49 : decode cX6_words 49 = .ok (.if_icmp .ge 44, 3) := by decide +kernel
theorem dX6_words_52 : decode cX6_words 52 = .ok (.iload 4, 2) := by decide +kernel
theorem dX6_words_54 : decode cX6_words 54 = .ok (.bipush 24, 2) := by decide +kernel
theorem dX6_words_56 : decode cX6_words 56 = .ok (.idiv, 1) := by decide +kernel
theorem dX6_words_57 : decode cX6_words 57 = .ok (.iload 4, 2) := by decide +kernel
theorem dX6_words_59 : decode cX6_words 59 = .ok (.bipush 6, 2) := by decide +kernel
theorem dX6_words_61 : decode cX6_words 61 = .ok (.idiv, 1) := by decide +kernel
theorem dX6_words_62 : decode cX6_words 62 = .ok (.iconst 4, 1) := by decide +kernel
theorem dX6_words_63 : decode cX6_words 63 = .ok (.irem, 1) := by decide +kernel
theorem dX6_words_64 : decode cX6_words 64 = .ok (.iadd, 1) := by decide +kernel
theorem dX6_words_65 : decode cX6_words 65 = .ok (.iload 4, 2) := by decide +kernel
theorem dX6_words_67 : decode cX6_words 67 = .ok (.iconst 2, 1) := by decide +kernel
theorem dX6_words_68 : decode cX6_words 68 = .ok (.idiv, 1) := by decide +kernel
theorem dX6_words_69 : decode cX6_words 69 = .ok (.iconst 3, 1) := by decide +kernel
theorem dX6_words_70 : decode cX6_words 70 = .ok (.irem, 1) := by decide +kernel
theorem dX6_words_71 : decode cX6_words 71 = .ok (.iadd, 1) := by decide +kernel
theorem dX6_words_72 : decode cX6_words 72 = .ok (.iload 4, 2) := by decide +kernel
theorem dX6_words_74 : decode cX6_words 74 = .ok (.iconst 2, 1) := by decide +kernel
theorem dX6_words_75 : decode cX6_words 75 = .ok (.irem, 1) := by decide +kernel
theorem dX6_words_76 : decode cX6_words 76 = .ok (.iadd, 1) := by decide +kernel
theorem dX6_words_77 : decode cX6_words 77 = .ok (.iload_n 3, 1) := by decide +kernel
theorem dX6_words_78 : decode cX6_words 78 = .ok (.if_icmp .ne 9, 3) := by decide +kernel
theorem dX6_words_81 : decode cX6_words 81 = .ok (.aload_n 0, 1) := by decide +kernel
theorem dX6_words_82 : decode cX6_words 82 = .ok (.iload 4, 2) := by decide +kernel
theorem dX6_words_84 : decode cX6_words 84 = .ok (.invokevirtual 96, 3) := by decide +kernel
theorem dX6_words_87 : decode cX6_words 87 = .ok (.iinc 4 1, 3) := by decide +kernel
theorem dX6_words_90 : decode cX6_words 90 = .ok (.goto (-45), 3) := by decide +kernel
theorem dX6_words_93 : decode cX6_words 93 = .ok (.iinc 3 1, 3) := by decide +kernel
theorem dX6_words_96 : decode cX6_words 96 = .ok (.goto (-59), 3) := by decide +kernel
theorem dX6_words_99 : decode cX6_words 99 = .ok (.aload_n 0, 1) := by decide +kernel
theorem dX6_words_100 : decode cX6_words 100 = .ok (.getfield 19, 3) := by decide +kernel
theorem dX6_words_103 : decode cX6_words 103 = .ok (.aload_n 0, 1) := by decide +kernel
theorem dX6_words_104 : decode cX6_words 104 = .ok (.getfield 7, 3) := by decide +kernel
theorem dX6_words_107 : decode cX6_words 107 = .ok (.invokestatic 89, 3) := by decide +kernel
theorem dX6_words_110 : decode cX6_words 110 = .ok (.iaload, 1) := by decide +kernel
theorem dX6_words_111 : decode cX6_words 111 = .ok (.ireturn, 1) := by decide +kernel
theorem dX6_cellOf_0 : decode cX6_cellOf 0 = .ok (.iload_n 0, 1) := by decide +kernel
theorem dX6_cellOf_1 : decode cX6_cellOf 1 = .ok (.bipush 8, 2) := by decide +kernel
theorem dX6_cellOf_3 : decode cX6_cellOf 3 = .ok (.imul, 1) := by decide +kernel
theorem dX6_cellOf_4 : decode cX6_cellOf 4 = .ok (.iload_n 1, 1) := by decide +kernel
theorem dX6_cellOf_5 : decode cX6_cellOf 5 = .ok (.iadd, 1) := by decide +kernel
theorem dX6_cellOf_6 : decode cX6_cellOf 6 = .ok (.bipush 7, 2) := by decide +kernel
theorem dX6_cellOf_8 : decode cX6_cellOf 8 = .ok (.imul, 1) := by decide +kernel
theorem dX6_cellOf_9 : decode cX6_cellOf 9 = .ok (.iload_n 2, 1) := by decide +kernel
theorem dX6_cellOf_10 : decode cX6_cellOf 10 = .ok (.iadd, 1) := by decide +kernel
theorem dX6_cellOf_11 : decode cX6_cellOf 11 = .ok (.bipush 6, 2) := by decide +kernel
theorem dX6_cellOf_13 : decode cX6_cellOf 13 = .ok (.imul, 1) := by decide +kernel
theorem dX6_cellOf_14 : decode cX6_cellOf 14 = .ok (.iload_n 3, 1) := by decide +kernel
theorem dX6_cellOf_15 : decode cX6_cellOf 15 = .ok (.iadd, 1) := by decide +kernel
theorem dX6_cellOf_16 : decode cX6_cellOf 16 = .ok (.ireturn, 1) := by decide +kernel
set_option maxRecDepth 20000 in
theorem ggX6_isCell_X6_within : GoodIn wsX6_isCell wsX6_within := goodIn_r _ [4] (by decide +kernel) (by decide +kernel)
set_option maxRecDepth 20000 in
theorem gX6_isCell_X6_within : GoodIn wsX6_isCell (va_wsS RX6 51 yX6_within wsX6_within) := goodIn_app (goodIn_of _ (by decide +kernel)) ggX6_isCell_X6_within
theorem dX6_isCell_0 : decode cX6_isCell 0 = .ok (.iload_n 0, 1) := by decide +kernel
theorem dX6_isCell_1 : decode cX6_isCell 1 = .ok (.iconst 0, 1) := by decide +kernel
theorem dX6_isCell_2 : decode cX6_isCell 2 = .ok (.bipush 8, 2) := by decide +kernel
theorem dX6_isCell_4 : decode cX6_isCell 4 = .ok (.invokestatic 51, 3) := by decide +kernel
theorem dX6_isCell_7 : decode cX6_isCell 7 = .ok (.ifCond .eq 36, 3) := by decide +kernel
theorem dX6_isCell_10 : decode cX6_isCell 10 = .ok (.iload_n 1, 1) := by decide +kernel
theorem dX6_isCell_11 : decode cX6_isCell 11 = .ok (.iconst 0, 1) := by decide +kernel
theorem dX6_isCell_12 : decode cX6_isCell 12 = .ok (.bipush 7, 2) := by decide +kernel
theorem dX6_isCell_14 : decode cX6_isCell 14 = .ok (.invokestatic 51, 3) := by decide +kernel
theorem dX6_isCell_17 : decode cX6_isCell 17 = .ok (.ifCond .eq 26, 3) := by decide +kernel
theorem dX6_isCell_20 : decode cX6_isCell 20 = .ok (.iload_n 2, 1) := by decide +kernel
theorem dX6_isCell_21 : decode cX6_isCell 21 = .ok (.iconst 0, 1) := by decide +kernel
theorem dX6_isCell_22 : decode cX6_isCell 22 = .ok (.bipush 6, 2) := by decide +kernel
theorem dX6_isCell_24 : decode cX6_isCell 24 = .ok (.invokestatic 51, 3) := by decide +kernel
theorem dX6_isCell_27 : decode cX6_isCell 27 = .ok (.ifCond .eq 16, 3) := by decide +kernel
theorem dX6_isCell_30 : decode cX6_isCell 30 = .ok (.iload_n 3, 1) := by decide +kernel
theorem dX6_isCell_31 : decode cX6_isCell 31 = .ok (.iconst 0, 1) := by decide +kernel
theorem dX6_isCell_32 : decode cX6_isCell 32 = .ok (.iconst 5, 1) := by decide +kernel
theorem dX6_isCell_33 : decode cX6_isCell 33 = .ok (.invokestatic 51, 3) := by decide +kernel
theorem dX6_isCell_36 : decode cX6_isCell 36 = .ok (.ifCond .eq 7, 3) := by decide +kernel
theorem dX6_isCell_39 : decode cX6_isCell 39 = .ok (.iconst 1, 1) := by decide +kernel
theorem dX6_isCell_40 : decode cX6_isCell 40 = .ok (.goto 4, 3) := by decide +kernel
theorem dX6_isCell_43 : decode cX6_isCell 43 = .ok (.iconst 0, 1) := by decide +kernel
theorem dX6_isCell_44 : decode cX6_isCell 44 = .ok (.ireturn, 1) := by decide +kernel
theorem dX6_exponentAt_0 : decode cX6_exponentAt 0 = .ok (.iload_n 1, 1) := by decide +kernel
theorem dX6_exponentAt_1 : decode cX6_exponentAt 1 = .ok (.iconst 1, 1) := by decide +kernel
theorem dX6_exponentAt_2 : decode cX6_exponentAt 2 = .ok (.if_icmp .ne 11, 3) := by decide +kernel
theorem dX6_exponentAt_5 : decode cX6_exponentAt 5 = .ok (.iload_n 0, 1) := by decide +kernel
theorem dX6_exponentAt_6 : decode cX6_exponentAt 6 = .ok (.sipush 336, 3) := by decide +kernel
theorem dX6_exponentAt_9 : decode cX6_exponentAt 9 = .ok (.idiv, 1) := by decide +kernel
theorem dX6_exponentAt_10 : decode cX6_exponentAt 10 = .ok (.goto 37, 3) := by decide +kernel
theorem dX6_exponentAt_13 : decode cX6_exponentAt 13 = .ok (.iload_n 1, 1) := by decide +kernel
theorem dX6_exponentAt_14 : decode cX6_exponentAt 14 = .ok (.iconst 2, 1) := by decide +kernel
theorem dX6_exponentAt_15 : decode cX6_exponentAt 15 = .ok (.if_icmp .ne 13, 3) := by decide +kernel
theorem dX6_exponentAt_18 : decode cX6_exponentAt 18 = .ok (.iload_n 0, 1) := by decide +kernel
theorem dX6_exponentAt_19 : decode cX6_exponentAt 19 = .ok (.bipush 42, 2) := by decide +kernel
theorem dX6_exponentAt_21 : decode cX6_exponentAt 21 = .ok (.idiv, 1) := by decide +kernel
theorem dX6_exponentAt_22 : decode cX6_exponentAt 22 = .ok (.bipush 8, 2) := by decide +kernel
theorem dX6_exponentAt_24 : decode cX6_exponentAt 24 = .ok (.irem, 1) := by decide +kernel
theorem dX6_exponentAt_25 : decode cX6_exponentAt 25 = .ok (.goto 22, 3) := by decide +kernel
theorem dX6_exponentAt_28 : decode cX6_exponentAt 28 = .ok (.iload_n 1, 1) := by decide +kernel
theorem dX6_exponentAt_29 : decode cX6_exponentAt 29 = .ok (.iconst 3, 1) := by decide +kernel
theorem dX6_exponentAt_30 : decode cX6_exponentAt 30 = .ok (.if_icmp .ne 13, 3) := by decide +kernel
theorem dX6_exponentAt_33 : decode cX6_exponentAt 33 = .ok (.iload_n 0, 1) := by decide +kernel
theorem dX6_exponentAt_34 : decode cX6_exponentAt 34 = .ok (.bipush 6, 2) := by decide +kernel
theorem dX6_exponentAt_36 : decode cX6_exponentAt 36 = .ok (.idiv, 1) := by decide +kernel
theorem dX6_exponentAt_37 : decode cX6_exponentAt 37 = .ok (.bipush 7, 2) := by decide +kernel
theorem dX6_exponentAt_39 : decode cX6_exponentAt 39 = .ok (.irem, 1) := by decide +kernel
theorem dX6_exponentAt_40 : decode cX6_exponentAt 40 = .ok (.goto 7, 3) := by decide +kernel
theorem dX6_exponentAt_43 : decode cX6_exponentAt 43 = .ok (.iload_n 0, 1) := by decide +kernel
theorem dX6_exponentAt_44 : decode cX6_exponentAt 44 = .ok (.bipush 6, 2) := by decide +kernel
theorem dX6_exponentAt_46 : decode cX6_exponentAt 46 = .ok (.irem, 1) := by decide +kernel
theorem dX6_exponentAt_47 : decode cX6_exponentAt 47 = .ok (.ireturn, 1) := by decide +kernel
theorem dX6_strideOf_0 : decode cX6_strideOf 0 = .ok (.iload_n 0, 1) := by decide +kernel
theorem dX6_strideOf_1 : decode cX6_strideOf 1 = .ok (.iconst 1, 1) := by decide +kernel
theorem dX6_strideOf_2 : decode cX6_strideOf 2 = .ok (.if_icmp .ne 9, 3) := by decide +kernel
theorem dX6_strideOf_5 : decode cX6_strideOf 5 = .ok (.sipush 336, 3) := by decide +kernel
theorem dX6_strideOf_8 : decode cX6_strideOf 8 = .ok (.goto 24, 3) := by decide +kernel
theorem dX6_strideOf_11 : decode cX6_strideOf 11 = .ok (.iload_n 0, 1) := by decide +kernel
theorem dX6_strideOf_12 : decode cX6_strideOf 12 = .ok (.iconst 2, 1) := by decide +kernel
theorem dX6_strideOf_13 : decode cX6_strideOf 13 = .ok (.if_icmp .ne 8, 3) := by decide +kernel
theorem dX6_strideOf_16 : decode cX6_strideOf 16 = .ok (.bipush 42, 2) := by decide +kernel
theorem dX6_strideOf_18 : decode cX6_strideOf 18 = .ok (.goto 14, 3) := by decide +kernel
theorem dX6_strideOf_21 : decode cX6_strideOf 21 = .ok (.iload_n 0, 1) := by decide +kernel
theorem dX6_strideOf_22 : decode cX6_strideOf 22 = .ok (.iconst 3, 1) := by decide +kernel
theorem dX6_strideOf_23 : decode cX6_strideOf 23 = .ok (.if_icmp .ne 8, 3) := by decide +kernel
theorem dX6_strideOf_26 : decode cX6_strideOf 26 = .ok (.bipush 6, 2) := by decide +kernel
theorem dX6_strideOf_28 : decode cX6_strideOf 28 = .ok (.goto 4, 3) := by decide +kernel
theorem dX6_strideOf_31 : decode cX6_strideOf 31 = .ok (.iconst 1, 1) := by decide +kernel
theorem dX6_strideOf_32 : decode cX6_strideOf 32 = .ok (.ireturn, 1) := by decide +kernel
set_option maxRecDepth 20000 in
theorem ggX6_differs_X6_strideOf : GoodIn wsX6_differs wsX6_strideOf := goodIn_r _ [5] (by decide +kernel) (by decide +kernel)
set_option maxRecDepth 20000 in
theorem gX6_differs_X6_strideOf : GoodIn wsX6_differs (va_wsS RX6 99 yX6_strideOf wsX6_strideOf) := goodIn_app (goodIn_of _ (by decide +kernel)) ggX6_differs_X6_strideOf
set_option maxRecDepth 20000 in
theorem ggX6_differs_X6_exponentAt : GoodIn wsX6_differs wsX6_exponentAt := goodIn_r _ [8] (by decide +kernel) (by decide +kernel)
set_option maxRecDepth 20000 in
theorem gX6_differs_X6_exponentAt : GoodIn wsX6_differs (va_wsS RX6 103 yX6_exponentAt wsX6_exponentAt) := goodIn_app (goodIn_of _ (by decide +kernel)) ggX6_differs_X6_exponentAt
theorem dX6_differs_0 : decode cX6_differs 0 = .ok (.iconst 0, 1) := by decide +kernel
theorem dX6_differs_1 : decode cX6_differs 1 = .ok (.istore_n 3, 1) := by decide +kernel
theorem dX6_differs_2 : decode cX6_differs 2 = .ok (.iload_n 3, 1) := by decide +kernel
theorem dX6_differs_3 : decode cX6_differs 3 = .ok (.sipush 3024, 3) := by decide +kernel
theorem dX6_differs_6 : decode cX6_differs 6 = .ok (.if_icmp .ge 16, 3) := by decide +kernel
theorem dX6_differs_9 : decode cX6_differs 9 = .ok (.aload_n 0, 1) := by decide +kernel
theorem dX6_differs_10 : decode cX6_differs 10 = .ok (.getfield 26, 3) := by decide +kernel
theorem dX6_differs_13 : decode cX6_differs 13 = .ok (.iload_n 3, 1) := by decide +kernel
theorem dX6_differs_14 : decode cX6_differs 14 = .ok (.lconst 0, 1) := by decide +kernel
theorem dX6_differs_15 : decode cX6_differs 15 = .ok (.lastore, 1) := by decide +kernel
theorem dX6_differs_16 : decode cX6_differs 16 = .ok (.iinc 3 1, 3) := by decide +kernel
theorem dX6_differs_19 : decode cX6_differs 19 = .ok (.goto (-17), 3) := by decide +kernel
theorem dX6_differs_22 : decode cX6_differs 22 = .ok (.iload_n 2, 1) := by decide +kernel
theorem dX6_differs_23 : decode cX6_differs 23 = .ok (.invokestatic 99, 3) := by decide +kernel
theorem dX6_differs_26 : decode cX6_differs 26 = .ok (.istore_n 3, 1) := by decide +kernel
theorem dX6_differs_27 : decode cX6_differs 27 = .ok (.iload_n 2, 1) := by decide +kernel
theorem dX6_differs_28 : decode cX6_differs 28 = .ok (.iconst 1, 1) := by decide +kernel
theorem dX6_differs_29 : decode cX6_differs 29 = .ok (.iadd, 1) := by decide +kernel
theorem dX6_differs_30 : decode cX6_differs 30 = .ok (.invokestatic 99, 3) := by decide +kernel
theorem dX6_differs_33 : decode cX6_differs 33 = .ok (.istore 4, 2) := by decide +kernel
theorem dX6_differs_35 : decode cX6_differs 35 = .ok (.iconst 0, 1) := by decide +kernel
theorem dX6_differs_36 : decode cX6_differs 36 = .ok (.istore 5, 2) := by decide +kernel
theorem dX6_differs_38 : decode cX6_differs 38 = .ok (.iload 5, 2) := by decide +kernel
theorem dX6_differs_40 : decode cX6_differs 40 = .ok (.sipush 3024, 3) := by decide +kernel
theorem dX6_differs_43 : decode cX6_differs 43 = .ok (.if_icmp .ge 148, 3) := by decide +kernel
theorem dX6_differs_46 : decode cX6_differs 46 = .ok (.aload_n 1, 1) := by decide +kernel
theorem dX6_differs_47 : decode cX6_differs 47 = .ok (.iload 5, 2) := by decide +kernel
theorem dX6_differs_49 : decode cX6_differs 49 = .ok (.laload, 1) := by decide +kernel
theorem dX6_differs_50 : decode cX6_differs 50 = .ok (.lconst 0, 1) := by decide +kernel
theorem dX6_differs_51 : decode cX6_differs 51 = .ok (.lcmp, 1) := by decide +kernel
theorem dX6_differs_52 : decode cX6_differs 52 = .ok (.ifCond .eq 133, 3) := by decide +kernel
theorem dX6_differs_55 : decode cX6_differs 55 = .ok (.iload 5, 2) := by decide +kernel
theorem dX6_differs_57 : decode cX6_differs 57 = .ok (.iload_n 2, 1) := by decide +kernel
theorem dX6_differs_58 : decode cX6_differs 58 = .ok (.invokestatic 103, 3) := by decide +kernel
theorem dX6_differs_61 : decode cX6_differs 61 = .ok (.istore 6, 2) := by decide +kernel
theorem dX6_differs_63 : decode cX6_differs 63 = .ok (.iload 5, 2) := by decide +kernel
theorem dX6_differs_65 : decode cX6_differs 65 = .ok (.iload_n 2, 1) := by decide +kernel
theorem dX6_differs_66 : decode cX6_differs 66 = .ok (.iconst 1, 1) := by decide +kernel
theorem dX6_differs_67 : decode cX6_differs 67 = .ok (.iadd, 1) := by decide +kernel
theorem dX6_differs_68 : decode cX6_differs 68 = .ok (.invokestatic 103, 3) := by decide +kernel
theorem dX6_differs_71 : decode cX6_differs 71 = .ok (.istore 7, 2) := by decide +kernel
theorem dX6_differs_73 : decode cX6_differs 73 = .ok (.iload 6, 2) := by decide +kernel
theorem dX6_differs_75 : decode cX6_differs 75 = .ok (.iload 7, 2) := by decide +kernel
theorem dX6_differs_77 : decode cX6_differs 77 = .ok (.if_icmp .ge 8, 3) := by decide +kernel
theorem dX6_differs_80 : decode cX6_differs 80 = .ok (.iload 6, 2) := by decide +kernel
theorem dX6_differs_82 : decode cX6_differs 82 = .ok (.goto 5, 3) := by decide +kernel
theorem dX6_differs_85 : decode cX6_differs 85 = .ok (.iload 7, 2) := by decide +kernel
theorem dX6_differs_87 : decode cX6_differs 87 = .ok (.istore 8, 2) := by decide +kernel
theorem dX6_differs_89 : decode cX6_differs 89 = .ok (.iload 6, 2) := by decide +kernel
theorem dX6_differs_91 : decode cX6_differs 91 = .ok (.iload 7, 2) := by decide +kernel
theorem dX6_differs_93 : decode cX6_differs 93 = .ok (.if_icmp .ge 8, 3) := by decide +kernel
theorem dX6_differs_96 : decode cX6_differs 96 = .ok (.iload 7, 2) := by decide +kernel
theorem dX6_differs_98 : decode cX6_differs 98 = .ok (.goto 5, 3) := by decide +kernel
theorem dX6_differs_101 : decode cX6_differs 101 = .ok (.iload 6, 2) := by decide +kernel
theorem dX6_differs_103 : decode cX6_differs 103 = .ok (.istore 9, 2) := by decide +kernel
theorem dX6_differs_105 : decode cX6_differs 105 = .ok (.iload 5, 2) := by decide +kernel
theorem dX6_differs_107 : decode cX6_differs 107 = .ok (.iload 6, 2) := by decide +kernel
theorem dX6_differs_109 : decode cX6_differs 109 = .ok (.iload_n 3, 1) := by decide +kernel
theorem dX6_differs_110 : decode cX6_differs 110 = .ok (.imul, 1) := by decide +kernel
theorem dX6_differs_111 : decode cX6_differs 111 = .ok (.isub, 1) := by decide +kernel
theorem dX6_differs_112 : decode cX6_differs 112 = .ok (.iload 7, 2) := by decide +kernel
theorem dX6_differs_114 : decode cX6_differs 114 = .ok (.iload 4, 2) := by decide +kernel
theorem dX6_differs_116 : decode cX6_differs 116 = .ok (.imul, 1) := by decide +kernel
theorem dX6_differs_117 : decode cX6_differs 117 = .ok (.isub, 1) := by decide +kernel
theorem dX6_differs_118 : decode cX6_differs 118 = .ok (.istore 10, 2) := by decide +kernel
theorem dX6_differs_120 : decode cX6_differs 120 = .ok (.iload 8, 2) := by decide +kernel
theorem dX6_differs_122 : decode cX6_differs 122 = .ok (.istore 11, 2) := by decide +kernel
theorem dX6_differs_124 : decode cX6_differs 124 = .ok (.iload 11, 2) := by decide +kernel
theorem dX6_differs_126 : decode cX6_differs 126 = .ok (.iload 9, 2) := by decide +kernel
theorem dX6_differs_128 : decode cX6_differs 128 = .ok (.if_icmp .ge 57, 3) := by decide +kernel
theorem dX6_differs_131 : decode cX6_differs 131 = .ok (.aload_n 0, 1) := by decide +kernel
theorem dX6_differs_132 : decode cX6_differs 132 = .ok (.getfield 26, 3) := by decide +kernel
theorem dX6_differs_135 : decode cX6_differs 135 = .ok (.iload 10, 2) := by decide +kernel
theorem dX6_differs_137 : decode cX6_differs 137 = .ok (.iload 11, 2) := by decide +kernel
theorem dX6_differs_139 : decode cX6_differs 139 = .ok (.iload_n 3, 1) := by decide +kernel
theorem dX6_differs_140 : decode cX6_differs 140 = .ok (.imul, 1) := by decide +kernel
theorem dX6_differs_141 : decode cX6_differs 141 = .ok (.iadd, 1) := by decide +kernel
theorem dX6_differs_142 : decode cX6_differs 142 = .ok (.iload 9, 2) := by decide +kernel
theorem dX6_differs_144 : decode cX6_differs 144 = .ok (.iload 8, 2) := by decide +kernel
theorem dX6_differs_146 : decode cX6_differs 146 = .ok (.iadd, 1) := by decide +kernel
theorem dX6_differs_147 : decode cX6_differs 147 = .ok (.iconst 1, 1) := by decide +kernel
theorem dX6_differs_148 : decode cX6_differs 148 = .ok (.isub, 1) := by decide +kernel
theorem dX6_differs_149 : decode cX6_differs 149 = .ok (.iload 11, 2) := by decide +kernel
theorem dX6_differs_151 : decode cX6_differs 151 = .ok (.isub, 1) := by decide +kernel
theorem dX6_differs_152 : decode cX6_differs 152 = .ok (.iload 4, 2) := by decide +kernel
theorem dX6_differs_154 : decode cX6_differs 154 = .ok (.imul, 1) := by decide +kernel
theorem dX6_differs_155 : decode cX6_differs 155 = .ok (.iadd, 1) := by decide +kernel
theorem dX6_differs_156 : decode cX6_differs 156 = .ok (.dup2, 1) := by decide +kernel
theorem dX6_differs_157 : decode cX6_differs 157 = .ok (.laload, 1) := by decide +kernel
theorem dX6_differs_158 : decode cX6_differs 158 = .ok (.iload 6, 2) := by decide +kernel
theorem dX6_differs_160 : decode cX6_differs 160 = .ok (.iload 7, 2) := by decide +kernel
theorem dX6_differs_162 : decode cX6_differs 162 = .ok (.if_icmp .le 10, 3) := by decide +kernel
theorem dX6_differs_165 : decode cX6_differs 165 = .ok (.aload_n 1, 1) := by decide +kernel
theorem dX6_differs_166 : decode cX6_differs 166 = .ok (.iload 5, 2) := by decide +kernel
theorem dX6_differs_168 : decode cX6_differs 168 = .ok (.laload, 1) := by decide +kernel
theorem dX6_differs_169 : decode cX6_differs 169 = .ok (.goto 8, 3) := by decide +kernel
theorem dX6_differs_172 : decode cX6_differs 172 = .ok (.aload_n 1, 1) := by decide +kernel
theorem dX6_differs_173 : decode cX6_differs 173 = .ok (.iload 5, 2) := by decide +kernel
theorem dX6_differs_175 : decode cX6_differs 175 = .ok (.laload, 1) := by decide +kernel
theorem dX6_differs_176 : decode cX6_differs 176 = .ok (.lneg, 1) := by decide +kernel
theorem dX6_differs_177 : decode cX6_differs 177 = .ok (.ladd, 1) := by decide +kernel
theorem dX6_differs_178 : decode cX6_differs 178 = .ok (.lastore, 1) := by decide +kernel
theorem dX6_differs_179 : decode cX6_differs 179 = .ok (.iinc 11 1, 3) := by decide +kernel
theorem dX6_differs_182 : decode cX6_differs 182 = .ok (.goto (-58), 3) := by decide +kernel
theorem dX6_differs_185 : decode cX6_differs 185 = .ok (.iinc 5 1, 3) := by decide +kernel
theorem dX6_differs_188 : decode cX6_differs 188 = .ok (.goto (-150), 3) := by decide +kernel
theorem dX6_differs_191 : decode cX6_differs 191 = .ok (.iconst 0, 1) := by decide +kernel
theorem dX6_differs_192 : decode cX6_differs 192 = .ok (.istore 5, 2) := by decide +kernel
theorem dX6_differs_194 : decode cX6_differs 194 = .ok (.iload 5, 2) := by decide +kernel
theorem dX6_differs_196 : decode cX6_differs 196 = .ok (.sipush 3024, 3) := by decide +kernel
theorem dX6_differs_199 : decode cX6_differs 199 = .ok (.if_icmp .ge 20, 3) := by decide +kernel
theorem dX6_differs_202 : decode cX6_differs 202 = .ok (.aload_n 1, 1) := by decide +kernel
theorem dX6_differs_203 : decode cX6_differs 203 = .ok (.iload 5, 2) := by decide +kernel
theorem dX6_differs_205 : decode cX6_differs 205 = .ok (.aload_n 0, 1) := by decide +kernel
theorem dX6_differs_206 : decode cX6_differs 206 = .ok (.getfield 26, 3) := by decide +kernel
theorem dX6_differs_209 : decode cX6_differs 209 = .ok (.iload 5, 2) := by decide +kernel
theorem dX6_differs_211 : decode cX6_differs 211 = .ok (.laload, 1) := by decide +kernel
theorem dX6_differs_212 : decode cX6_differs 212 = .ok (.lastore, 1) := by decide +kernel
theorem dX6_differs_213 : decode cX6_differs 213 = .ok (.iinc 5 1, 3) := by decide +kernel
theorem dX6_differs_216 : decode cX6_differs 216 = .ok (.goto (-22), 3) := by decide +kernel
theorem dX6_differs_219 : decode cX6_differs 219 = .ok (.return_, 1) := by decide +kernel
set_option maxRecDepth 20000 in
theorem ggX6_findS_X6_codeAt : GoodIn wsX6_findS wsX6_codeAt := goodIn_r _ [6] (by decide +kernel) (by decide +kernel)
set_option maxRecDepth 20000 in
theorem gX6_findS_X6_codeAt : GoodIn wsX6_findS (va_wsS RX6 55 yX6_codeAt wsX6_codeAt) := goodIn_app (goodIn_of _ (by decide +kernel)) ggX6_findS_X6_codeAt
set_option maxRecDepth 20000 in
theorem ggX6_findS_X6_exchange : GoodIn wsX6_findS wsX6_exchange := goodIn_r _ [9] (by decide +kernel) (by decide +kernel)
set_option maxRecDepth 20000 in
theorem gX6_findS_X6_exchange : GoodIn wsX6_findS (va_wsS RX6 85 yX6_exchange wsX6_exchange) := goodIn_app (goodIn_of _ (by decide +kernel)) ggX6_findS_X6_exchange
set_option maxRecDepth 20000 in
theorem ggX6_findS_X6_cellOf : GoodIn wsX6_findS wsX6_cellOf := goodIn_r _ [12] (by decide +kernel) (by decide +kernel)
set_option maxRecDepth 20000 in
theorem gX6_findS_X6_cellOf : GoodIn wsX6_findS (va_wsS RX6 107 yX6_cellOf wsX6_cellOf) := goodIn_app (goodIn_of _ (by decide +kernel)) ggX6_findS_X6_cellOf
set_option maxRecDepth 20000 in
theorem ggX6_findS_X6_differs : GoodIn wsX6_findS wsX6_differs := goodIn_r _ [16, 17, 18, 19, 5, 20, 21, 22, 23, 24, 25, 26, 27, 28, 29, 30, 31, 32, 33, 34, 35, 36, 37, 38, 39] (by decide +kernel) (by decide +kernel)
set_option maxRecDepth 20000 in
theorem gX6_findS_X6_differs : GoodIn wsX6_findS (wsV RX6 111 RX6 yX6_differs wsX6_differs) := goodIn_app (goodIn_of _ (by decide +kernel)) ggX6_findS_X6_differs
theorem dX6_findS_0 : decode cX6_findS 0 = .ok (.iconst 0, 1) := by decide +kernel
theorem dX6_findS_1 : decode cX6_findS 1 = .ok (.istore_n 2, 1) := by decide +kernel
theorem dX6_findS_2 : decode cX6_findS 2 = .ok (.iconst 1, 1) := by decide +kernel
theorem dX6_findS_3 : decode cX6_findS 3 = .ok (.istore_n 3, 1) := by decide +kernel
theorem dX6_findS_4 : decode cX6_findS 4 = .ok (.iload_n 3, 1) := by decide +kernel
theorem dX6_findS_5 : decode cX6_findS 5 = .ok (.iconst 4, 1) := by decide +kernel
theorem dX6_findS_6 : decode cX6_findS 6 = .ok (.if_icmp .ge 47, 3) := by decide +kernel
theorem dX6_findS_9 : decode cX6_findS 9 = .ok (.aload_n 1, 1) := by decide +kernel
theorem dX6_findS_10 : decode cX6_findS 10 = .ok (.iload_n 3, 1) := by decide +kernel
theorem dX6_findS_11 : decode cX6_findS 11 = .ok (.invokestatic 55, 3) := by decide +kernel
theorem dX6_findS_14 : decode cX6_findS 14 = .ok (.aload_n 1, 1) := by decide +kernel
theorem dX6_findS_15 : decode cX6_findS 15 = .ok (.iload_n 3, 1) := by decide +kernel
theorem dX6_findS_16 : decode cX6_findS 16 = .ok (.iconst 1, 1) := by decide +kernel
theorem dX6_findS_17 : decode cX6_findS 17 = .ok (.iadd, 1) := by decide +kernel
theorem dX6_findS_18 : decode cX6_findS 18 = .ok (.invokestatic 55, 3) := by decide +kernel
theorem dX6_findS_21 : decode cX6_findS 21 = .ok (.if_icmp .ge 26, 3) := by decide +kernel
theorem dX6_findS_24 : decode cX6_findS 24 = .ok (.aload_n 1, 1) := by decide +kernel
theorem dX6_findS_25 : decode cX6_findS 25 = .ok (.iload_n 3, 1) := by decide +kernel
theorem dX6_findS_26 : decode cX6_findS 26 = .ok (.iload_n 3, 1) := by decide +kernel
theorem dX6_findS_27 : decode cX6_findS 27 = .ok (.iconst 1, 1) := by decide +kernel
theorem dX6_findS_28 : decode cX6_findS 28 = .ok (.iadd, 1) := by decide +kernel
theorem dX6_findS_29 : decode cX6_findS 29 = .ok (.invokestatic 85, 3) := by decide +kernel
theorem dX6_findS_32 : decode cX6_findS 32 = .ok (.aload_n 0, 1) := by decide +kernel
theorem dX6_findS_33 : decode cX6_findS 33 = .ok (.getfield 29, 3) := by decide +kernel
theorem dX6_findS_36 : decode cX6_findS 36 = .ok (.iload_n 2, 1) := by decide +kernel
theorem dX6_findS_37 : decode cX6_findS 37 = .ok (.iload_n 3, 1) := by decide +kernel
theorem dX6_findS_38 : decode cX6_findS 38 = .ok (.iastore, 1) := by decide +kernel
theorem dX6_findS_39 : decode cX6_findS 39 = .ok (.iinc 2 1, 3) := by decide +kernel
theorem dX6_findS_42 : decode cX6_findS 42 = .ok (.iconst 1, 1) := by decide +kernel
theorem dX6_findS_43 : decode cX6_findS 43 = .ok (.istore_n 3, 1) := by decide +kernel
theorem dX6_findS_44 : decode cX6_findS 44 = .ok (.goto (-40), 3) := by decide +kernel
theorem dX6_findS_47 : decode cX6_findS 47 = .ok (.iinc 3 1, 3) := by decide +kernel
theorem dX6_findS_50 : decode cX6_findS 50 = .ok (.goto (-46), 3) := by decide +kernel
theorem dX6_findS_53 : decode cX6_findS 53 = .ok (.iconst 0, 1) := by decide +kernel
theorem dX6_findS_54 : decode cX6_findS 54 = .ok (.istore 4, 2) := by decide +kernel
theorem dX6_findS_56 : decode cX6_findS 56 = .ok (.iload 4, 2) := by decide +kernel
theorem dX6_findS_58 : decode cX6_findS 58 = .ok (.sipush 3024, 3) := by decide +kernel
theorem dX6_findS_61 : decode cX6_findS 61 = .ok (.if_icmp .ge 17, 3) := by decide +kernel
theorem dX6_findS_64 : decode cX6_findS 64 = .ok (.aload_n 0, 1) := by decide +kernel
theorem dX6_findS_65 : decode cX6_findS 65 = .ok (.getfield 22, 3) := by decide +kernel
theorem dX6_findS_68 : decode cX6_findS 68 = .ok (.iload 4, 2) := by decide +kernel
theorem dX6_findS_70 : decode cX6_findS 70 = .ok (.lconst 0, 1) := by decide +kernel
theorem dX6_findS_71 : decode cX6_findS 71 = .ok (.lastore, 1) := by decide +kernel
theorem dX6_findS_72 : decode cX6_findS 72 = .ok (.iinc 4 1, 3) := by decide +kernel
theorem dX6_findS_75 : decode cX6_findS 75 = .ok (.goto (-19), 3) := by decide +kernel
theorem dX6_findS_78 : decode cX6_findS 78 = .ok (.aload_n 0, 1) := by decide +kernel
theorem dX6_findS_79 : decode cX6_findS 79 = .ok (.getfield 22, 3) := by decide +kernel
theorem dX6_findS_82 : decode cX6_findS 82 = .ok (.aload_n 1, 1) := by decide +kernel
theorem dX6_findS_83 : decode cX6_findS 83 = .ok (.iconst 1, 1) := by decide +kernel
theorem dX6_findS_84 : decode cX6_findS 84 = .ok (.invokestatic 55, 3) := by decide +kernel
theorem dX6_findS_87 : decode cX6_findS 87 = .ok (.aload_n 1, 1) := by decide +kernel
theorem dX6_findS_88 : decode cX6_findS 88 = .ok (.iconst 2, 1) := by decide +kernel
theorem dX6_findS_89 : decode cX6_findS 89 = .ok (.invokestatic 55, 3) := by decide +kernel
theorem dX6_findS_92 : decode cX6_findS 92 = .ok (.aload_n 1, 1) := by decide +kernel
theorem dX6_findS_93 : decode cX6_findS 93 = .ok (.iconst 3, 1) := by decide +kernel
theorem dX6_findS_94 : decode cX6_findS 94 = .ok (.invokestatic 55, 3) := by decide +kernel
theorem dX6_findS_97 : decode cX6_findS 97 = .ok (.aload_n 1, 1) := by decide +kernel
theorem dX6_findS_98 : decode cX6_findS 98 = .ok (.iconst 4, 1) := by decide +kernel
theorem dX6_findS_99 : decode cX6_findS 99 = .ok (.invokestatic 55, 3) := by decide +kernel
theorem dX6_findS_102 : decode cX6_findS 102 = .ok (.invokestatic 107, 3) := by decide +kernel
theorem dX6_findS_105 : decode cX6_findS 105 = .ok (.lconst 1, 1) := by decide +kernel
theorem dX6_findS_106 : decode cX6_findS 106 = .ok (.lastore, 1) := by decide +kernel
theorem dX6_findS_107 : decode cX6_findS 107 = .ok (.iload_n 2, 1) := by decide +kernel
theorem dX6_findS_108 : decode cX6_findS 108 = .ok (.iconst 1, 1) := by decide +kernel
theorem dX6_findS_109 : decode cX6_findS 109 = .ok (.isub, 1) := by decide +kernel
theorem dX6_findS_110 : decode cX6_findS 110 = .ok (.istore 4, 2) := by decide +kernel
theorem dX6_findS_112 : decode cX6_findS 112 = .ok (.iload 4, 2) := by decide +kernel
theorem dX6_findS_114 : decode cX6_findS 114 = .ok (.ifCond .lt 24, 3) := by decide +kernel
theorem dX6_findS_117 : decode cX6_findS 117 = .ok (.aload_n 0, 1) := by decide +kernel
theorem dX6_findS_118 : decode cX6_findS 118 = .ok (.aload_n 0, 1) := by decide +kernel
theorem dX6_findS_119 : decode cX6_findS 119 = .ok (.getfield 22, 3) := by decide +kernel
theorem dX6_findS_122 : decode cX6_findS 122 = .ok (.aload_n 0, 1) := by decide +kernel
theorem dX6_findS_123 : decode cX6_findS 123 = .ok (.getfield 29, 3) := by decide +kernel
theorem dX6_findS_126 : decode cX6_findS 126 = .ok (.iload 4, 2) := by decide +kernel
theorem dX6_findS_128 : decode cX6_findS 128 = .ok (.iaload, 1) := by decide +kernel
theorem dX6_findS_129 : decode cX6_findS 129 = .ok (.invokevirtual 111, 3) := by decide +kernel
theorem dX6_findS_132 : decode cX6_findS 132 = .ok (.iinc 4 (-1), 3) := by decide +kernel
theorem dX6_findS_135 : decode cX6_findS 135 = .ok (.goto (-23), 3) := by decide +kernel
theorem dX6_findS_138 : decode cX6_findS 138 = .ok (.return_, 1) := by decide +kernel
theorem dX6_termsOf_0 : decode cX6_termsOf 0 = .ok (.iconst 0, 1) := by decide +kernel
theorem dX6_termsOf_1 : decode cX6_termsOf 1 = .ok (.istore_n 1, 1) := by decide +kernel
theorem dX6_termsOf_2 : decode cX6_termsOf 2 = .ok (.iconst 0, 1) := by decide +kernel
theorem dX6_termsOf_3 : decode cX6_termsOf 3 = .ok (.istore_n 2, 1) := by decide +kernel
theorem dX6_termsOf_4 : decode cX6_termsOf 4 = .ok (.iload_n 2, 1) := by decide +kernel
theorem dX6_termsOf_5 : decode cX6_termsOf 5 = .ok (.sipush 3024, 3) := by decide +kernel
theorem dX6_termsOf_8 : decode cX6_termsOf 8 = .ok (.if_icmp .ge 25, 3) := by decide +kernel
theorem dX6_termsOf_11 : decode cX6_termsOf 11 = .ok (.iload_n 1, 1) := by decide +kernel
theorem dX6_termsOf_12 : decode cX6_termsOf 12 = .ok (.aload_n 0, 1) := by decide +kernel
theorem dX6_termsOf_13 : decode cX6_termsOf 13 = .ok (.iload_n 2, 1) := by decide +kernel
theorem dX6_termsOf_14 : decode cX6_termsOf 14 = .ok (.laload, 1) := by decide +kernel
theorem dX6_termsOf_15 : decode cX6_termsOf 15 = .ok (.lconst 0, 1) := by decide +kernel
theorem dX6_termsOf_16 : decode cX6_termsOf 16 = .ok (.lcmp, 1) := by decide +kernel
theorem dX6_termsOf_17 : decode cX6_termsOf 17 = .ok (.ifCond .eq 7, 3) := by decide +kernel
theorem dX6_termsOf_20 : decode cX6_termsOf 20 = .ok (.iconst 1, 1) := by decide +kernel
theorem dX6_termsOf_21 : decode cX6_termsOf 21 = .ok (.goto 4, 3) := by decide +kernel
theorem dX6_termsOf_24 : decode cX6_termsOf 24 = .ok (.iconst 0, 1) := by decide +kernel
theorem dX6_termsOf_25 : decode cX6_termsOf 25 = .ok (.iadd, 1) := by decide +kernel
theorem dX6_termsOf_26 : decode cX6_termsOf 26 = .ok (.istore_n 1, 1) := by decide +kernel
theorem dX6_termsOf_27 : decode cX6_termsOf 27 = .ok (.iinc 2 1, 3) := by decide +kernel
theorem dX6_termsOf_30 : decode cX6_termsOf 30 = .ok (.goto (-26), 3) := by decide +kernel
theorem dX6_termsOf_33 : decode cX6_termsOf 33 = .ok (.iload_n 1, 1) := by decide +kernel
theorem dX6_termsOf_34 : decode cX6_termsOf 34 = .ok (.ireturn, 1) := by decide +kernel
set_option maxRecDepth 20000 in
theorem ggX6_number_X6_lays : GoodIn wsX6_number wsX6_lays := goodIn_r _ [6, 7, 8, 5, 9] (by decide +kernel) (by decide +kernel)
set_option maxRecDepth 20000 in
theorem gX6_number_X6_lays : GoodIn wsX6_number (va_wsS RX6 63 yX6_lays wsX6_lays) := goodIn_app (goodIn_of _ (by decide +kernel)) ggX6_number_X6_lays
set_option maxRecDepth 20000 in
theorem ggX6_number_X6_isFit : GoodIn wsX6_number wsX6_isFit := goodIn_r _ [12, 13, 14, 5, 15] (by decide +kernel) (by decide +kernel)
set_option maxRecDepth 20000 in
theorem gX6_number_X6_isFit : GoodIn wsX6_number (va_wsS RX6 115 yX6_isFit wsX6_isFit) := goodIn_app (goodIn_of _ (by decide +kernel)) ggX6_number_X6_isFit
set_option maxRecDepth 20000 in
theorem ggX6_number_X6_findS : GoodIn wsX6_number wsX6_findS := goodIn_r _ [19, 20, 2, 21, 22, 5, 23, 24, 25, 26, 27, 28, 29, 30, 31, 32, 33, 34, 35, 36, 37, 38, 39, 40, 44, 45, 46, 47, 48, 49, 50, 51, 52, 53, 54, 55, 56, 57, 58, 59] (by decide +kernel) (by decide +kernel)
set_option maxRecDepth 20000 in
theorem gX6_number_X6_findS : GoodIn wsX6_number (wsV RX6 118 RX6 yX6_findS wsX6_findS) := goodIn_app (goodIn_of _ (by decide +kernel)) ggX6_number_X6_findS
set_option maxRecDepth 20000 in
theorem ggX6_number_X6_isCell : GoodIn wsX6_number wsX6_isCell := goodIn_r _ [43, 7, 8, 5, 9] (by decide +kernel) (by decide +kernel)
set_option maxRecDepth 20000 in
theorem gX6_number_X6_isCell : GoodIn wsX6_number (va_wsS RX6 122 yX6_isCell wsX6_isCell) := goodIn_app (goodIn_of _ (by decide +kernel)) ggX6_number_X6_isCell
set_option maxRecDepth 20000 in
theorem ggX6_number_X6_cellOf : GoodIn wsX6_number wsX6_cellOf := goodIn_r _ [29] (by decide +kernel) (by decide +kernel)
set_option maxRecDepth 20000 in
theorem gX6_number_X6_cellOf : GoodIn wsX6_number (va_wsS RX6 107 yX6_cellOf wsX6_cellOf) := goodIn_app (goodIn_of _ (by decide +kernel)) ggX6_number_X6_cellOf
theorem dX6_number_0 : decode cX6_number 0 = .ok (.iload_n 1, 1) := by decide +kernel
theorem dX6_number_1 : decode cX6_number 1 = .ok (.aload_n 0, 1) := by decide +kernel
theorem dX6_number_2 : decode cX6_number 2 = .ok (.getfield 7, 3) := by decide +kernel
theorem dX6_number_5 : decode cX6_number 5 = .ok (.invokestatic 63, 3) := by decide +kernel
theorem dX6_number_8 : decode cX6_number 8 = .ok (.ifCond .eq 21, 3) := by decide +kernel
theorem dX6_number_11 : decode cX6_number 11 = .ok (.iload_n 2, 1) := by decide +kernel
theorem dX6_number_12 : decode cX6_number 12 = .ok (.ifCond .lt 17, 3) := by decide +kernel
theorem dX6_number_15 : decode cX6_number 15 = .ok (.iload_n 3, 1) := by decide +kernel
theorem dX6_number_16 : decode cX6_number 16 = .ok (.ifCond .lt 13, 3) := by decide +kernel
theorem dX6_number_19 : decode cX6_number 19 = .ok (.iload 4, 2) := by decide +kernel
theorem dX6_number_21 : decode cX6_number 21 = .ok (.ifCond .lt 8, 3) := by decide +kernel
theorem dX6_number_24 : decode cX6_number 24 = .ok (.iload 5, 2) := by decide +kernel
theorem dX6_number_26 : decode cX6_number 26 = .ok (.ifCond .ge 6, 3) := by decide +kernel
theorem dX6_number_29 : decode cX6_number 29 = .ok (.bipush (-2), 2) := by decide +kernel
theorem dX6_number_31 : decode cX6_number 31 = .ok (.ireturn, 1) := by decide +kernel
theorem dX6_number_32 : decode cX6_number 32 = .ok (.aload_n 0, 1) := by decide +kernel
theorem dX6_number_33 : decode cX6_number 33 = .ok (.getfield 7, 3) := by decide +kernel
theorem dX6_number_36 : decode cX6_number 36 = .ok (.invokestatic 115, 3) := by decide +kernel
theorem dX6_number_39 : decode cX6_number 39 = .ok (.ifCond .ne 6, 3) := by decide +kernel
theorem dX6_number_42 : decode cX6_number 42 = .ok (.bipush (-3), 2) := by decide +kernel
theorem dX6_number_44 : decode cX6_number 44 = .ok (.ireturn, 1) := by decide +kernel
theorem dX6_number_45 : decode cX6_number 45 = .ok (.aload_n 0, 1) := by decide +kernel
theorem dX6_number_46 : decode cX6_number 46 = .ok (.aload_n 0, 1) := by decide +kernel
theorem dX6_number_47 : decode cX6_number 47 = .ok (.getfield 7, 3) := by decide +kernel
theorem dX6_number_50 : decode cX6_number 50 = .ok (.invokevirtual 118, 3) := by decide +kernel
theorem dX6_number_53 : decode cX6_number 53 = .ok (.iload_n 2, 1) := by decide +kernel
theorem dX6_number_54 : decode cX6_number 54 = .ok (.iload_n 3, 1) := by decide +kernel
theorem dX6_number_55 : decode cX6_number 55 = .ok (.iload 4, 2) := by decide +kernel
theorem dX6_number_57 : decode cX6_number 57 = .ok (.iload 5, 2) := by decide +kernel
theorem dX6_number_59 : decode cX6_number 59 = .ok (.invokestatic 122, 3) := by decide +kernel
theorem dX6_number_62 : decode cX6_number 62 = .ok (.ifCond .eq 21, 3) := by decide +kernel
theorem dX6_number_65 : decode cX6_number 65 = .ok (.aload_n 0, 1) := by decide +kernel
theorem dX6_number_66 : decode cX6_number 66 = .ok (.getfield 22, 3) := by decide +kernel
theorem dX6_number_69 : decode cX6_number 69 = .ok (.iload_n 2, 1) := by decide +kernel
theorem dX6_number_70 : decode cX6_number 70 = .ok (.iload_n 3, 1) := by decide +kernel
theorem dX6_number_71 : decode cX6_number 71 = .ok (.iload 4, 2) := by decide +kernel
theorem dX6_number_73 : decode cX6_number 73 = .ok (.iload 5, 2) := by decide +kernel
theorem dX6_number_75 : decode cX6_number 75 = .ok (.invokestatic 107, 3) := by decide +kernel
theorem dX6_number_78 : decode cX6_number 78 = .ok (.laload, 1) := by decide +kernel
theorem dX6_number_79 : decode cX6_number 79 = .ok (.l2i, 1) := by decide +kernel
theorem dX6_number_80 : decode cX6_number 80 = .ok (.goto 4, 3) := by decide +kernel
theorem dX6_number_83 : decode cX6_number 83 = .ok (.iconst 0, 1) := by decide +kernel
theorem dX6_number_84 : decode cX6_number 84 = .ok (.ireturn, 1) := by decide +kernel
set_option maxRecDepth 20000 in
theorem ggX6_terms_X6_lays : GoodIn wsX6_terms wsX6_lays := goodIn_r _ [6, 7, 8, 5, 9] (by decide +kernel) (by decide +kernel)
set_option maxRecDepth 20000 in
theorem gX6_terms_X6_lays : GoodIn wsX6_terms (va_wsS RX6 63 yX6_lays wsX6_lays) := goodIn_app (goodIn_of _ (by decide +kernel)) ggX6_terms_X6_lays
set_option maxRecDepth 20000 in
theorem ggX6_terms_X6_isFit : GoodIn wsX6_terms wsX6_isFit := goodIn_r _ [12, 13, 14, 5, 15] (by decide +kernel) (by decide +kernel)
set_option maxRecDepth 20000 in
theorem gX6_terms_X6_isFit : GoodIn wsX6_terms (va_wsS RX6 115 yX6_isFit wsX6_isFit) := goodIn_app (goodIn_of _ (by decide +kernel)) ggX6_terms_X6_isFit
set_option maxRecDepth 20000 in
theorem ggX6_terms_X6_findS : GoodIn wsX6_terms wsX6_findS := goodIn_r _ [19, 20, 2, 21, 22, 5, 23, 24, 25, 26, 27, 28, 29, 30, 31, 32, 33, 34, 35, 36, 37, 38, 39, 40, 44, 45, 46, 47, 48, 49, 50, 51, 52, 53, 54, 55, 56, 57, 58, 59] (by decide +kernel) (by decide +kernel)
set_option maxRecDepth 20000 in
theorem gX6_terms_X6_findS : GoodIn wsX6_terms (wsV RX6 118 RX6 yX6_findS wsX6_findS) := goodIn_app (goodIn_of _ (by decide +kernel)) ggX6_terms_X6_findS
set_option maxRecDepth 20000 in
theorem ggX6_terms_X6_termsOf : GoodIn wsX6_terms wsX6_termsOf := goodIn_r _ [43] (by decide +kernel) (by decide +kernel)
set_option maxRecDepth 20000 in
theorem gX6_terms_X6_termsOf : GoodIn wsX6_terms (va_wsS RX6 126 yX6_termsOf wsX6_termsOf) := goodIn_app (goodIn_of _ (by decide +kernel)) ggX6_terms_X6_termsOf
theorem dX6_terms_0 : decode cX6_terms 0 = .ok (.iload_n 1, 1) := by decide +kernel
theorem dX6_terms_1 : decode cX6_terms 1 = .ok (.aload_n 0, 1) := by decide +kernel
theorem dX6_terms_2 : decode cX6_terms 2 = .ok (.getfield 7, 3) := by decide +kernel
theorem dX6_terms_5 : decode cX6_terms 5 = .ok (.invokestatic 63, 3) := by decide +kernel
theorem dX6_terms_8 : decode cX6_terms 8 = .ok (.ifCond .ne 6, 3) := by decide +kernel
theorem dX6_terms_11 : decode cX6_terms 11 = .ok (.bipush (-2), 2) := by decide +kernel
theorem dX6_terms_13 : decode cX6_terms 13 = .ok (.ireturn, 1) := by decide +kernel
theorem dX6_terms_14 : decode cX6_terms 14 = .ok (.aload_n 0, 1) := by decide +kernel
theorem dX6_terms_15 : decode cX6_terms 15 = .ok (.getfield 7, 3) := by decide +kernel
theorem dX6_terms_18 : decode cX6_terms 18 = .ok (.invokestatic 115, 3) := by decide +kernel
theorem dX6_terms_21 : decode cX6_terms 21 = .ok (.ifCond .ne 6, 3) := by decide +kernel
theorem dX6_terms_24 : decode cX6_terms 24 = .ok (.bipush (-3), 2) := by decide +kernel
theorem dX6_terms_26 : decode cX6_terms 26 = .ok (.ireturn, 1) := by decide +kernel
theorem dX6_terms_27 : decode cX6_terms 27 = .ok (.aload_n 0, 1) := by decide +kernel
theorem dX6_terms_28 : decode cX6_terms 28 = .ok (.aload_n 0, 1) := by decide +kernel
theorem dX6_terms_29 : decode cX6_terms 29 = .ok (.getfield 7, 3) := by decide +kernel
theorem dX6_terms_32 : decode cX6_terms 32 = .ok (.invokevirtual 118, 3) := by decide +kernel
theorem dX6_terms_35 : decode cX6_terms 35 = .ok (.aload_n 0, 1) := by decide +kernel
theorem dX6_terms_36 : decode cX6_terms 36 = .ok (.getfield 22, 3) := by decide +kernel
theorem dX6_terms_39 : decode cX6_terms 39 = .ok (.invokestatic 126, 3) := by decide +kernel
theorem dX6_terms_42 : decode cX6_terms 42 = .ok (.ireturn, 1) := by decide +kernel
theorem dX6_power_0 : decode cX6_power 0 = .ok (.lconst 1, 1) := by decide +kernel
theorem dX6_power_1 : decode cX6_power 1 = .ok (.lstore_n 2, 1) := by decide +kernel
theorem dX6_power_2 : decode cX6_power 2 = .ok (.iconst 0, 1) := by decide +kernel
theorem dX6_power_3 : decode cX6_power 3 = .ok (.istore 4, 2) := by decide +kernel
theorem dX6_power_5 : decode cX6_power 5 = .ok (.iload 4, 2) := by decide +kernel
theorem dX6_power_7 : decode cX6_power 7 = .ok (.iload_n 1, 1) := by decide +kernel
theorem dX6_power_8 : decode cX6_power 8 = .ok (.if_icmp .ge 14, 3) := by decide +kernel
theorem dX6_power_11 : decode cX6_power 11 = .ok (.lload_n 2, 1) := by decide +kernel
theorem dX6_power_12 : decode cX6_power 12 = .ok (.iload_n 0, 1) := by decide +kernel
theorem dX6_power_13 : decode cX6_power 13 = .ok (.i2l, 1) := by decide +kernel
theorem dX6_power_14 : decode cX6_power 14 = .ok (.lmul, 1) := by decide +kernel
theorem dX6_power_15 : decode cX6_power 15 = .ok (.lstore_n 2, 1) := by decide +kernel
theorem dX6_power_16 : decode cX6_power 16 = .ok (.iinc 4 1, 3) := by decide +kernel
theorem dX6_power_19 : decode cX6_power 19 = .ok (.goto (-14), 3) := by decide +kernel
theorem dX6_power_22 : decode cX6_power 22 = .ok (.lload_n 2, 1) := by decide +kernel
theorem dX6_power_23 : decode cX6_power 23 = .ok (.lreturn, 1) := by decide +kernel
set_option maxRecDepth 20000 in
theorem ggX6_isX_X6_within : GoodIn wsX6_isX wsX6_within := goodIn_r _ [4] (by decide +kernel) (by decide +kernel)
set_option maxRecDepth 20000 in
theorem gX6_isX_X6_within : GoodIn wsX6_isX (va_wsS RX6 51 yX6_within wsX6_within) := goodIn_app (goodIn_of _ (by decide +kernel)) ggX6_isX_X6_within
theorem dX6_isX_0 : decode cX6_isX 0 = .ok (.iload_n 0, 1) := by decide +kernel
theorem dX6_isX_1 : decode cX6_isX 1 = .ok (.bipush (-3), 2) := by decide +kernel
theorem dX6_isX_3 : decode cX6_isX 3 = .ok (.iconst 3, 1) := by decide +kernel
theorem dX6_isX_4 : decode cX6_isX 4 = .ok (.invokestatic 51, 3) := by decide +kernel
theorem dX6_isX_7 : decode cX6_isX 7 = .ok (.ireturn, 1) := by decide +kernel
set_option maxRecDepth 20000 in
theorem ggX6_value_X6_lays : GoodIn wsX6_value wsX6_lays := goodIn_r _ [7, 8, 9, 6, 10] (by decide +kernel) (by decide +kernel)
set_option maxRecDepth 20000 in
theorem gX6_value_X6_lays : GoodIn wsX6_value (va_wsS RX6 63 yX6_lays wsX6_lays) := goodIn_app (goodIn_of _ (by decide +kernel)) ggX6_value_X6_lays
set_option maxRecDepth 20000 in
theorem ggX6_value_X6_isX : GoodIn wsX6_value wsX6_isX := goodIn_r _ [13, 8, 9, 6, 10] (by decide +kernel) (by decide +kernel)
set_option maxRecDepth 20000 in
theorem gX6_value_X6_isX : GoodIn wsX6_value (va_wsS RX6 130 yX6_isX wsX6_isX) := goodIn_app (goodIn_of _ (by decide +kernel)) ggX6_value_X6_isX
set_option maxRecDepth 20000 in
theorem ggX6_value_X6_isFit : GoodIn wsX6_value wsX6_isFit := goodIn_r _ [16, 17, 18, 6, 19] (by decide +kernel) (by decide +kernel)
set_option maxRecDepth 20000 in
theorem gX6_value_X6_isFit : GoodIn wsX6_value (va_wsS RX6 115 yX6_isFit wsX6_isFit) := goodIn_app (goodIn_of _ (by decide +kernel)) ggX6_value_X6_isFit
set_option maxRecDepth 20000 in
theorem ggX6_value_X6_findS : GoodIn wsX6_value wsX6_findS := goodIn_r _ [23, 24, 3, 25, 26, 6, 27, 28, 29, 30, 31, 32, 33, 34, 35, 36, 37, 38, 39, 40, 41, 42, 43, 44, 48, 49, 50, 51, 52, 53, 54, 55, 56, 57, 58, 59, 60, 61, 62, 63] (by decide +kernel) (by decide +kernel)
set_option maxRecDepth 20000 in
theorem gX6_value_X6_findS : GoodIn wsX6_value (wsV RX6 118 RX6 yX6_findS wsX6_findS) := goodIn_app (goodIn_of _ (by decide +kernel)) ggX6_value_X6_findS
set_option maxRecDepth 20000 in
theorem ggX6_value_X6_exponentAt : GoodIn wsX6_value wsX6_exponentAt := goodIn_r _ [44] (by decide +kernel) (by decide +kernel)
set_option maxRecDepth 20000 in
theorem gX6_value_X6_exponentAt : GoodIn wsX6_value (va_wsS RX6 103 yX6_exponentAt wsX6_exponentAt) := goodIn_app (goodIn_of _ (by decide +kernel)) ggX6_value_X6_exponentAt
set_option maxRecDepth 20000 in
theorem ggX6_value_X6_power : GoodIn wsX6_value wsX6_power := goodIn_r _ [47] (by decide +kernel) (by decide +kernel)
set_option maxRecDepth 20000 in
theorem gX6_value_X6_power : GoodIn wsX6_value (va_wsS RX6 136 yX6_power wsX6_power) := goodIn_app (goodIn_of _ (by decide +kernel)) ggX6_value_X6_power
theorem dX6_value_0 : decode cX6_value 0 = .ok (.iload_n 1, 1) := by decide +kernel
theorem dX6_value_1 : decode cX6_value 1 = .ok (.aload_n 0, 1) := by decide +kernel
theorem dX6_value_2 : decode cX6_value 2 = .ok (.getfield 7, 3) := by decide +kernel
theorem dX6_value_5 : decode cX6_value 5 = .ok (.invokestatic 63, 3) := by decide +kernel
theorem dX6_value_8 : decode cX6_value 8 = .ok (.ifCond .eq 43, 3) := by decide +kernel
theorem dX6_value_11 : decode cX6_value 11 = .ok (.iload_n 2, 1) := by decide +kernel
theorem dX6_value_12 : decode cX6_value 12 = .ok (.invokestatic 130, 3) := by decide +kernel
theorem dX6_value_15 : decode cX6_value 15 = .ok (.ifCond .eq 36, 3) := by decide +kernel
theorem dX6_value_18 : decode cX6_value 18 = .ok (.iload_n 3, 1) := by decide +kernel
theorem dX6_value_19 : decode cX6_value 19 = .ok (.invokestatic 130, 3) := by decide +kernel
theorem dX6_value_22 : decode cX6_value 22 = .ok (.ifCond .eq 29, 3) := by decide +kernel
theorem dX6_value_25 : decode cX6_value 25 = .ok (.iload 4, 2) := by decide +kernel
theorem dX6_value_27 : decode cX6_value 27 = .ok (.invokestatic 130, 3) := by decide +kernel
theorem dX6_value_30 : decode cX6_value 30 = .ok (.ifCond .eq 21, 3) := by decide +kernel
theorem dX6_value_33 : decode cX6_value 33 = .ok (.iload 5, 2) := by decide +kernel
theorem dX6_value_35 : decode cX6_value 35 = .ok (.invokestatic 130, 3) := by decide +kernel
theorem dX6_value_38 : decode cX6_value 38 = .ok (.ifCond .eq 13, 3) := by decide +kernel
theorem dX6_value_41 : decode cX6_value 41 = .ok (.aload_n 0, 1) := by decide +kernel
theorem dX6_value_42 : decode cX6_value 42 = .ok (.getfield 7, 3) := by decide +kernel
theorem dX6_value_45 : decode cX6_value 45 = .ok (.invokestatic 115, 3) := by decide +kernel
theorem dX6_value_48 : decode cX6_value 48 = .ok (.ifCond .ne 7, 3) := by decide +kernel
theorem dX6_value_51 : decode cX6_value 51 = .ok (.ldc2_w 134, 3) := by decide +kernel
theorem dX6_value_54 : decode cX6_value 54 = .ok (.lreturn, 1) := by decide +kernel
theorem dX6_value_55 : decode cX6_value 55 = .ok (.aload_n 0, 1) := by decide +kernel
theorem dX6_value_56 : decode cX6_value 56 = .ok (.aload_n 0, 1) := by decide +kernel
theorem dX6_value_57 : decode cX6_value 57 = .ok (.getfield 7, 3) := by decide +kernel
theorem dX6_value_60 : decode cX6_value 60 = .ok (.invokevirtual 118, 3) := by decide +kernel
theorem dX6_value_63 : decode cX6_value 63 = .ok (.lconst 0, 1) := by decide +kernel
theorem dX6_value_64 : decode cX6_value 64 = .ok (.lstore 6, 2) := by decide +kernel
theorem dX6_value_66 : decode cX6_value 66 = .ok (.iconst 0, 1) := by decide +kernel
theorem dX6_value_67 : decode cX6_value 67 = .ok (.istore 8, 2) := by decide +kernel
theorem dX6_value_69 : decode cX6_value 69 = .ok (.iload 8, 2) := by decide +kernel
theorem dX6_value_71 : decode cX6_value 71 = .ok (.sipush 3024, 3) := by decide +kernel
theorem dX6_value_74 : decode cX6_value 74 = .ok (.if_icmp .ge 79, 3) := by decide +kernel
theorem dX6_value_77 : decode cX6_value 77 = .ok (.aload_n 0, 1) := by decide +kernel
theorem dX6_value_78 : decode cX6_value 78 = .ok (.getfield 22, 3) := by decide +kernel
theorem dX6_value_81 : decode cX6_value 81 = .ok (.iload 8, 2) := by decide +kernel
theorem dX6_value_83 : decode cX6_value 83 = .ok (.laload, 1) := by decide +kernel
theorem dX6_value_84 : decode cX6_value 84 = .ok (.lconst 0, 1) := by decide +kernel
theorem dX6_value_85 : decode cX6_value 85 = .ok (.lcmp, 1) := by decide +kernel
theorem dX6_value_86 : decode cX6_value 86 = .ok (.ifCond .eq 61, 3) := by decide +kernel
theorem dX6_value_89 : decode cX6_value 89 = .ok (.lload 6, 2) := by decide +kernel
theorem dX6_value_91 : decode cX6_value 91 = .ok (.aload_n 0, 1) := by decide +kernel
theorem dX6_value_92 : decode cX6_value 92 = .ok (.getfield 22, 3) := by decide +kernel
theorem dX6_value_95 : decode cX6_value 95 = .ok (.iload 8, 2) := by decide +kernel
theorem dX6_value_97 : decode cX6_value 97 = .ok (.laload, 1) := by decide +kernel
theorem dX6_value_98 : decode cX6_value 98 = .ok (.iload_n 2, 1) := by decide +kernel
theorem dX6_value_99 : decode cX6_value 99 = .ok (.iload 8, 2) := by decide +kernel
theorem dX6_value_101 : decode cX6_value 101 = .ok (.iconst 1, 1) := by decide +kernel
theorem dX6_value_102 : decode cX6_value 102 = .ok (.invokestatic 103, 3) := by decide +kernel
theorem dX6_value_105 : decode cX6_value 105 = .ok (.invokestatic 136, 3) := by decide +kernel
theorem dX6_value_108 : decode cX6_value 108 = .ok (.lmul, 1) := by decide +kernel
theorem dX6_value_109 : decode cX6_value 109 = .ok (.iload_n 3, 1) := by decide +kernel
theorem dX6_value_110 : decode cX6_value 110 = .ok (.iload 8, 2) := by decide +kernel
theorem dX6_value_112 : decode cX6_value 112 = .ok (.iconst 2, 1) := by decide +kernel
theorem dX6_value_113 : decode cX6_value 113 = .ok (.invokestatic 103, 3) := by decide +kernel
theorem dX6_value_116 : decode cX6_value 116 = .ok (.invokestatic 136, 3) := by decide +kernel
theorem dX6_value_119 : decode cX6_value 119 = .ok (.lmul, 1) := by decide +kernel
theorem dX6_value_120 : decode cX6_value 120 = .ok (.iload 4, 2) := by decide +kernel
theorem dX6_value_122 : decode cX6_value 122 = .ok (.iload 8, 2) := by decide +kernel
theorem dX6_value_124 : decode cX6_value 124 = .ok (.iconst 3, 1) := by decide +kernel
theorem dX6_value_125 : decode cX6_value 125 = .ok (.invokestatic 103, 3) := by decide +kernel
theorem dX6_value_128 : decode cX6_value 128 = .ok (.invokestatic 136, 3) := by decide +kernel
theorem dX6_value_131 : decode cX6_value 131 = .ok (.lmul, 1) := by decide +kernel
theorem dX6_value_132 : decode cX6_value 132 = .ok (.iload 5, 2) := by decide +kernel
theorem dX6_value_134 : decode cX6_value 134 = .ok (.iload 8, 2) := by decide +kernel
theorem dX6_value_136 : decode cX6_value 136 = .ok (.iconst 4, 1) := by decide +kernel
theorem dX6_value_137 : decode cX6_value 137 = .ok (.invokestatic 103, 3) := by decide +kernel
theorem dX6_value_140 : decode cX6_value 140 = .ok (.invokestatic 136, 3) := by decide +kernel
theorem dX6_value_143 : decode cX6_value 143 = .ok (.lmul, 1) := by decide +kernel
theorem dX6_value_144 : decode cX6_value 144 = .ok (.ladd, 1) := by decide +kernel
theorem dX6_value_145 : decode cX6_value 145 = .ok (.lstore 6, 2) := by decide +kernel
theorem dX6_value_147 : decode cX6_value 147 = .ok (.iinc 8 1, 3) := by decide +kernel
theorem dX6_value_150 : decode cX6_value 150 = .ok (.goto (-81), 3) := by decide +kernel
theorem dX6_value_153 : decode cX6_value 153 = .ok (.lload 6, 2) := by decide +kernel
theorem dX6_value_155 : decode cX6_value 155 = .ok (.lreturn, 1) := by decide +kernel
set_option maxRecDepth 20000 in
theorem ggX6_becomes_X6_termsOf : GoodIn wsX6_becomes wsX6_termsOf := goodIn_r _ [9] (by decide +kernel) (by decide +kernel)
set_option maxRecDepth 20000 in
theorem gX6_becomes_X6_termsOf : GoodIn wsX6_becomes (va_wsS RX6 126 yX6_termsOf wsX6_termsOf) := goodIn_app (goodIn_of _ (by decide +kernel)) ggX6_becomes_X6_termsOf
theorem dX6_becomes_0 : decode cX6_becomes 0 = .ok (.iconst 0, 1) := by decide +kernel
theorem dX6_becomes_1 : decode cX6_becomes 1 = .ok (.istore_n 1, 1) := by decide +kernel
theorem dX6_becomes_2 : decode cX6_becomes 2 = .ok (.iload_n 1, 1) := by decide +kernel
theorem dX6_becomes_3 : decode cX6_becomes 3 = .ok (.sipush 3024, 3) := by decide +kernel
theorem dX6_becomes_6 : decode cX6_becomes 6 = .ok (.if_icmp .ge 38, 3) := by decide +kernel
theorem dX6_becomes_9 : decode cX6_becomes 9 = .ok (.aload_n 0, 1) := by decide +kernel
theorem dX6_becomes_10 : decode cX6_becomes 10 = .ok (.getfield 35, 3) := by decide +kernel
theorem dX6_becomes_13 : decode cX6_becomes 13 = .ok (.iload_n 1, 1) := by decide +kernel
theorem dX6_becomes_14 : decode cX6_becomes 14 = .ok (.laload, 1) := by decide +kernel
theorem dX6_becomes_15 : decode cX6_becomes 15 = .ok (.ldc2_w 140, 3) := by decide +kernel
theorem dX6_becomes_18 : decode cX6_becomes 18 = .ok (.lcmp, 1) := by decide +kernel
theorem dX6_becomes_19 : decode cX6_becomes 19 = .ok (.ifCond .gt 16, 3) := by decide +kernel
theorem dX6_becomes_22 : decode cX6_becomes 22 = .ok (.aload_n 0, 1) := by decide +kernel
theorem dX6_becomes_23 : decode cX6_becomes 23 = .ok (.getfield 35, 3) := by decide +kernel
theorem dX6_becomes_26 : decode cX6_becomes 26 = .ok (.iload_n 1, 1) := by decide +kernel
theorem dX6_becomes_27 : decode cX6_becomes 27 = .ok (.laload, 1) := by decide +kernel
theorem dX6_becomes_28 : decode cX6_becomes 28 = .ok (.ldc2_w 142, 3) := by decide +kernel
theorem dX6_becomes_31 : decode cX6_becomes 31 = .ok (.lcmp, 1) := by decide +kernel
theorem dX6_becomes_32 : decode cX6_becomes 32 = .ok (.ifCond .ge 6, 3) := by decide +kernel
theorem dX6_becomes_35 : decode cX6_becomes 35 = .ok (.bipush (-5), 2) := by decide +kernel
theorem dX6_becomes_37 : decode cX6_becomes 37 = .ok (.ireturn, 1) := by decide +kernel
theorem dX6_becomes_38 : decode cX6_becomes 38 = .ok (.iinc 1 1, 3) := by decide +kernel
theorem dX6_becomes_41 : decode cX6_becomes 41 = .ok (.goto (-39), 3) := by decide +kernel
theorem dX6_becomes_44 : decode cX6_becomes 44 = .ok (.iconst 0, 1) := by decide +kernel
theorem dX6_becomes_45 : decode cX6_becomes 45 = .ok (.istore_n 1, 1) := by decide +kernel
theorem dX6_becomes_46 : decode cX6_becomes 46 = .ok (.iload_n 1, 1) := by decide +kernel
theorem dX6_becomes_47 : decode cX6_becomes 47 = .ok (.sipush 3024, 3) := by decide +kernel
theorem dX6_becomes_50 : decode cX6_becomes 50 = .ok (.if_icmp .ge 21, 3) := by decide +kernel
theorem dX6_becomes_53 : decode cX6_becomes 53 = .ok (.aload_n 0, 1) := by decide +kernel
theorem dX6_becomes_54 : decode cX6_becomes 54 = .ok (.getfield 32, 3) := by decide +kernel
theorem dX6_becomes_57 : decode cX6_becomes 57 = .ok (.iload_n 1, 1) := by decide +kernel
theorem dX6_becomes_58 : decode cX6_becomes 58 = .ok (.aload_n 0, 1) := by decide +kernel
theorem dX6_becomes_59 : decode cX6_becomes 59 = .ok (.getfield 35, 3) := by decide +kernel
theorem dX6_becomes_62 : decode cX6_becomes 62 = .ok (.iload_n 1, 1) := by decide +kernel
theorem dX6_becomes_63 : decode cX6_becomes 63 = .ok (.laload, 1) := by decide +kernel
theorem dX6_becomes_64 : decode cX6_becomes 64 = .ok (.lastore, 1) := by decide +kernel
theorem dX6_becomes_65 : decode cX6_becomes 65 = .ok (.iinc 1 1, 3) := by decide +kernel
theorem dX6_becomes_68 : decode cX6_becomes 68 = .ok (.goto (-22), 3) := by decide +kernel
theorem dX6_becomes_71 : decode cX6_becomes 71 = .ok (.aload_n 0, 1) := by decide +kernel
theorem dX6_becomes_72 : decode cX6_becomes 72 = .ok (.iconst 0, 1) := by decide +kernel
theorem dX6_becomes_73 : decode cX6_becomes 73 = .ok (.putfield 144, 3) := by decide +kernel
theorem dX6_becomes_76 : decode cX6_becomes 76 = .ok (.aload_n 0, 1) := by decide +kernel
theorem dX6_becomes_77 : decode cX6_becomes 77 = .ok (.getfield 32, 3) := by decide +kernel
theorem dX6_becomes_80 : decode cX6_becomes 80 = .ok (.invokestatic 126, 3) := by decide +kernel
theorem dX6_becomes_83 : decode cX6_becomes 83 = .ok (.ireturn, 1) := by decide +kernel
set_option maxRecDepth 20000 in
theorem ggX6_wipe_X6_termsOf : GoodIn wsX6_wipe wsX6_termsOf := goodIn_r _ [6] (by decide +kernel) (by decide +kernel)
set_option maxRecDepth 20000 in
theorem gX6_wipe_X6_termsOf : GoodIn wsX6_wipe (va_wsS RX6 126 yX6_termsOf wsX6_termsOf) := goodIn_app (goodIn_of _ (by decide +kernel)) ggX6_wipe_X6_termsOf
theorem dX6_wipe_0 : decode cX6_wipe 0 = .ok (.aload_n 0, 1) := by decide +kernel
theorem dX6_wipe_1 : decode cX6_wipe 1 = .ok (.getfield 32, 3) := by decide +kernel
theorem dX6_wipe_4 : decode cX6_wipe 4 = .ok (.invokestatic 126, 3) := by decide +kernel
theorem dX6_wipe_7 : decode cX6_wipe 7 = .ok (.istore_n 1, 1) := by decide +kernel
theorem dX6_wipe_8 : decode cX6_wipe 8 = .ok (.iconst 0, 1) := by decide +kernel
theorem dX6_wipe_9 : decode cX6_wipe 9 = .ok (.istore_n 2, 1) := by decide +kernel
theorem dX6_wipe_10 : decode cX6_wipe 10 = .ok (.iload_n 2, 1) := by decide +kernel
theorem dX6_wipe_11 : decode cX6_wipe 11 = .ok (.sipush 3024, 3) := by decide +kernel
theorem dX6_wipe_14 : decode cX6_wipe 14 = .ok (.if_icmp .ge 16, 3) := by decide +kernel
theorem dX6_wipe_17 : decode cX6_wipe 17 = .ok (.aload_n 0, 1) := by decide +kernel
theorem dX6_wipe_18 : decode cX6_wipe 18 = .ok (.getfield 32, 3) := by decide +kernel
theorem dX6_wipe_21 : decode cX6_wipe 21 = .ok (.iload_n 2, 1) := by decide +kernel
theorem dX6_wipe_22 : decode cX6_wipe 22 = .ok (.lconst 0, 1) := by decide +kernel
theorem dX6_wipe_23 : decode cX6_wipe 23 = .ok (.lastore, 1) := by decide +kernel
theorem dX6_wipe_24 : decode cX6_wipe 24 = .ok (.iinc 2 1, 3) := by decide +kernel
theorem dX6_wipe_27 : decode cX6_wipe 27 = .ok (.goto (-17), 3) := by decide +kernel
theorem dX6_wipe_30 : decode cX6_wipe 30 = .ok (.aload_n 0, 1) := by decide +kernel
theorem dX6_wipe_31 : decode cX6_wipe 31 = .ok (.iconst 0, 1) := by decide +kernel
theorem dX6_wipe_32 : decode cX6_wipe 32 = .ok (.putfield 144, 3) := by decide +kernel
theorem dX6_wipe_35 : decode cX6_wipe 35 = .ok (.iload_n 1, 1) := by decide +kernel
theorem dX6_wipe_36 : decode cX6_wipe 36 = .ok (.ireturn, 1) := by decide +kernel
set_option maxRecDepth 20000 in
theorem ggX6_add_X6_within : GoodIn wsX6_add wsX6_within := goodIn_r _ [8] (by decide +kernel) (by decide +kernel)
set_option maxRecDepth 20000 in
theorem gX6_add_X6_within : GoodIn wsX6_add (va_wsS RX6 51 yX6_within wsX6_within) := goodIn_app (goodIn_of _ (by decide +kernel)) ggX6_add_X6_within
set_option maxRecDepth 20000 in
theorem ggX6_add_X6_lays : GoodIn wsX6_add wsX6_lays := goodIn_r _ [11, 5, 6, 7, 8] (by decide +kernel) (by decide +kernel)
set_option maxRecDepth 20000 in
theorem gX6_add_X6_lays : GoodIn wsX6_add (va_wsS RX6 63 yX6_lays wsX6_lays) := goodIn_app (goodIn_of _ (by decide +kernel)) ggX6_add_X6_lays
set_option maxRecDepth 20000 in
theorem ggX6_add_X6_isFit : GoodIn wsX6_add wsX6_isFit := goodIn_r _ [14, 15, 16, 7, 17] (by decide +kernel) (by decide +kernel)
set_option maxRecDepth 20000 in
theorem gX6_add_X6_isFit : GoodIn wsX6_add (va_wsS RX6 115 yX6_isFit wsX6_isFit) := goodIn_app (goodIn_of _ (by decide +kernel)) ggX6_add_X6_isFit
set_option maxRecDepth 20000 in
theorem ggX6_add_X6_findS : GoodIn wsX6_add wsX6_findS := goodIn_r _ [21, 22, 4, 23, 24, 7, 25, 26, 27, 28, 29, 30, 31, 32, 33, 34, 35, 36, 37, 38, 39, 40, 41, 42, 53, 54, 55, 56, 57, 58, 59, 60, 61, 62, 63, 64, 65, 66, 67, 68] (by decide +kernel) (by decide +kernel)
set_option maxRecDepth 20000 in
theorem gX6_add_X6_findS : GoodIn wsX6_add (wsV RX6 118 RX6 yX6_findS wsX6_findS) := goodIn_app (goodIn_of _ (by decide +kernel)) ggX6_add_X6_findS
set_option maxRecDepth 20000 in
theorem ggX6_add_X6_becomes : GoodIn wsX6_add wsX6_becomes := goodIn_r _ [46, 2, 47, 48, 3, 49, 50, 51, 7, 52, 53, 54, 55, 56, 57, 58, 59, 60, 61, 62, 63, 64, 65, 66, 67, 68] (by decide +kernel) (by decide +kernel)
set_option maxRecDepth 20000 in
theorem gX6_add_X6_becomes : GoodIn wsX6_add (wsV RX6 148 RX6 yX6_becomes wsX6_becomes) := goodIn_app (goodIn_of _ (by decide +kernel)) ggX6_add_X6_becomes
theorem dX6_add_0 : decode cX6_add 0 = .ok (.iload_n 1, 1) := by decide +kernel
theorem dX6_add_1 : decode cX6_add 1 = .ok (.sipush (-1000), 3) := by decide +kernel
theorem dX6_add_4 : decode cX6_add 4 = .ok (.sipush 1000, 3) := by decide +kernel
theorem dX6_add_7 : decode cX6_add 7 = .ok (.invokestatic 51, 3) := by decide +kernel
theorem dX6_add_10 : decode cX6_add 10 = .ok (.ifCond .eq 14, 3) := by decide +kernel
theorem dX6_add_13 : decode cX6_add 13 = .ok (.iload_n 2, 1) := by decide +kernel
theorem dX6_add_14 : decode cX6_add 14 = .ok (.aload_n 0, 1) := by decide +kernel
theorem dX6_add_15 : decode cX6_add 15 = .ok (.getfield 7, 3) := by decide +kernel
theorem dX6_add_18 : decode cX6_add 18 = .ok (.invokestatic 63, 3) := by decide +kernel
theorem dX6_add_21 : decode cX6_add 21 = .ok (.ifCond .ne 6, 3) := by decide +kernel
theorem dX6_add_24 : decode cX6_add 24 = .ok (.bipush (-2), 2) := by decide +kernel
theorem dX6_add_26 : decode cX6_add 26 = .ok (.ireturn, 1) := by decide +kernel
theorem dX6_add_27 : decode cX6_add 27 = .ok (.aload_n 0, 1) := by decide +kernel
theorem dX6_add_28 : decode cX6_add 28 = .ok (.getfield 7, 3) := by decide +kernel
theorem dX6_add_31 : decode cX6_add 31 = .ok (.invokestatic 115, 3) := by decide +kernel
theorem dX6_add_34 : decode cX6_add 34 = .ok (.ifCond .ne 6, 3) := by decide +kernel
theorem dX6_add_37 : decode cX6_add 37 = .ok (.bipush (-3), 2) := by decide +kernel
theorem dX6_add_39 : decode cX6_add 39 = .ok (.ireturn, 1) := by decide +kernel
theorem dX6_add_40 : decode cX6_add 40 = .ok (.aload_n 0, 1) := by decide +kernel
theorem dX6_add_41 : decode cX6_add 41 = .ok (.aload_n 0, 1) := by decide +kernel
theorem dX6_add_42 : decode cX6_add 42 = .ok (.getfield 7, 3) := by decide +kernel
theorem dX6_add_45 : decode cX6_add 45 = .ok (.invokevirtual 118, 3) := by decide +kernel
theorem dX6_add_48 : decode cX6_add 48 = .ok (.iconst 0, 1) := by decide +kernel
theorem dX6_add_49 : decode cX6_add 49 = .ok (.istore_n 3, 1) := by decide +kernel
theorem dX6_add_50 : decode cX6_add 50 = .ok (.iload_n 3, 1) := by decide +kernel
theorem dX6_add_51 : decode cX6_add 51 = .ok (.sipush 3024, 3) := by decide +kernel
theorem dX6_add_54 : decode cX6_add 54 = .ok (.if_icmp .ge 31, 3) := by decide +kernel
theorem dX6_add_57 : decode cX6_add 57 = .ok (.aload_n 0, 1) := by decide +kernel
theorem dX6_add_58 : decode cX6_add 58 = .ok (.getfield 35, 3) := by decide +kernel
theorem dX6_add_61 : decode cX6_add 61 = .ok (.iload_n 3, 1) := by decide +kernel
theorem dX6_add_62 : decode cX6_add 62 = .ok (.aload_n 0, 1) := by decide +kernel
theorem dX6_add_63 : decode cX6_add 63 = .ok (.getfield 32, 3) := by decide +kernel
theorem dX6_add_66 : decode cX6_add 66 = .ok (.iload_n 3, 1) := by decide +kernel
theorem dX6_add_67 : decode cX6_add 67 = .ok (.laload, 1) := by decide +kernel
theorem dX6_add_68 : decode cX6_add 68 = .ok (.iload_n 1, 1) := by decide +kernel
theorem dX6_add_69 : decode cX6_add 69 = .ok (.i2l, 1) := by decide +kernel
theorem dX6_add_70 : decode cX6_add 70 = .ok (.aload_n 0, 1) := by decide +kernel
theorem dX6_add_71 : decode cX6_add 71 = .ok (.getfield 22, 3) := by decide +kernel
theorem dX6_add_74 : decode cX6_add 74 = .ok (.iload_n 3, 1) := by decide +kernel
theorem dX6_add_75 : decode cX6_add 75 = .ok (.laload, 1) := by decide +kernel
theorem dX6_add_76 : decode cX6_add 76 = .ok (.lmul, 1) := by decide +kernel
theorem dX6_add_77 : decode cX6_add 77 = .ok (.ladd, 1) := by decide +kernel
theorem dX6_add_78 : decode cX6_add 78 = .ok (.lastore, 1) := by decide +kernel
theorem dX6_add_79 : decode cX6_add 79 = .ok (.iinc 3 1, 3) := by decide +kernel
theorem dX6_add_82 : decode cX6_add 82 = .ok (.goto (-32), 3) := by decide +kernel
theorem dX6_add_85 : decode cX6_add 85 = .ok (.aload_n 0, 1) := by decide +kernel
theorem dX6_add_86 : decode cX6_add 86 = .ok (.invokevirtual 148, 3) := by decide +kernel
theorem dX6_add_89 : decode cX6_add 89 = .ok (.ireturn, 1) := by decide +kernel
set_option maxRecDepth 20000 in
theorem ggX6_wideOf_X6_exponentAt : GoodIn wsX6_wideOf wsX6_exponentAt := goodIn_r _ [4] (by decide +kernel) (by decide +kernel)
set_option maxRecDepth 20000 in
theorem gX6_wideOf_X6_exponentAt : GoodIn wsX6_wideOf (va_wsS RX6 103 yX6_exponentAt wsX6_exponentAt) := goodIn_app (goodIn_of _ (by decide +kernel)) ggX6_wideOf_X6_exponentAt
theorem dX6_wideOf_0 : decode cX6_wideOf 0 = .ok (.iload_n 0, 1) := by decide +kernel
theorem dX6_wideOf_1 : decode cX6_wideOf 1 = .ok (.iconst 1, 1) := by decide +kernel
theorem dX6_wideOf_2 : decode cX6_wideOf 2 = .ok (.invokestatic 103, 3) := by decide +kernel
theorem dX6_wideOf_5 : decode cX6_wideOf 5 = .ok (.bipush 15, 2) := by decide +kernel
theorem dX6_wideOf_7 : decode cX6_wideOf 7 = .ok (.imul, 1) := by decide +kernel
theorem dX6_wideOf_8 : decode cX6_wideOf 8 = .ok (.iload_n 0, 1) := by decide +kernel
theorem dX6_wideOf_9 : decode cX6_wideOf 9 = .ok (.iconst 2, 1) := by decide +kernel
theorem dX6_wideOf_10 : decode cX6_wideOf 10 = .ok (.invokestatic 103, 3) := by decide +kernel
theorem dX6_wideOf_13 : decode cX6_wideOf 13 = .ok (.iadd, 1) := by decide +kernel
theorem dX6_wideOf_14 : decode cX6_wideOf 14 = .ok (.bipush 13, 2) := by decide +kernel
theorem dX6_wideOf_16 : decode cX6_wideOf 16 = .ok (.imul, 1) := by decide +kernel
theorem dX6_wideOf_17 : decode cX6_wideOf 17 = .ok (.iload_n 0, 1) := by decide +kernel
theorem dX6_wideOf_18 : decode cX6_wideOf 18 = .ok (.iconst 3, 1) := by decide +kernel
theorem dX6_wideOf_19 : decode cX6_wideOf 19 = .ok (.invokestatic 103, 3) := by decide +kernel
theorem dX6_wideOf_22 : decode cX6_wideOf 22 = .ok (.iadd, 1) := by decide +kernel
theorem dX6_wideOf_23 : decode cX6_wideOf 23 = .ok (.bipush 11, 2) := by decide +kernel
theorem dX6_wideOf_25 : decode cX6_wideOf 25 = .ok (.imul, 1) := by decide +kernel
theorem dX6_wideOf_26 : decode cX6_wideOf 26 = .ok (.iload_n 0, 1) := by decide +kernel
theorem dX6_wideOf_27 : decode cX6_wideOf 27 = .ok (.iconst 4, 1) := by decide +kernel
theorem dX6_wideOf_28 : decode cX6_wideOf 28 = .ok (.invokestatic 103, 3) := by decide +kernel
theorem dX6_wideOf_31 : decode cX6_wideOf 31 = .ok (.iadd, 1) := by decide +kernel
theorem dX6_wideOf_32 : decode cX6_wideOf 32 = .ok (.ireturn, 1) := by decide +kernel
set_option maxRecDepth 20000 in
theorem ggX6_findProduct_X6_wideOf : GoodIn wsX6_findProduct wsX6_wideOf := goodIn_r _ [8, 9, 10, 7, 11] (by decide +kernel) (by decide +kernel)
set_option maxRecDepth 20000 in
theorem gX6_findProduct_X6_wideOf : GoodIn wsX6_findProduct (va_wsS RX6 152 yX6_wideOf wsX6_wideOf) := goodIn_app (goodIn_of _ (by decide +kernel)) ggX6_findProduct_X6_wideOf
theorem dX6_findProduct_0 : decode cX6_findProduct 0 = .ok (.iconst 0, 1) := by decide +kernel
theorem dX6_findProduct_1 : decode cX6_findProduct 1 = .ok (.istore_n 1, 1) := by decide +kernel
theorem dX6_findProduct_2 : decode cX6_findProduct 2 = .ok (.iload_n 1, 1) := by decide +kernel
theorem dX6_findProduct_3 : decode cX6_findProduct 3 = .ok (.ldc 38, 2) := by decide +kernel
theorem dX6_findProduct_5 : decode cX6_findProduct 5 = .ok (.if_icmp .ge 16, 3) := by decide +kernel
theorem dX6_findProduct_8 : decode cX6_findProduct 8 = .ok (.aload_n 0, 1) := by decide +kernel
theorem dX6_findProduct_9 : decode cX6_findProduct 9 = .ok (.getfield 39, 3) := by decide +kernel
theorem dX6_findProduct_12 : decode cX6_findProduct 12 = .ok (.iload_n 1, 1) := by decide +kernel
theorem dX6_findProduct_13 : decode cX6_findProduct 13 = .ok (.lconst 0, 1) := by decide +kernel
theorem dX6_findProduct_14 : decode cX6_findProduct 14 = .ok (.lastore, 1) := by decide +kernel
theorem dX6_findProduct_15 : decode cX6_findProduct 15 = .ok (.iinc 1 1, 3) := by decide +kernel
theorem dX6_findProduct_18 : decode cX6_findProduct 18 = .ok (.goto (-16), 3) := by decide +kernel
theorem dX6_findProduct_21 : decode cX6_findProduct 21 = .ok (.iconst 0, 1) := by decide +kernel
theorem dX6_findProduct_22 : decode cX6_findProduct 22 = .ok (.istore_n 1, 1) := by decide +kernel
theorem dX6_findProduct_23 : decode cX6_findProduct 23 = .ok (.iload_n 1, 1) := by decide +kernel
theorem dX6_findProduct_24 : decode cX6_findProduct 24 = .ok (.sipush 3024, 3) := by decide +kernel
theorem dX6_findProduct_27 : decode cX6_findProduct 27 = .ok (.if_icmp .ge 76, 3) := by decide +kernel
theorem dX6_findProduct_30 : decode cX6_findProduct 30 = .ok (.iconst 0, 1) := by decide +kernel
theorem dX6_findProduct_31 : decode cX6_findProduct 31 = .ok (.istore_n 2, 1) := by decide +kernel
theorem dX6_findProduct_32 : decode cX6_findProduct 32 = .ok (.iload_n 2, 1) := by decide +kernel
theorem dX6_findProduct_33 : decode cX6_findProduct 33 = .ok (.sipush 3024, 3) := by decide +kernel
theorem dX6_findProduct_36 : decode cX6_findProduct 36 = .ok (.if_icmp .ge 61, 3) := by decide +kernel
theorem dX6_findProduct_39 : decode cX6_findProduct 39 = .ok (.aload_n 0, 1) := by decide +kernel
theorem dX6_findProduct_40 : decode cX6_findProduct 40 = .ok (.getfield 32, 3) := by decide +kernel
theorem dX6_findProduct_43 : decode cX6_findProduct 43 = .ok (.iload_n 1, 1) := by decide +kernel
theorem dX6_findProduct_44 : decode cX6_findProduct 44 = .ok (.laload, 1) := by decide +kernel
theorem dX6_findProduct_45 : decode cX6_findProduct 45 = .ok (.lconst 0, 1) := by decide +kernel
theorem dX6_findProduct_46 : decode cX6_findProduct 46 = .ok (.lcmp, 1) := by decide +kernel
theorem dX6_findProduct_47 : decode cX6_findProduct 47 = .ok (.ifCond .eq 50, 3) := by decide +kernel
theorem dX6_findProduct_50 : decode cX6_findProduct 50 = .ok (.aload_n 0, 1) := by decide +kernel
theorem dX6_findProduct_51 : decode cX6_findProduct 51 = .ok (.getfield 22, 3) := by decide +kernel
theorem dX6_findProduct_54 : decode cX6_findProduct 54 = .ok (.iload_n 2, 1) := by decide +kernel
theorem dX6_findProduct_55 : decode cX6_findProduct 55 = .ok (.laload, 1) := by decide +kernel
theorem dX6_findProduct_56 : decode cX6_findProduct 56 = .ok (.lconst 0, 1) := by decide +kernel
theorem dX6_findProduct_57 : decode cX6_findProduct 57 = .ok (.lcmp, 1) := by decide +kernel
theorem dX6_findProduct_58 : decode cX6_findProduct 58 = .ok (.ifCond .eq 33, 3) := by decide +kernel
theorem dX6_findProduct_61 : decode cX6_findProduct 61 = .ok (.aload_n 0, 1) := by decide +kernel
theorem dX6_findProduct_62 : decode cX6_findProduct 62 = .ok (.getfield 39, 3) := by decide +kernel
theorem dX6_findProduct_65 : decode cX6_findProduct 65 = .ok (.iload_n 1, 1) := by decide +kernel
theorem dX6_findProduct_66 : decode cX6_findProduct 66 = .ok (.invokestatic 152, 3) := by decide +kernel
theorem dX6_findProduct_69 : decode cX6_findProduct 69 = .ok (.iload_n 2, 1) := by decide +kernel
theorem dX6_findProduct_70 : decode cX6_findProduct 70 = .ok (.invokestatic 152, 3) := by decide +kernel
theorem dX6_findProduct_73 : decode cX6_findProduct 73 = .ok (.iadd, 1) := by decide +kernel
theorem dX6_findProduct_74 : decode cX6_findProduct 74 = .ok (.dup2, 1) := by decide +kernel
theorem dX6_findProduct_75 : decode cX6_findProduct 75 = .ok (.laload, 1) := by decide +kernel
theorem dX6_findProduct_76 : decode cX6_findProduct 76 = .ok (.aload_n 0, 1) := by decide +kernel
theorem dX6_findProduct_77 : decode cX6_findProduct 77 = .ok (.getfield 32, 3) := by decide +kernel
theorem dX6_findProduct_80 : decode cX6_findProduct 80 = .ok (.iload_n 1, 1) := by decide +kernel
theorem dX6_findProduct_81 : decode cX6_findProduct 81 = .ok (.laload, 1) := by decide +kernel
theorem dX6_findProduct_82 : decode cX6_findProduct 82 = .ok (.aload_n 0, 1) := by decide +kernel
theorem dX6_findProduct_83 : decode cX6_findProduct 83 = .ok (.getfield 22, 3) := by decide +kernel
theorem dX6_findProduct_86 : decode cX6_findProduct 86 = .ok (.iload_n 2, 1) := by decide +kernel
theorem dX6_findProduct_87 : decode cX6_findProduct 87 = .ok (.laload, 1) := by decide +kernel
theorem dX6_findProduct_88 : decode cX6_findProduct 88 = .ok (.lmul, 1) := by decide +kernel
theorem dX6_findProduct_89 : decode cX6_findProduct 89 = .ok (.ladd, 1) := by decide +kernel
theorem dX6_findProduct_90 : decode cX6_findProduct 90 = .ok (.lastore, 1) := by decide +kernel
theorem dX6_findProduct_91 : decode cX6_findProduct 91 = .ok (.iinc 2 1, 3) := by decide +kernel
theorem dX6_findProduct_94 : decode cX6_findProduct 94 = .ok (.goto (-62), 3) := by decide +kernel
theorem dX6_findProduct_97 : decode cX6_findProduct 97 = .ok (.iinc 1 1, 3) := by decide +kernel
theorem dX6_findProduct_100 : decode cX6_findProduct 100 = .ok (.goto (-77), 3) := by decide +kernel
theorem dX6_findProduct_103 : decode cX6_findProduct 103 = .ok (.return_, 1) := by decide +kernel
set_option maxRecDepth 20000 in
theorem ggX6_keeps_X6_wideOf : GoodIn wsX6_keeps wsX6_wideOf := goodIn_r _ [7, 8, 9, 6, 10] (by decide +kernel) (by decide +kernel)
set_option maxRecDepth 20000 in
theorem gX6_keeps_X6_wideOf : GoodIn wsX6_keeps (va_wsS RX6 152 yX6_wideOf wsX6_wideOf) := goodIn_app (goodIn_of _ (by decide +kernel)) ggX6_keeps_X6_wideOf
theorem dX6_keeps_0 : decode cX6_keeps 0 = .ok (.iconst 0, 1) := by decide +kernel
theorem dX6_keeps_1 : decode cX6_keeps 1 = .ok (.istore_n 1, 1) := by decide +kernel
theorem dX6_keeps_2 : decode cX6_keeps 2 = .ok (.iload_n 1, 1) := by decide +kernel
theorem dX6_keeps_3 : decode cX6_keeps 3 = .ok (.sipush 3024, 3) := by decide +kernel
theorem dX6_keeps_6 : decode cX6_keeps 6 = .ok (.if_icmp .ge 34, 3) := by decide +kernel
theorem dX6_keeps_9 : decode cX6_keeps 9 = .ok (.aload_n 0, 1) := by decide +kernel
theorem dX6_keeps_10 : decode cX6_keeps 10 = .ok (.getfield 35, 3) := by decide +kernel
theorem dX6_keeps_13 : decode cX6_keeps 13 = .ok (.iload_n 1, 1) := by decide +kernel
theorem dX6_keeps_14 : decode cX6_keeps 14 = .ok (.aload_n 0, 1) := by decide +kernel
theorem dX6_keeps_15 : decode cX6_keeps 15 = .ok (.getfield 39, 3) := by decide +kernel
theorem dX6_keeps_18 : decode cX6_keeps 18 = .ok (.iload_n 1, 1) := by decide +kernel
theorem dX6_keeps_19 : decode cX6_keeps 19 = .ok (.invokestatic 152, 3) := by decide +kernel
theorem dX6_keeps_22 : decode cX6_keeps 22 = .ok (.laload, 1) := by decide +kernel
theorem dX6_keeps_23 : decode cX6_keeps 23 = .ok (.lastore, 1) := by decide +kernel
theorem dX6_keeps_24 : decode cX6_keeps 24 = .ok (.aload_n 0, 1) := by decide +kernel
theorem dX6_keeps_25 : decode cX6_keeps 25 = .ok (.getfield 39, 3) := by decide +kernel
theorem dX6_keeps_28 : decode cX6_keeps 28 = .ok (.iload_n 1, 1) := by decide +kernel
theorem dX6_keeps_29 : decode cX6_keeps 29 = .ok (.invokestatic 152, 3) := by decide +kernel
theorem dX6_keeps_32 : decode cX6_keeps 32 = .ok (.lconst 0, 1) := by decide +kernel
theorem dX6_keeps_33 : decode cX6_keeps 33 = .ok (.lastore, 1) := by decide +kernel
theorem dX6_keeps_34 : decode cX6_keeps 34 = .ok (.iinc 1 1, 3) := by decide +kernel
theorem dX6_keeps_37 : decode cX6_keeps 37 = .ok (.goto (-35), 3) := by decide +kernel
theorem dX6_keeps_40 : decode cX6_keeps 40 = .ok (.iconst 1, 1) := by decide +kernel
theorem dX6_keeps_41 : decode cX6_keeps 41 = .ok (.istore_n 1, 1) := by decide +kernel
theorem dX6_keeps_42 : decode cX6_keeps 42 = .ok (.iconst 0, 1) := by decide +kernel
theorem dX6_keeps_43 : decode cX6_keeps 43 = .ok (.istore_n 2, 1) := by decide +kernel
theorem dX6_keeps_44 : decode cX6_keeps 44 = .ok (.iload_n 2, 1) := by decide +kernel
theorem dX6_keeps_45 : decode cX6_keeps 45 = .ok (.ldc 38, 2) := by decide +kernel
theorem dX6_keeps_47 : decode cX6_keeps 47 = .ok (.if_icmp .ge 30, 3) := by decide +kernel
theorem dX6_keeps_50 : decode cX6_keeps 50 = .ok (.iload_n 1, 1) := by decide +kernel
theorem dX6_keeps_51 : decode cX6_keeps 51 = .ok (.ifCond .eq 18, 3) := by decide +kernel
theorem dX6_keeps_54 : decode cX6_keeps 54 = .ok (.aload_n 0, 1) := by decide +kernel
theorem dX6_keeps_55 : decode cX6_keeps 55 = .ok (.getfield 39, 3) := by decide +kernel
theorem dX6_keeps_58 : decode cX6_keeps 58 = .ok (.iload_n 2, 1) := by decide +kernel
theorem dX6_keeps_59 : decode cX6_keeps 59 = .ok (.laload, 1) := by decide +kernel
theorem dX6_keeps_60 : decode cX6_keeps 60 = .ok (.lconst 0, 1) := by decide +kernel
theorem dX6_keeps_61 : decode cX6_keeps 61 = .ok (.lcmp, 1) := by decide +kernel
theorem dX6_keeps_62 : decode cX6_keeps 62 = .ok (.ifCond .ne 7, 3) := by decide +kernel
theorem dX6_keeps_65 : decode cX6_keeps 65 = .ok (.iconst 1, 1) := by decide +kernel
theorem dX6_keeps_66 : decode cX6_keeps 66 = .ok (.goto 4, 3) := by decide +kernel
theorem dX6_keeps_69 : decode cX6_keeps 69 = .ok (.iconst 0, 1) := by decide +kernel
theorem dX6_keeps_70 : decode cX6_keeps 70 = .ok (.istore_n 1, 1) := by decide +kernel
theorem dX6_keeps_71 : decode cX6_keeps 71 = .ok (.iinc 2 1, 3) := by decide +kernel
theorem dX6_keeps_74 : decode cX6_keeps 74 = .ok (.goto (-30), 3) := by decide +kernel
theorem dX6_keeps_77 : decode cX6_keeps 77 = .ok (.iload_n 1, 1) := by decide +kernel
theorem dX6_keeps_78 : decode cX6_keeps 78 = .ok (.ireturn, 1) := by decide +kernel
set_option maxRecDepth 20000 in
theorem ggX6_multiply_X6_lays : GoodIn wsX6_multiply wsX6_lays := goodIn_r _ [5, 6, 7, 4, 8] (by decide +kernel) (by decide +kernel)
set_option maxRecDepth 20000 in
theorem gX6_multiply_X6_lays : GoodIn wsX6_multiply (va_wsS RX6 63 yX6_lays wsX6_lays) := goodIn_app (goodIn_of _ (by decide +kernel)) ggX6_multiply_X6_lays
set_option maxRecDepth 20000 in
theorem ggX6_multiply_X6_isFit : GoodIn wsX6_multiply wsX6_isFit := goodIn_r _ [11, 12, 13, 4, 14] (by decide +kernel) (by decide +kernel)
set_option maxRecDepth 20000 in
theorem gX6_multiply_X6_isFit : GoodIn wsX6_multiply (va_wsS RX6 115 yX6_isFit wsX6_isFit) := goodIn_app (goodIn_of _ (by decide +kernel)) ggX6_multiply_X6_isFit
set_option maxRecDepth 20000 in
theorem ggX6_multiply_X6_findS : GoodIn wsX6_multiply wsX6_findS := goodIn_r _ [18, 19, 20, 21, 22, 4, 23, 24, 25, 26, 27, 28, 29, 30, 31, 32, 33, 34, 35, 36, 37, 38, 39, 40, 66, 67, 68, 69, 70, 71, 72, 73, 74, 75, 76, 77, 78, 79, 80, 81] (by decide +kernel) (by decide +kernel)
set_option maxRecDepth 20000 in
theorem gX6_multiply_X6_findS : GoodIn wsX6_multiply (wsV RX6 118 RX6 yX6_findS wsX6_findS) := goodIn_app (goodIn_of _ (by decide +kernel)) ggX6_multiply_X6_findS
set_option maxRecDepth 20000 in
theorem ggX6_multiply_X6_findProduct : GoodIn wsX6_multiply wsX6_findProduct := goodIn_r _ [44, 45, 46, 47, 20, 48, 49, 4, 50, 38, 39, 40, 66, 67, 68, 69, 70, 71, 72, 73, 74, 75, 76, 77, 78, 79, 80, 81] (by decide +kernel) (by decide +kernel)
set_option maxRecDepth 20000 in
theorem gX6_multiply_X6_findProduct : GoodIn wsX6_multiply (wsV RX6 155 RX6 yX6_findProduct wsX6_findProduct) := goodIn_app (goodIn_of _ (by decide +kernel)) ggX6_multiply_X6_findProduct
set_option maxRecDepth 20000 in
theorem ggX6_multiply_X6_keeps : GoodIn wsX6_multiply wsX6_keeps := goodIn_r _ [54, 55, 46, 45, 48, 49, 4, 50, 38, 39, 40, 66, 67, 68, 69, 70, 71, 72, 73, 74, 75, 76, 77, 78, 79, 80, 81] (by decide +kernel) (by decide +kernel)
set_option maxRecDepth 20000 in
theorem gX6_multiply_X6_keeps : GoodIn wsX6_multiply (wsV RX6 158 RX6 yX6_keeps wsX6_keeps) := goodIn_app (goodIn_of _ (by decide +kernel)) ggX6_multiply_X6_keeps
set_option maxRecDepth 20000 in
theorem ggX6_multiply_X6_becomes : GoodIn wsX6_multiply wsX6_becomes := goodIn_r _ [59, 55, 60, 61, 47, 62, 63, 64, 4, 65, 66, 67, 68, 69, 70, 71, 72, 73, 74, 75, 76, 77, 78, 79, 80, 81] (by decide +kernel) (by decide +kernel)
set_option maxRecDepth 20000 in
theorem gX6_multiply_X6_becomes : GoodIn wsX6_multiply (wsV RX6 148 RX6 yX6_becomes wsX6_becomes) := goodIn_app (goodIn_of _ (by decide +kernel)) ggX6_multiply_X6_becomes
theorem dX6_multiply_0 : decode cX6_multiply 0 = .ok (.iload_n 1, 1) := by decide +kernel
theorem dX6_multiply_1 : decode cX6_multiply 1 = .ok (.aload_n 0, 1) := by decide +kernel
theorem dX6_multiply_2 : decode cX6_multiply 2 = .ok (.getfield 7, 3) := by decide +kernel
theorem dX6_multiply_5 : decode cX6_multiply 5 = .ok (.invokestatic 63, 3) := by decide +kernel
theorem dX6_multiply_8 : decode cX6_multiply 8 = .ok (.ifCond .ne 6, 3) := by decide +kernel
theorem dX6_multiply_11 : decode cX6_multiply 11 = .ok (.bipush (-2), 2) := by decide +kernel
theorem dX6_multiply_13 : decode cX6_multiply 13 = .ok (.ireturn, 1) := by decide +kernel
theorem dX6_multiply_14 : decode cX6_multiply 14 = .ok (.aload_n 0, 1) := by decide +kernel
theorem dX6_multiply_15 : decode cX6_multiply 15 = .ok (.getfield 7, 3) := by decide +kernel
theorem dX6_multiply_18 : decode cX6_multiply 18 = .ok (.invokestatic 115, 3) := by decide +kernel
theorem dX6_multiply_21 : decode cX6_multiply 21 = .ok (.ifCond .ne 6, 3) := by decide +kernel
theorem dX6_multiply_24 : decode cX6_multiply 24 = .ok (.bipush (-3), 2) := by decide +kernel
theorem dX6_multiply_26 : decode cX6_multiply 26 = .ok (.ireturn, 1) := by decide +kernel
theorem dX6_multiply_27 : decode cX6_multiply 27 = .ok (.aload_n 0, 1) := by decide +kernel
theorem dX6_multiply_28 : decode cX6_multiply 28 = .ok (.aload_n 0, 1) := by decide +kernel
theorem dX6_multiply_29 : decode cX6_multiply 29 = .ok (.getfield 7, 3) := by decide +kernel
theorem dX6_multiply_32 : decode cX6_multiply 32 = .ok (.invokevirtual 118, 3) := by decide +kernel
theorem dX6_multiply_35 : decode cX6_multiply 35 = .ok (.aload_n 0, 1) := by decide +kernel
theorem dX6_multiply_36 : decode cX6_multiply 36 = .ok (.invokevirtual 155, 3) := by decide +kernel
theorem dX6_multiply_39 : decode cX6_multiply 39 = .ok (.aload_n 0, 1) := by decide +kernel
theorem dX6_multiply_40 : decode cX6_multiply 40 = .ok (.invokevirtual 158, 3) := by decide +kernel
theorem dX6_multiply_43 : decode cX6_multiply 43 = .ok (.ifCond .eq 10, 3) := by decide +kernel
theorem dX6_multiply_46 : decode cX6_multiply 46 = .ok (.aload_n 0, 1) := by decide +kernel
theorem dX6_multiply_47 : decode cX6_multiply 47 = .ok (.invokevirtual 148, 3) := by decide +kernel
theorem dX6_multiply_50 : decode cX6_multiply 50 = .ok (.goto 5, 3) := by decide +kernel
theorem dX6_multiply_53 : decode cX6_multiply 53 = .ok (.bipush (-5), 2) := by decide +kernel
theorem dX6_multiply_55 : decode cX6_multiply 55 = .ok (.ireturn, 1) := by decide +kernel
set_option maxRecDepth 20000 in
theorem ggX6_difference_X6_within : GoodIn wsX6_difference wsX6_within := goodIn_r _ [6] (by decide +kernel) (by decide +kernel)
set_option maxRecDepth 20000 in
theorem gX6_difference_X6_within : GoodIn wsX6_difference (va_wsS RX6 51 yX6_within wsX6_within) := goodIn_app (goodIn_of _ (by decide +kernel)) ggX6_difference_X6_within
set_option maxRecDepth 20000 in
theorem ggX6_difference_X6_differs : GoodIn wsX6_difference wsX6_differs := goodIn_r _ [10, 11, 12, 13, 5, 14, 15, 16, 17, 28, 29, 30, 31, 32, 33, 34, 35, 36, 37, 38, 39, 40, 41, 42, 43] (by decide +kernel) (by decide +kernel)
set_option maxRecDepth 20000 in
theorem gX6_difference_X6_differs : GoodIn wsX6_difference (wsV RX6 111 RX6 yX6_differs wsX6_differs) := goodIn_app (goodIn_of _ (by decide +kernel)) ggX6_difference_X6_differs
set_option maxRecDepth 20000 in
theorem ggX6_difference_X6_becomes : GoodIn wsX6_difference wsX6_becomes := goodIn_r _ [21, 1, 22, 23, 2, 24, 25, 26, 5, 27, 28, 29, 30, 31, 32, 33, 34, 35, 36, 37, 38, 39, 40, 41, 42, 43] (by decide +kernel) (by decide +kernel)
set_option maxRecDepth 20000 in
theorem gX6_difference_X6_becomes : GoodIn wsX6_difference (wsV RX6 148 RX6 yX6_becomes wsX6_becomes) := goodIn_app (goodIn_of _ (by decide +kernel)) ggX6_difference_X6_becomes
theorem dX6_difference_0 : decode cX6_difference 0 = .ok (.iload_n 1, 1) := by decide +kernel
theorem dX6_difference_1 : decode cX6_difference 1 = .ok (.iconst 1, 1) := by decide +kernel
theorem dX6_difference_2 : decode cX6_difference 2 = .ok (.iconst 3, 1) := by decide +kernel
theorem dX6_difference_3 : decode cX6_difference 3 = .ok (.invokestatic 51, 3) := by decide +kernel
theorem dX6_difference_6 : decode cX6_difference 6 = .ok (.ifCond .ne 6, 3) := by decide +kernel
theorem dX6_difference_9 : decode cX6_difference 9 = .ok (.bipush (-2), 2) := by decide +kernel
theorem dX6_difference_11 : decode cX6_difference 11 = .ok (.ireturn, 1) := by decide +kernel
theorem dX6_difference_12 : decode cX6_difference 12 = .ok (.iconst 0, 1) := by decide +kernel
theorem dX6_difference_13 : decode cX6_difference 13 = .ok (.istore_n 2, 1) := by decide +kernel
theorem dX6_difference_14 : decode cX6_difference 14 = .ok (.iload_n 2, 1) := by decide +kernel
theorem dX6_difference_15 : decode cX6_difference 15 = .ok (.sipush 3024, 3) := by decide +kernel
theorem dX6_difference_18 : decode cX6_difference 18 = .ok (.if_icmp .ge 21, 3) := by decide +kernel
theorem dX6_difference_21 : decode cX6_difference 21 = .ok (.aload_n 0, 1) := by decide +kernel
theorem dX6_difference_22 : decode cX6_difference 22 = .ok (.getfield 35, 3) := by decide +kernel
theorem dX6_difference_25 : decode cX6_difference 25 = .ok (.iload_n 2, 1) := by decide +kernel
theorem dX6_difference_26 : decode cX6_difference 26 = .ok (.aload_n 0, 1) := by decide +kernel
theorem dX6_difference_27 : decode cX6_difference 27 = .ok (.getfield 32, 3) := by decide +kernel
theorem dX6_difference_30 : decode cX6_difference 30 = .ok (.iload_n 2, 1) := by decide +kernel
theorem dX6_difference_31 : decode cX6_difference 31 = .ok (.laload, 1) := by decide +kernel
theorem dX6_difference_32 : decode cX6_difference 32 = .ok (.lastore, 1) := by decide +kernel
theorem dX6_difference_33 : decode cX6_difference 33 = .ok (.iinc 2 1, 3) := by decide +kernel
theorem dX6_difference_36 : decode cX6_difference 36 = .ok (.goto (-22), 3) := by decide +kernel
theorem dX6_difference_39 : decode cX6_difference 39 = .ok (.aload_n 0, 1) := by decide +kernel
theorem dX6_difference_40 : decode cX6_difference 40 = .ok (.aload_n 0, 1) := by decide +kernel
theorem dX6_difference_41 : decode cX6_difference 41 = .ok (.getfield 35, 3) := by decide +kernel
theorem dX6_difference_44 : decode cX6_difference 44 = .ok (.iload_n 1, 1) := by decide +kernel
theorem dX6_difference_45 : decode cX6_difference 45 = .ok (.invokevirtual 111, 3) := by decide +kernel
theorem dX6_difference_48 : decode cX6_difference 48 = .ok (.aload_n 0, 1) := by decide +kernel
theorem dX6_difference_49 : decode cX6_difference 49 = .ok (.invokevirtual 148, 3) := by decide +kernel
theorem dX6_difference_52 : decode cX6_difference 52 = .ok (.ireturn, 1) := by decide +kernel
set_option maxRecDepth 20000 in
theorem ggX6_sheet_X6_isCell : GoodIn wsX6_sheet wsX6_isCell := goodIn_r _ [6, 7, 8, 5, 9] (by decide +kernel) (by decide +kernel)
set_option maxRecDepth 20000 in
theorem gX6_sheet_X6_isCell : GoodIn wsX6_sheet (va_wsS RX6 122 yX6_isCell wsX6_isCell) := goodIn_app (goodIn_of _ (by decide +kernel)) ggX6_sheet_X6_isCell
set_option maxRecDepth 20000 in
theorem ggX6_sheet_X6_cellOf : GoodIn wsX6_sheet wsX6_cellOf := goodIn_r _ [12] (by decide +kernel) (by decide +kernel)
set_option maxRecDepth 20000 in
theorem gX6_sheet_X6_cellOf : GoodIn wsX6_sheet (va_wsS RX6 107 yX6_cellOf wsX6_cellOf) := goodIn_app (goodIn_of _ (by decide +kernel)) ggX6_sheet_X6_cellOf
theorem dX6_sheet_0 : decode cX6_sheet 0 = .ok (.iload_n 1, 1) := by decide +kernel
theorem dX6_sheet_1 : decode cX6_sheet 1 = .ok (.ifCond .lt 16, 3) := by decide +kernel
theorem dX6_sheet_4 : decode cX6_sheet 4 = .ok (.iload_n 2, 1) := by decide +kernel
theorem dX6_sheet_5 : decode cX6_sheet 5 = .ok (.ifCond .lt 12, 3) := by decide +kernel
theorem dX6_sheet_8 : decode cX6_sheet 8 = .ok (.iload_n 3, 1) := by decide +kernel
theorem dX6_sheet_9 : decode cX6_sheet 9 = .ok (.ifCond .lt 8, 3) := by decide +kernel
theorem dX6_sheet_12 : decode cX6_sheet 12 = .ok (.iload 4, 2) := by decide +kernel
theorem dX6_sheet_14 : decode cX6_sheet 14 = .ok (.ifCond .ge 7, 3) := by decide +kernel
theorem dX6_sheet_17 : decode cX6_sheet 17 = .ok (.ldc2_w 134, 3) := by decide +kernel
theorem dX6_sheet_20 : decode cX6_sheet 20 = .ok (.lreturn, 1) := by decide +kernel
theorem dX6_sheet_21 : decode cX6_sheet 21 = .ok (.iload_n 1, 1) := by decide +kernel
theorem dX6_sheet_22 : decode cX6_sheet 22 = .ok (.iload_n 2, 1) := by decide +kernel
theorem dX6_sheet_23 : decode cX6_sheet 23 = .ok (.iload_n 3, 1) := by decide +kernel
theorem dX6_sheet_24 : decode cX6_sheet 24 = .ok (.iload 4, 2) := by decide +kernel
theorem dX6_sheet_26 : decode cX6_sheet 26 = .ok (.invokestatic 122, 3) := by decide +kernel
theorem dX6_sheet_29 : decode cX6_sheet 29 = .ok (.ifCond .eq 19, 3) := by decide +kernel
theorem dX6_sheet_32 : decode cX6_sheet 32 = .ok (.aload_n 0, 1) := by decide +kernel
theorem dX6_sheet_33 : decode cX6_sheet 33 = .ok (.getfield 32, 3) := by decide +kernel
theorem dX6_sheet_36 : decode cX6_sheet 36 = .ok (.iload_n 1, 1) := by decide +kernel
theorem dX6_sheet_37 : decode cX6_sheet 37 = .ok (.iload_n 2, 1) := by decide +kernel
theorem dX6_sheet_38 : decode cX6_sheet 38 = .ok (.iload_n 3, 1) := by decide +kernel
theorem dX6_sheet_39 : decode cX6_sheet 39 = .ok (.iload 4, 2) := by decide +kernel
theorem dX6_sheet_41 : decode cX6_sheet 41 = .ok (.invokestatic 107, 3) := by decide +kernel
theorem dX6_sheet_44 : decode cX6_sheet 44 = .ok (.laload, 1) := by decide +kernel
theorem dX6_sheet_45 : decode cX6_sheet 45 = .ok (.goto 4, 3) := by decide +kernel
theorem dX6_sheet_48 : decode cX6_sheet 48 = .ok (.lconst 0, 1) := by decide +kernel
theorem dX6_sheet_49 : decode cX6_sheet 49 = .ok (.lreturn, 1) := by decide +kernel
theorem dX6_adds_0 : decode cX6_adds 0 = .ok (.aload_n 0, 1) := by decide +kernel
theorem dX6_adds_1 : decode cX6_adds 1 = .ok (.getfield 162, 3) := by decide +kernel
theorem dX6_adds_4 : decode cX6_adds 4 = .ok (.istore 4, 2) := by decide +kernel
theorem dX6_adds_6 : decode cX6_adds 6 = .ok (.iload 4, 2) := by decide +kernel
theorem dX6_adds_8 : decode cX6_adds 8 = .ok (.ifCond .le 54, 3) := by decide +kernel
theorem dX6_adds_11 : decode cX6_adds 11 = .ok (.aload_n 0, 1) := by decide +kernel
theorem dX6_adds_12 : decode cX6_adds 12 = .ok (.getfield 42, 3) := by decide +kernel
theorem dX6_adds_15 : decode cX6_adds 15 = .ok (.iload 4, 2) := by decide +kernel
theorem dX6_adds_17 : decode cX6_adds 17 = .ok (.iconst 1, 1) := by decide +kernel
theorem dX6_adds_18 : decode cX6_adds 18 = .ok (.isub, 1) := by decide +kernel
theorem dX6_adds_19 : decode cX6_adds 19 = .ok (.iaload, 1) := by decide +kernel
theorem dX6_adds_20 : decode cX6_adds 20 = .ok (.iload_n 1, 1) := by decide +kernel
theorem dX6_adds_21 : decode cX6_adds 21 = .ok (.if_icmp .le 41, 3) := by decide +kernel
theorem dX6_adds_24 : decode cX6_adds 24 = .ok (.aload_n 0, 1) := by decide +kernel
theorem dX6_adds_25 : decode cX6_adds 25 = .ok (.getfield 42, 3) := by decide +kernel
theorem dX6_adds_28 : decode cX6_adds 28 = .ok (.iload 4, 2) := by decide +kernel
theorem dX6_adds_30 : decode cX6_adds 30 = .ok (.aload_n 0, 1) := by decide +kernel
theorem dX6_adds_31 : decode cX6_adds 31 = .ok (.getfield 42, 3) := by decide +kernel
theorem dX6_adds_34 : decode cX6_adds 34 = .ok (.iload 4, 2) := by decide +kernel
theorem dX6_adds_36 : decode cX6_adds 36 = .ok (.iconst 1, 1) := by decide +kernel
theorem dX6_adds_37 : decode cX6_adds 37 = .ok (.isub, 1) := by decide +kernel
theorem dX6_adds_38 : decode cX6_adds 38 = .ok (.iaload, 1) := by decide +kernel
theorem dX6_adds_39 : decode cX6_adds 39 = .ok (.iastore, 1) := by decide +kernel
theorem dX6_adds_40 : decode cX6_adds 40 = .ok (.aload_n 0, 1) := by decide +kernel
theorem dX6_adds_41 : decode cX6_adds 41 = .ok (.getfield 45, 3) := by decide +kernel
theorem dX6_adds_44 : decode cX6_adds 44 = .ok (.iload 4, 2) := by decide +kernel
theorem dX6_adds_46 : decode cX6_adds 46 = .ok (.aload_n 0, 1) := by decide +kernel
theorem dX6_adds_47 : decode cX6_adds 47 = .ok (.getfield 45, 3) := by decide +kernel
theorem dX6_adds_50 : decode cX6_adds 50 = .ok (.iload 4, 2) := by decide +kernel
theorem dX6_adds_52 : decode cX6_adds 52 = .ok (.iconst 1, 1) := by decide +kernel
theorem dX6_adds_53 : decode cX6_adds 53 = .ok (.isub, 1) := by decide +kernel
theorem dX6_adds_54 : decode cX6_adds 54 = .ok (.laload, 1) := by decide +kernel
theorem dX6_adds_55 : decode cX6_adds 55 = .ok (.lastore, 1) := by decide +kernel
theorem dX6_adds_56 : decode cX6_adds 56 = .ok (.iinc 4 (-1), 3) := by decide +kernel
theorem dX6_adds_59 : decode cX6_adds 59 = .ok (.goto (-53), 3) := by decide +kernel
theorem dX6_adds_62 : decode cX6_adds 62 = .ok (.aload_n 0, 1) := by decide +kernel
theorem dX6_adds_63 : decode cX6_adds 63 = .ok (.getfield 42, 3) := by decide +kernel
theorem dX6_adds_66 : decode cX6_adds 66 = .ok (.iload 4, 2) := by decide +kernel
theorem dX6_adds_68 : decode cX6_adds 68 = .ok (.iload_n 1, 1) := by decide +kernel
theorem dX6_adds_69 : decode cX6_adds 69 = .ok (.iastore, 1) := by decide +kernel
theorem dX6_adds_70 : decode cX6_adds 70 = .ok (.aload_n 0, 1) := by decide +kernel
theorem dX6_adds_71 : decode cX6_adds 71 = .ok (.getfield 45, 3) := by decide +kernel
theorem dX6_adds_74 : decode cX6_adds 74 = .ok (.iload 4, 2) := by decide +kernel
theorem dX6_adds_76 : decode cX6_adds 76 = .ok (.lload_n 2, 1) := by decide +kernel
theorem dX6_adds_77 : decode cX6_adds 77 = .ok (.lastore, 1) := by decide +kernel
theorem dX6_adds_78 : decode cX6_adds 78 = .ok (.aload_n 0, 1) := by decide +kernel
theorem dX6_adds_79 : decode cX6_adds 79 = .ok (.dup, 1) := by decide +kernel
theorem dX6_adds_80 : decode cX6_adds 80 = .ok (.getfield 162, 3) := by decide +kernel
theorem dX6_adds_83 : decode cX6_adds 83 = .ok (.iconst 1, 1) := by decide +kernel
theorem dX6_adds_84 : decode cX6_adds 84 = .ok (.iadd, 1) := by decide +kernel
theorem dX6_adds_85 : decode cX6_adds 85 = .ok (.putfield 162, 3) := by decide +kernel
theorem dX6_adds_88 : decode cX6_adds 88 = .ok (.return_, 1) := by decide +kernel
set_option maxRecDepth 20000 in
theorem ggX6_findParts_X6_exponentAt : GoodIn wsX6_findParts wsX6_exponentAt := goodIn_r _ [10] (by decide +kernel) (by decide +kernel)
set_option maxRecDepth 20000 in
theorem gX6_findParts_X6_exponentAt : GoodIn wsX6_findParts (va_wsS RX6 103 yX6_exponentAt wsX6_exponentAt) := goodIn_app (goodIn_of _ (by decide +kernel)) ggX6_findParts_X6_exponentAt
set_option maxRecDepth 20000 in
theorem ggX6_findParts_X6_laysCode : GoodIn wsX6_findParts wsX6_laysCode := goodIn_r _ [14] (by decide +kernel) (by decide +kernel)
set_option maxRecDepth 20000 in
theorem gX6_findParts_X6_laysCode : GoodIn wsX6_findParts (wsV RX6 73 RX6 yX6_laysCode wsX6_laysCode) := goodIn_app (goodIn_of _ (by decide +kernel)) ggX6_findParts_X6_laysCode
set_option maxRecDepth 20000 in
theorem ggX6_findParts_X6_plainOf : GoodIn wsX6_findParts wsX6_plainOf := goodIn_r _ [17] (by decide +kernel) (by decide +kernel)
set_option maxRecDepth 20000 in
theorem gX6_findParts_X6_plainOf : GoodIn wsX6_findParts (va_wsS RX6 67 yX6_plainOf wsX6_plainOf) := goodIn_app (goodIn_of _ (by decide +kernel)) ggX6_findParts_X6_plainOf
set_option maxRecDepth 20000 in
theorem ggX6_findParts_X6_adds : GoodIn wsX6_findParts wsX6_adds := goodIn_r _ [21, 1, 22, 23, 46, 47, 48, 49, 50, 51, 52, 53, 54, 55, 56, 57, 58, 59, 60, 61] (by decide +kernel) (by decide +kernel)
set_option maxRecDepth 20000 in
theorem gX6_findParts_X6_adds : GoodIn wsX6_findParts (wsV RX6 166 RX6 yX6_adds wsX6_adds) := goodIn_app (goodIn_of _ (by decide +kernel)) ggX6_findParts_X6_adds
set_option maxRecDepth 20000 in
theorem ggX6_findParts_X6_findS : GoodIn wsX6_findParts wsX6_findS := goodIn_r _ [27, 28, 5, 29, 30, 9, 31, 32, 33, 34, 35, 36, 37, 38, 39, 40, 41, 42, 43, 44, 45, 7, 8, 10, 46, 47, 48, 49, 50, 51, 52, 53, 54, 55, 56, 57, 58, 59, 60, 61] (by decide +kernel) (by decide +kernel)
set_option maxRecDepth 20000 in
theorem gX6_findParts_X6_findS : GoodIn wsX6_findParts (wsV RX6 118 RX6 yX6_findS wsX6_findS) := goodIn_app (goodIn_of _ (by decide +kernel)) ggX6_findParts_X6_findS
theorem dX6_findParts_0 : decode cX6_findParts 0 = .ok (.aload_n 0, 1) := by decide +kernel
theorem dX6_findParts_1 : decode cX6_findParts 1 = .ok (.iconst 0, 1) := by decide +kernel
theorem dX6_findParts_2 : decode cX6_findParts 2 = .ok (.putfield 162, 3) := by decide +kernel
theorem dX6_findParts_5 : decode cX6_findParts 5 = .ok (.iconst 0, 1) := by decide +kernel
theorem dX6_findParts_6 : decode cX6_findParts 6 = .ok (.istore_n 1, 1) := by decide +kernel
theorem dX6_findParts_7 : decode cX6_findParts 7 = .ok (.iload_n 1, 1) := by decide +kernel
theorem dX6_findParts_8 : decode cX6_findParts 8 = .ok (.sipush 3024, 3) := by decide +kernel
theorem dX6_findParts_11 : decode cX6_findParts 11 = .ok (.if_icmp .ge 21, 3) := by decide +kernel
theorem dX6_findParts_14 : decode cX6_findParts 14 = .ok (.aload_n 0, 1) := by decide +kernel
theorem dX6_findParts_15 : decode cX6_findParts 15 = .ok (.getfield 35, 3) := by decide +kernel
theorem dX6_findParts_18 : decode cX6_findParts 18 = .ok (.iload_n 1, 1) := by decide +kernel
theorem dX6_findParts_19 : decode cX6_findParts 19 = .ok (.aload_n 0, 1) := by decide +kernel
theorem dX6_findParts_20 : decode cX6_findParts 20 = .ok (.getfield 32, 3) := by decide +kernel
theorem dX6_findParts_23 : decode cX6_findParts 23 = .ok (.iload_n 1, 1) := by decide +kernel
theorem dX6_findParts_24 : decode cX6_findParts 24 = .ok (.laload, 1) := by decide +kernel
theorem dX6_findParts_25 : decode cX6_findParts 25 = .ok (.lastore, 1) := by decide +kernel
theorem dX6_findParts_26 : decode cX6_findParts 26 = .ok (.iinc 1 1, 3) := by decide +kernel
theorem dX6_findParts_29 : decode cX6_findParts 29 = .ok (.goto (-22), 3) := by decide +kernel
theorem dX6_findParts_32 : decode cX6_findParts 32 = .ok (.iconst 0, 1) := by decide +kernel
theorem dX6_findParts_33 : decode cX6_findParts 33 = .ok (.istore_n 1, 1) := by decide +kernel
theorem dX6_findParts_34 : decode cX6_findParts 34 = .ok (.iload_n 1, 1) := by decide +kernel
theorem dX6_findParts_35 : decode cX6_findParts 35 = .ok (.sipush 3024, 3) := by decide +kernel
theorem dX6_findParts_38 : decode cX6_findParts 38 = .ok (.if_icmp .ge 106, 3) := by decide +kernel
theorem dX6_findParts_41 : decode cX6_findParts 41 = .ok (.aload_n 0, 1) := by decide +kernel
theorem dX6_findParts_42 : decode cX6_findParts 42 = .ok (.getfield 35, 3) := by decide +kernel
theorem dX6_findParts_45 : decode cX6_findParts 45 = .ok (.iload_n 1, 1) := by decide +kernel
theorem dX6_findParts_46 : decode cX6_findParts 46 = .ok (.laload, 1) := by decide +kernel
theorem dX6_findParts_47 : decode cX6_findParts 47 = .ok (.lstore_n 2, 1) := by decide +kernel
theorem dX6_findParts_48 : decode cX6_findParts 48 = .ok (.lload_n 2, 1) := by decide +kernel
theorem dX6_findParts_49 : decode cX6_findParts 49 = .ok (.lconst 0, 1) := by decide +kernel
theorem dX6_findParts_50 : decode cX6_findParts 50 = .ok (.lcmp, 1) := by decide +kernel
theorem dX6_findParts_51 : decode cX6_findParts 51 = .ok (.ifCond .eq 87, 3) := by decide +kernel
theorem dX6_findParts_54 : decode cX6_findParts 54 = .ok (.aload_n 0, 1) := by decide +kernel
theorem dX6_findParts_55 : decode cX6_findParts 55 = .ok (.iload_n 1, 1) := by decide +kernel
theorem dX6_findParts_56 : decode cX6_findParts 56 = .ok (.iconst 1, 1) := by decide +kernel
theorem dX6_findParts_57 : decode cX6_findParts 57 = .ok (.invokestatic 103, 3) := by decide +kernel
theorem dX6_findParts_60 : decode cX6_findParts 60 = .ok (.iload_n 1, 1) := by decide +kernel
theorem dX6_findParts_61 : decode cX6_findParts 61 = .ok (.iconst 2, 1) := by decide +kernel
theorem dX6_findParts_62 : decode cX6_findParts 62 = .ok (.invokestatic 103, 3) := by decide +kernel
theorem dX6_findParts_65 : decode cX6_findParts 65 = .ok (.iload_n 1, 1) := by decide +kernel
theorem dX6_findParts_66 : decode cX6_findParts 66 = .ok (.iconst 3, 1) := by decide +kernel
theorem dX6_findParts_67 : decode cX6_findParts 67 = .ok (.invokestatic 103, 3) := by decide +kernel
theorem dX6_findParts_70 : decode cX6_findParts 70 = .ok (.iload_n 1, 1) := by decide +kernel
theorem dX6_findParts_71 : decode cX6_findParts 71 = .ok (.iconst 4, 1) := by decide +kernel
theorem dX6_findParts_72 : decode cX6_findParts 72 = .ok (.invokestatic 103, 3) := by decide +kernel
theorem dX6_findParts_75 : decode cX6_findParts 75 = .ok (.aload_n 0, 1) := by decide +kernel
theorem dX6_findParts_76 : decode cX6_findParts 76 = .ok (.getfield 13, 3) := by decide +kernel
theorem dX6_findParts_79 : decode cX6_findParts 79 = .ok (.invokevirtual 73, 3) := by decide +kernel
theorem dX6_findParts_82 : decode cX6_findParts 82 = .ok (.aload_n 0, 1) := by decide +kernel
theorem dX6_findParts_83 : decode cX6_findParts 83 = .ok (.aload_n 0, 1) := by decide +kernel
theorem dX6_findParts_84 : decode cX6_findParts 84 = .ok (.getfield 13, 3) := by decide +kernel
theorem dX6_findParts_87 : decode cX6_findParts 87 = .ok (.invokestatic 67, 3) := by decide +kernel
theorem dX6_findParts_90 : decode cX6_findParts 90 = .ok (.lload_n 2, 1) := by decide +kernel
theorem dX6_findParts_91 : decode cX6_findParts 91 = .ok (.invokevirtual 166, 3) := by decide +kernel
theorem dX6_findParts_94 : decode cX6_findParts 94 = .ok (.aload_n 0, 1) := by decide +kernel
theorem dX6_findParts_95 : decode cX6_findParts 95 = .ok (.aload_n 0, 1) := by decide +kernel
theorem dX6_findParts_96 : decode cX6_findParts 96 = .ok (.getfield 13, 3) := by decide +kernel
theorem dX6_findParts_99 : decode cX6_findParts 99 = .ok (.invokevirtual 118, 3) := by decide +kernel
theorem dX6_findParts_102 : decode cX6_findParts 102 = .ok (.iload_n 1, 1) := by decide +kernel
theorem dX6_findParts_103 : decode cX6_findParts 103 = .ok (.istore 4, 2) := by decide +kernel
theorem dX6_findParts_105 : decode cX6_findParts 105 = .ok (.iload 4, 2) := by decide +kernel
theorem dX6_findParts_107 : decode cX6_findParts 107 = .ok (.sipush 3024, 3) := by decide +kernel
theorem dX6_findParts_110 : decode cX6_findParts 110 = .ok (.if_icmp .ge 28, 3) := by decide +kernel
theorem dX6_findParts_113 : decode cX6_findParts 113 = .ok (.aload_n 0, 1) := by decide +kernel
theorem dX6_findParts_114 : decode cX6_findParts 114 = .ok (.getfield 35, 3) := by decide +kernel
theorem dX6_findParts_117 : decode cX6_findParts 117 = .ok (.iload 4, 2) := by decide +kernel
theorem dX6_findParts_119 : decode cX6_findParts 119 = .ok (.dup2, 1) := by decide +kernel
theorem dX6_findParts_120 : decode cX6_findParts 120 = .ok (.laload, 1) := by decide +kernel
theorem dX6_findParts_121 : decode cX6_findParts 121 = .ok (.lload_n 2, 1) := by decide +kernel
theorem dX6_findParts_122 : decode cX6_findParts 122 = .ok (.aload_n 0, 1) := by decide +kernel
theorem dX6_findParts_123 : decode cX6_findParts 123 = .ok (.getfield 22, 3) := by decide +kernel
theorem dX6_findParts_126 : decode cX6_findParts 126 = .ok (.iload 4, 2) := by decide +kernel
theorem dX6_findParts_128 : decode cX6_findParts 128 = .ok (.laload, 1) := by decide +kernel
theorem dX6_findParts_129 : decode cX6_findParts 129 = .ok (.lmul, 1) := by decide +kernel
theorem dX6_findParts_130 : decode cX6_findParts 130 = .ok (.lsub, 1) := by decide +kernel
theorem dX6_findParts_131 : decode cX6_findParts 131 = .ok (.lastore, 1) := by decide +kernel
theorem dX6_findParts_132 : decode cX6_findParts 132 = .ok (.iinc 4 1, 3) := by decide +kernel
theorem dX6_findParts_135 : decode cX6_findParts 135 = .ok (.goto (-30), 3) := by decide +kernel
theorem dX6_findParts_138 : decode cX6_findParts 138 = .ok (.iinc 1 1, 3) := by decide +kernel
theorem dX6_findParts_141 : decode cX6_findParts 141 = .ok (.goto (-107), 3) := by decide +kernel
theorem dX6_findParts_144 : decode cX6_findParts 144 = .ok (.aload_n 0, 1) := by decide +kernel
theorem dX6_findParts_145 : decode cX6_findParts 145 = .ok (.iconst 1, 1) := by decide +kernel
theorem dX6_findParts_146 : decode cX6_findParts 146 = .ok (.putfield 144, 3) := by decide +kernel
theorem dX6_findParts_149 : decode cX6_findParts 149 = .ok (.return_, 1) := by decide +kernel
set_option maxRecDepth 20000 in
theorem ggX6_knowsParts_X6_findParts : GoodIn wsX6_knowsParts wsX6_findParts := goodIn_r _ [6, 7, 8, 9, 10, 11, 1, 12, 13, 5, 14, 15, 16, 17, 18, 19, 20, 21, 22, 23, 24, 25, 26, 27, 28, 29, 30, 31, 32, 33, 34, 35, 36, 37, 38, 39, 40, 41, 42, 43, 44, 45, 46, 47, 48, 49, 50, 51, 52, 53, 54, 55, 56, 57, 58, 59, 60, 61, 62, 63, 64, 65] (by decide +kernel) (by decide +kernel)
set_option maxRecDepth 20000 in
theorem gX6_knowsParts_X6_findParts : GoodIn wsX6_knowsParts (wsV RX6 170 RX6 yX6_findParts wsX6_findParts) := goodIn_app (goodIn_of _ (by decide +kernel)) ggX6_knowsParts_X6_findParts
theorem dX6_knowsParts_0 : decode cX6_knowsParts 0 = .ok (.aload_n 0, 1) := by decide +kernel
theorem dX6_knowsParts_1 : decode cX6_knowsParts 1 = .ok (.getfield 144, 3) := by decide +kernel
theorem dX6_knowsParts_4 : decode cX6_knowsParts 4 = .ok (.ifCond .ne 7, 3) := by decide +kernel
theorem dX6_knowsParts_7 : decode cX6_knowsParts 7 = .ok (.aload_n 0, 1) := by decide +kernel
theorem dX6_knowsParts_8 : decode cX6_knowsParts 8 = .ok (.invokevirtual 170, 3) := by decide +kernel
theorem dX6_knowsParts_11 : decode cX6_knowsParts 11 = .ok (.return_, 1) := by decide +kernel
set_option maxRecDepth 20000 in
theorem ggX6_part_X6_knowsParts : GoodIn wsX6_part wsX6_knowsParts := goodIn_r _ [7, 8, 9, 10, 11, 6, 12, 1, 13, 14, 15, 16, 17, 18, 19, 20, 21, 22, 23, 24, 25, 26, 27, 28, 29, 30, 2, 31, 32, 33, 34, 35, 36, 37, 38, 39, 40, 41, 42, 43, 44, 45, 46, 47, 48, 49, 50, 51, 52, 53, 54, 55, 56, 57, 58, 59, 60, 61, 62, 63, 64, 65, 66, 67, 68, 69] (by decide +kernel) (by decide +kernel)
set_option maxRecDepth 20000 in
theorem gX6_part_X6_knowsParts : GoodIn wsX6_part (wsV RX6 173 RX6 yX6_knowsParts wsX6_knowsParts) := goodIn_app (goodIn_of _ (by decide +kernel)) ggX6_part_X6_knowsParts
theorem dX6_part_0 : decode cX6_part 0 = .ok (.iload_n 1, 1) := by decide +kernel
theorem dX6_part_1 : decode cX6_part 1 = .ok (.iconst (-1), 1) := by decide +kernel
theorem dX6_part_2 : decode cX6_part 2 = .ok (.if_icmp .ge 6, 3) := by decide +kernel
theorem dX6_part_5 : decode cX6_part 5 = .ok (.bipush (-2), 2) := by decide +kernel
theorem dX6_part_7 : decode cX6_part 7 = .ok (.ireturn, 1) := by decide +kernel
theorem dX6_part_8 : decode cX6_part 8 = .ok (.aload_n 0, 1) := by decide +kernel
theorem dX6_part_9 : decode cX6_part 9 = .ok (.invokevirtual 173, 3) := by decide +kernel
theorem dX6_part_12 : decode cX6_part 12 = .ok (.iload_n 1, 1) := by decide +kernel
theorem dX6_part_13 : decode cX6_part 13 = .ok (.iconst (-1), 1) := by decide +kernel
theorem dX6_part_14 : decode cX6_part 14 = .ok (.if_icmp .ne 10, 3) := by decide +kernel
theorem dX6_part_17 : decode cX6_part 17 = .ok (.aload_n 0, 1) := by decide +kernel
theorem dX6_part_18 : decode cX6_part 18 = .ok (.getfield 162, 3) := by decide +kernel
theorem dX6_part_21 : decode cX6_part 21 = .ok (.goto 22, 3) := by decide +kernel
theorem dX6_part_24 : decode cX6_part 24 = .ok (.iload_n 1, 1) := by decide +kernel
theorem dX6_part_25 : decode cX6_part 25 = .ok (.aload_n 0, 1) := by decide +kernel
theorem dX6_part_26 : decode cX6_part 26 = .ok (.getfield 162, 3) := by decide +kernel
theorem dX6_part_29 : decode cX6_part 29 = .ok (.if_icmp .ge 12, 3) := by decide +kernel
theorem dX6_part_32 : decode cX6_part 32 = .ok (.aload_n 0, 1) := by decide +kernel
theorem dX6_part_33 : decode cX6_part 33 = .ok (.getfield 42, 3) := by decide +kernel
theorem dX6_part_36 : decode cX6_part 36 = .ok (.iload_n 1, 1) := by decide +kernel
theorem dX6_part_37 : decode cX6_part 37 = .ok (.iaload, 1) := by decide +kernel
theorem dX6_part_38 : decode cX6_part 38 = .ok (.goto 5, 3) := by decide +kernel
theorem dX6_part_41 : decode cX6_part 41 = .ok (.bipush (-9), 2) := by decide +kernel
theorem dX6_part_43 : decode cX6_part 43 = .ok (.ireturn, 1) := by decide +kernel
set_option maxRecDepth 20000 in
theorem ggX6_times_X6_lays : GoodIn wsX6_times wsX6_lays := goodIn_r _ [9, 10, 11, 8, 12] (by decide +kernel) (by decide +kernel)
set_option maxRecDepth 20000 in
theorem gX6_times_X6_lays : GoodIn wsX6_times (va_wsS RX6 63 yX6_lays wsX6_lays) := goodIn_app (goodIn_of _ (by decide +kernel)) ggX6_times_X6_lays
set_option maxRecDepth 20000 in
theorem ggX6_times_X6_isFit : GoodIn wsX6_times wsX6_isFit := goodIn_r _ [15, 16, 17, 8, 18] (by decide +kernel) (by decide +kernel)
set_option maxRecDepth 20000 in
theorem gX6_times_X6_isFit : GoodIn wsX6_times (va_wsS RX6 115 yX6_isFit wsX6_isFit) := goodIn_app (goodIn_of _ (by decide +kernel)) ggX6_times_X6_isFit
set_option maxRecDepth 20000 in
theorem ggX6_times_X6_knowsParts : GoodIn wsX6_times wsX6_knowsParts := goodIn_r _ [22, 23, 24, 25, 26, 8, 27, 3, 28, 29, 30, 31, 32, 33, 34, 35, 36, 37, 38, 39, 40, 41, 42, 43, 44, 45, 4, 5, 46, 47, 48, 49, 50, 51, 52, 53, 54, 55, 56, 57, 58, 59, 60, 61, 62, 63, 64, 65, 66, 67, 68, 69, 70, 71, 72, 73, 74, 75, 76, 77, 78, 79, 80, 81, 82, 83] (by decide +kernel) (by decide +kernel)
set_option maxRecDepth 20000 in
theorem gX6_times_X6_knowsParts : GoodIn wsX6_times (wsV RX6 173 RX6 yX6_knowsParts wsX6_knowsParts) := goodIn_app (goodIn_of _ (by decide +kernel)) ggX6_times_X6_knowsParts
set_option maxRecDepth 20000 in
theorem ggX6_times_X6_plainOf : GoodIn wsX6_times wsX6_plainOf := goodIn_r _ [41] (by decide +kernel) (by decide +kernel)
set_option maxRecDepth 20000 in
theorem gX6_times_X6_plainOf : GoodIn wsX6_times (va_wsS RX6 67 yX6_plainOf wsX6_plainOf) := goodIn_app (goodIn_of _ (by decide +kernel)) ggX6_times_X6_plainOf
theorem dX6_times_0 : decode cX6_times 0 = .ok (.iload_n 1, 1) := by decide +kernel
theorem dX6_times_1 : decode cX6_times 1 = .ok (.aload_n 0, 1) := by decide +kernel
theorem dX6_times_2 : decode cX6_times 2 = .ok (.getfield 7, 3) := by decide +kernel
theorem dX6_times_5 : decode cX6_times 5 = .ok (.invokestatic 63, 3) := by decide +kernel
theorem dX6_times_8 : decode cX6_times 8 = .ok (.ifCond .eq 13, 3) := by decide +kernel
theorem dX6_times_11 : decode cX6_times 11 = .ok (.aload_n 0, 1) := by decide +kernel
theorem dX6_times_12 : decode cX6_times 12 = .ok (.getfield 7, 3) := by decide +kernel
theorem dX6_times_15 : decode cX6_times 15 = .ok (.invokestatic 115, 3) := by decide +kernel
theorem dX6_times_18 : decode cX6_times 18 = .ok (.ifCond .ne 7, 3) := by decide +kernel
theorem dX6_times_21 : decode cX6_times 21 = .ok (.ldc2_w 134, 3) := by decide +kernel
theorem dX6_times_24 : decode cX6_times 24 = .ok (.lreturn, 1) := by decide +kernel
theorem dX6_times_25 : decode cX6_times 25 = .ok (.aload_n 0, 1) := by decide +kernel
theorem dX6_times_26 : decode cX6_times 26 = .ok (.invokevirtual 173, 3) := by decide +kernel
theorem dX6_times_29 : decode cX6_times 29 = .ok (.aload_n 0, 1) := by decide +kernel
theorem dX6_times_30 : decode cX6_times 30 = .ok (.getfield 7, 3) := by decide +kernel
theorem dX6_times_33 : decode cX6_times 33 = .ok (.invokestatic 67, 3) := by decide +kernel
theorem dX6_times_36 : decode cX6_times 36 = .ok (.istore_n 2, 1) := by decide +kernel
theorem dX6_times_37 : decode cX6_times 37 = .ok (.iconst 0, 1) := by decide +kernel
theorem dX6_times_38 : decode cX6_times 38 = .ok (.istore_n 3, 1) := by decide +kernel
theorem dX6_times_39 : decode cX6_times 39 = .ok (.iload_n 3, 1) := by decide +kernel
theorem dX6_times_40 : decode cX6_times 40 = .ok (.aload_n 0, 1) := by decide +kernel
theorem dX6_times_41 : decode cX6_times 41 = .ok (.getfield 162, 3) := by decide +kernel
theorem dX6_times_44 : decode cX6_times 44 = .ok (.if_icmp .ge 26, 3) := by decide +kernel
theorem dX6_times_47 : decode cX6_times 47 = .ok (.aload_n 0, 1) := by decide +kernel
theorem dX6_times_48 : decode cX6_times 48 = .ok (.getfield 42, 3) := by decide +kernel
theorem dX6_times_51 : decode cX6_times 51 = .ok (.iload_n 3, 1) := by decide +kernel
theorem dX6_times_52 : decode cX6_times 52 = .ok (.iaload, 1) := by decide +kernel
theorem dX6_times_53 : decode cX6_times 53 = .ok (.iload_n 2, 1) := by decide +kernel
theorem dX6_times_54 : decode cX6_times 54 = .ok (.if_icmp .ne 10, 3) := by decide +kernel
theorem dX6_times_57 : decode cX6_times 57 = .ok (.aload_n 0, 1) := by decide +kernel
theorem dX6_times_58 : decode cX6_times 58 = .ok (.getfield 45, 3) := by decide +kernel
theorem dX6_times_61 : decode cX6_times 61 = .ok (.iload_n 3, 1) := by decide +kernel
theorem dX6_times_62 : decode cX6_times 62 = .ok (.laload, 1) := by decide +kernel
theorem dX6_times_63 : decode cX6_times 63 = .ok (.lreturn, 1) := by decide +kernel
theorem dX6_times_64 : decode cX6_times 64 = .ok (.iinc 3 1, 3) := by decide +kernel
theorem dX6_times_67 : decode cX6_times 67 = .ok (.goto (-28), 3) := by decide +kernel
theorem dX6_times_70 : decode cX6_times 70 = .ok (.lconst 0, 1) := by decide +kernel
theorem dX6_times_71 : decode cX6_times 71 = .ok (.lreturn, 1) := by decide +kernel
theorem dX6_bitOf_0 : decode cX6_bitOf 0 = .ok (.iload_n 0, 1) := by decide +kernel
theorem dX6_bitOf_1 : decode cX6_bitOf 1 = .ok (.iconst 1, 1) := by decide +kernel
theorem dX6_bitOf_2 : decode cX6_bitOf 2 = .ok (.if_icmp .ne 9, 3) := by decide +kernel
theorem dX6_bitOf_5 : decode cX6_bitOf 5 = .ok (.iload_n 1, 1) := by decide +kernel
theorem dX6_bitOf_6 : decode cX6_bitOf 6 = .ok (.iconst 1, 1) := by decide +kernel
theorem dX6_bitOf_7 : decode cX6_bitOf 7 = .ok (.isub, 1) := by decide +kernel
theorem dX6_bitOf_8 : decode cX6_bitOf 8 = .ok (.goto 28, 3) := by decide +kernel
theorem dX6_bitOf_11 : decode cX6_bitOf 11 = .ok (.iload_n 0, 1) := by decide +kernel
theorem dX6_bitOf_12 : decode cX6_bitOf 12 = .ok (.iconst 2, 1) := by decide +kernel
theorem dX6_bitOf_13 : decode cX6_bitOf 13 = .ok (.if_icmp .ne 9, 3) := by decide +kernel
theorem dX6_bitOf_16 : decode cX6_bitOf 16 = .ok (.iload_n 1, 1) := by decide +kernel
theorem dX6_bitOf_17 : decode cX6_bitOf 17 = .ok (.iconst 3, 1) := by decide +kernel
theorem dX6_bitOf_18 : decode cX6_bitOf 18 = .ok (.iadd, 1) := by decide +kernel
theorem dX6_bitOf_19 : decode cX6_bitOf 19 = .ok (.goto 17, 3) := by decide +kernel
theorem dX6_bitOf_22 : decode cX6_bitOf 22 = .ok (.iload_n 0, 1) := by decide +kernel
theorem dX6_bitOf_23 : decode cX6_bitOf 23 = .ok (.iconst 3, 1) := by decide +kernel
theorem dX6_bitOf_24 : decode cX6_bitOf 24 = .ok (.if_icmp .ne 10, 3) := by decide +kernel
theorem dX6_bitOf_27 : decode cX6_bitOf 27 = .ok (.iload_n 1, 1) := by decide +kernel
theorem dX6_bitOf_28 : decode cX6_bitOf 28 = .ok (.bipush 6, 2) := by decide +kernel
theorem dX6_bitOf_30 : decode cX6_bitOf 30 = .ok (.iadd, 1) := by decide +kernel
theorem dX6_bitOf_31 : decode cX6_bitOf 31 = .ok (.goto 5, 3) := by decide +kernel
theorem dX6_bitOf_34 : decode cX6_bitOf 34 = .ok (.bipush 9, 2) := by decide +kernel
theorem dX6_bitOf_36 : decode cX6_bitOf 36 = .ok (.ireturn, 1) := by decide +kernel
set_option maxRecDepth 20000 in
theorem ggX6_isPlace_X6_within : GoodIn wsX6_isPlace wsX6_within := goodIn_r _ [4] (by decide +kernel) (by decide +kernel)
set_option maxRecDepth 20000 in
theorem gX6_isPlace_X6_within : GoodIn wsX6_isPlace (va_wsS RX6 51 yX6_within wsX6_within) := goodIn_app (goodIn_of _ (by decide +kernel)) ggX6_isPlace_X6_within
theorem dX6_isPlace_0 : decode cX6_isPlace 0 = .ok (.iload_n 0, 1) := by decide +kernel
theorem dX6_isPlace_1 : decode cX6_isPlace 1 = .ok (.iconst 1, 1) := by decide +kernel
theorem dX6_isPlace_2 : decode cX6_isPlace 2 = .ok (.iconst 4, 1) := by decide +kernel
theorem dX6_isPlace_3 : decode cX6_isPlace 3 = .ok (.invokestatic 51, 3) := by decide +kernel
theorem dX6_isPlace_6 : decode cX6_isPlace 6 = .ok (.ifCond .eq 18, 3) := by decide +kernel
theorem dX6_isPlace_9 : decode cX6_isPlace 9 = .ok (.iload_n 1, 1) := by decide +kernel
theorem dX6_isPlace_10 : decode cX6_isPlace 10 = .ok (.iconst 1, 1) := by decide +kernel
theorem dX6_isPlace_11 : decode cX6_isPlace 11 = .ok (.iconst 5, 1) := by decide +kernel
theorem dX6_isPlace_12 : decode cX6_isPlace 12 = .ok (.iload_n 0, 1) := by decide +kernel
theorem dX6_isPlace_13 : decode cX6_isPlace 13 = .ok (.isub, 1) := by decide +kernel
theorem dX6_isPlace_14 : decode cX6_isPlace 14 = .ok (.invokestatic 51, 3) := by decide +kernel
theorem dX6_isPlace_17 : decode cX6_isPlace 17 = .ok (.ifCond .eq 7, 3) := by decide +kernel
theorem dX6_isPlace_20 : decode cX6_isPlace 20 = .ok (.iconst 1, 1) := by decide +kernel
theorem dX6_isPlace_21 : decode cX6_isPlace 21 = .ok (.goto 4, 3) := by decide +kernel
theorem dX6_isPlace_24 : decode cX6_isPlace 24 = .ok (.iconst 0, 1) := by decide +kernel
theorem dX6_isPlace_25 : decode cX6_isPlace 25 = .ok (.ireturn, 1) := by decide +kernel
set_option maxRecDepth 20000 in
theorem ggX6_isCross_X6_isPlace : GoodIn wsX6_isCross wsX6_isPlace := goodIn_r _ [4, 5, 6, 3, 7] (by decide +kernel) (by decide +kernel)
set_option maxRecDepth 20000 in
theorem gX6_isCross_X6_isPlace : GoodIn wsX6_isCross (va_wsS RX6 176 yX6_isPlace wsX6_isPlace) := goodIn_app (goodIn_of _ (by decide +kernel)) ggX6_isCross_X6_isPlace
set_option maxRecDepth 20000 in
theorem ggX6_isCross_X6_bitOf : GoodIn wsX6_isCross wsX6_bitOf := goodIn_r _ [10] (by decide +kernel) (by decide +kernel)
set_option maxRecDepth 20000 in
theorem gX6_isCross_X6_bitOf : GoodIn wsX6_isCross (va_wsS RX6 180 yX6_bitOf wsX6_bitOf) := goodIn_app (goodIn_of _ (by decide +kernel)) ggX6_isCross_X6_bitOf
theorem dX6_isCross_0 : decode cX6_isCross 0 = .ok (.iload_n 1, 1) := by decide +kernel
theorem dX6_isCross_1 : decode cX6_isCross 1 = .ok (.iload_n 2, 1) := by decide +kernel
theorem dX6_isCross_2 : decode cX6_isCross 2 = .ok (.invokestatic 176, 3) := by decide +kernel
theorem dX6_isCross_5 : decode cX6_isCross 5 = .ok (.ifCond .eq 20, 3) := by decide +kernel
theorem dX6_isCross_8 : decode cX6_isCross 8 = .ok (.iload_n 0, 1) := by decide +kernel
theorem dX6_isCross_9 : decode cX6_isCross 9 = .ok (.iload_n 1, 1) := by decide +kernel
theorem dX6_isCross_10 : decode cX6_isCross 10 = .ok (.iload_n 2, 1) := by decide +kernel
theorem dX6_isCross_11 : decode cX6_isCross 11 = .ok (.invokestatic 180, 3) := by decide +kernel
theorem dX6_isCross_14 : decode cX6_isCross 14 = .ok (.ishr, 1) := by decide +kernel
theorem dX6_isCross_15 : decode cX6_isCross 15 = .ok (.iconst 1, 1) := by decide +kernel
theorem dX6_isCross_16 : decode cX6_isCross 16 = .ok (.iand, 1) := by decide +kernel
theorem dX6_isCross_17 : decode cX6_isCross 17 = .ok (.iconst 1, 1) := by decide +kernel
theorem dX6_isCross_18 : decode cX6_isCross 18 = .ok (.if_icmp .ne 7, 3) := by decide +kernel
theorem dX6_isCross_21 : decode cX6_isCross 21 = .ok (.iconst 1, 1) := by decide +kernel
theorem dX6_isCross_22 : decode cX6_isCross 22 = .ok (.goto 4, 3) := by decide +kernel
theorem dX6_isCross_25 : decode cX6_isCross 25 = .ok (.iconst 0, 1) := by decide +kernel
theorem dX6_isCross_26 : decode cX6_isCross 26 = .ok (.ireturn, 1) := by decide +kernel
set_option maxRecDepth 20000 in
theorem ggX6_areTight_X6_isCross : GoodIn wsX6_areTight wsX6_isCross := goodIn_r _ [5, 6, 7, 4, 8, 9, 10, 11, 12, 13, 14] (by decide +kernel) (by decide +kernel)
set_option maxRecDepth 20000 in
theorem gX6_areTight_X6_isCross : GoodIn wsX6_areTight (va_wsS RX6 183 yX6_isCross wsX6_isCross) := goodIn_app (goodIn_of _ (by decide +kernel)) ggX6_areTight_X6_isCross
set_option maxRecDepth 20000 in
theorem ggX6_areTight_X6_exchange : GoodIn wsX6_areTight wsX6_exchange := goodIn_r _ [17] (by decide +kernel) (by decide +kernel)
set_option maxRecDepth 20000 in
theorem gX6_areTight_X6_exchange : GoodIn wsX6_areTight (va_wsS RX6 85 yX6_exchange wsX6_exchange) := goodIn_app (goodIn_of _ (by decide +kernel)) ggX6_areTight_X6_exchange
set_option maxRecDepth 20000 in
theorem ggX6_areTight_X6_lengthOf : GoodIn wsX6_areTight wsX6_lengthOf := goodIn_r _ [20, 21, 22, 4, 23] (by decide +kernel) (by decide +kernel)
set_option maxRecDepth 20000 in
theorem gX6_areTight_X6_lengthOf : GoodIn wsX6_areTight (va_wsS RX6 70 yX6_lengthOf wsX6_lengthOf) := goodIn_app (goodIn_of _ (by decide +kernel)) ggX6_areTight_X6_lengthOf
theorem dX6_areTight_0 : decode cX6_areTight 0 = .ok (.iconst 0, 1) := by decide +kernel
theorem dX6_areTight_1 : decode cX6_areTight 1 = .ok (.istore_n 2, 1) := by decide +kernel
theorem dX6_areTight_2 : decode cX6_areTight 2 = .ok (.iconst 1, 1) := by decide +kernel
theorem dX6_areTight_3 : decode cX6_areTight 3 = .ok (.istore_n 3, 1) := by decide +kernel
theorem dX6_areTight_4 : decode cX6_areTight 4 = .ok (.iload_n 3, 1) := by decide +kernel
theorem dX6_areTight_5 : decode cX6_areTight 5 = .ok (.bipush 9, 2) := by decide +kernel
theorem dX6_areTight_7 : decode cX6_areTight 7 = .ok (.if_icmp .gt 16, 3) := by decide +kernel
theorem dX6_areTight_10 : decode cX6_areTight 10 = .ok (.aload_n 0, 1) := by decide +kernel
theorem dX6_areTight_11 : decode cX6_areTight 11 = .ok (.getfield 13, 3) := by decide +kernel
theorem dX6_areTight_14 : decode cX6_areTight 14 = .ok (.iload_n 3, 1) := by decide +kernel
theorem dX6_areTight_15 : decode cX6_areTight 15 = .ok (.iload_n 3, 1) := by decide +kernel
theorem dX6_areTight_16 : decode cX6_areTight 16 = .ok (.iastore, 1) := by decide +kernel
theorem dX6_areTight_17 : decode cX6_areTight 17 = .ok (.iinc 3 1, 3) := by decide +kernel
theorem dX6_areTight_20 : decode cX6_areTight 20 = .ok (.goto (-16), 3) := by decide +kernel
theorem dX6_areTight_23 : decode cX6_areTight 23 = .ok (.iconst 1, 1) := by decide +kernel
theorem dX6_areTight_24 : decode cX6_areTight 24 = .ok (.istore_n 3, 1) := by decide +kernel
theorem dX6_areTight_25 : decode cX6_areTight 25 = .ok (.iload_n 3, 1) := by decide +kernel
theorem dX6_areTight_26 : decode cX6_areTight 26 = .ok (.iconst 4, 1) := by decide +kernel
theorem dX6_areTight_27 : decode cX6_areTight 27 = .ok (.if_icmp .gt 55, 3) := by decide +kernel
theorem dX6_areTight_30 : decode cX6_areTight 30 = .ok (.iconst 5, 1) := by decide +kernel
theorem dX6_areTight_31 : decode cX6_areTight 31 = .ok (.iload_n 3, 1) := by decide +kernel
theorem dX6_areTight_32 : decode cX6_areTight 32 = .ok (.isub, 1) := by decide +kernel
theorem dX6_areTight_33 : decode cX6_areTight 33 = .ok (.istore 4, 2) := by decide +kernel
theorem dX6_areTight_35 : decode cX6_areTight 35 = .ok (.iload 4, 2) := by decide +kernel
theorem dX6_areTight_37 : decode cX6_areTight 37 = .ok (.ifCond .le 39, 3) := by decide +kernel
theorem dX6_areTight_40 : decode cX6_areTight 40 = .ok (.iload_n 1, 1) := by decide +kernel
theorem dX6_areTight_41 : decode cX6_areTight 41 = .ok (.iload_n 3, 1) := by decide +kernel
theorem dX6_areTight_42 : decode cX6_areTight 42 = .ok (.iload 4, 2) := by decide +kernel
theorem dX6_areTight_44 : decode cX6_areTight 44 = .ok (.invokestatic 183, 3) := by decide +kernel
theorem dX6_areTight_47 : decode cX6_areTight 47 = .ok (.ifCond .eq 23, 3) := by decide +kernel
theorem dX6_areTight_50 : decode cX6_areTight 50 = .ok (.aload_n 0, 1) := by decide +kernel
theorem dX6_areTight_51 : decode cX6_areTight 51 = .ok (.getfield 13, 3) := by decide +kernel
theorem dX6_areTight_54 : decode cX6_areTight 54 = .ok (.iload_n 3, 1) := by decide +kernel
theorem dX6_areTight_55 : decode cX6_areTight 55 = .ok (.iload 4, 2) := by decide +kernel
theorem dX6_areTight_57 : decode cX6_areTight 57 = .ok (.iadd, 1) := by decide +kernel
theorem dX6_areTight_58 : decode cX6_areTight 58 = .ok (.iconst 1, 1) := by decide +kernel
theorem dX6_areTight_59 : decode cX6_areTight 59 = .ok (.isub, 1) := by decide +kernel
theorem dX6_areTight_60 : decode cX6_areTight 60 = .ok (.iload_n 3, 1) := by decide +kernel
theorem dX6_areTight_61 : decode cX6_areTight 61 = .ok (.iload 4, 2) := by decide +kernel
theorem dX6_areTight_63 : decode cX6_areTight 63 = .ok (.iadd, 1) := by decide +kernel
theorem dX6_areTight_64 : decode cX6_areTight 64 = .ok (.invokestatic 85, 3) := by decide +kernel
theorem dX6_areTight_67 : decode cX6_areTight 67 = .ok (.iinc 2 1, 3) := by decide +kernel
theorem dX6_areTight_70 : decode cX6_areTight 70 = .ok (.iinc 4 (-1), 3) := by decide +kernel
theorem dX6_areTight_73 : decode cX6_areTight 73 = .ok (.goto (-38), 3) := by decide +kernel
theorem dX6_areTight_76 : decode cX6_areTight 76 = .ok (.iinc 3 1, 3) := by decide +kernel
theorem dX6_areTight_79 : decode cX6_areTight 79 = .ok (.goto (-54), 3) := by decide +kernel
theorem dX6_areTight_82 : decode cX6_areTight 82 = .ok (.aload_n 0, 1) := by decide +kernel
theorem dX6_areTight_83 : decode cX6_areTight 83 = .ok (.getfield 13, 3) := by decide +kernel
theorem dX6_areTight_86 : decode cX6_areTight 86 = .ok (.invokestatic 70, 3) := by decide +kernel
theorem dX6_areTight_89 : decode cX6_areTight 89 = .ok (.iload_n 2, 1) := by decide +kernel
theorem dX6_areTight_90 : decode cX6_areTight 90 = .ok (.if_icmp .ne 7, 3) := by decide +kernel
theorem dX6_areTight_93 : decode cX6_areTight 93 = .ok (.iconst 1, 1) := by decide +kernel
theorem dX6_areTight_94 : decode cX6_areTight 94 = .ok (.goto 4, 3) := by decide +kernel
theorem dX6_areTight_97 : decode cX6_areTight 97 = .ok (.iconst 0, 1) := by decide +kernel
theorem dX6_areTight_98 : decode cX6_areTight 98 = .ok (.ireturn, 1) := by decide +kernel
set_option maxRecDepth 20000 in
theorem ggX6_makes_X6_within : GoodIn wsX6_makes wsX6_within := goodIn_r _ [5] (by decide +kernel) (by decide +kernel)
set_option maxRecDepth 20000 in
theorem gX6_makes_X6_within : GoodIn wsX6_makes (va_wsS RX6 51 yX6_within wsX6_within) := goodIn_app (goodIn_of _ (by decide +kernel)) ggX6_makes_X6_within
set_option maxRecDepth 20000 in
theorem ggX6_makes_X6_areTight : GoodIn wsX6_makes wsX6_areTight := goodIn_r _ [9, 1, 10, 11, 4, 12, 13, 14, 15, 2, 3, 5, 16, 17, 18, 19, 20, 21, 22, 23, 24, 25, 26, 27, 31, 32, 33, 34, 35, 36, 37, 38, 39, 40, 41, 42, 43, 44, 45, 46] (by decide +kernel) (by decide +kernel)
set_option maxRecDepth 20000 in
theorem gX6_makes_X6_areTight : GoodIn wsX6_makes (wsV RX6 186 RX6 yX6_areTight wsX6_areTight) := goodIn_app (goodIn_of _ (by decide +kernel)) ggX6_makes_X6_areTight
set_option maxRecDepth 20000 in
theorem ggX6_makes_X6_plainOf : GoodIn wsX6_makes wsX6_plainOf := goodIn_r _ [30] (by decide +kernel) (by decide +kernel)
set_option maxRecDepth 20000 in
theorem gX6_makes_X6_plainOf : GoodIn wsX6_makes (va_wsS RX6 67 yX6_plainOf wsX6_plainOf) := goodIn_app (goodIn_of _ (by decide +kernel)) ggX6_makes_X6_plainOf
theorem dX6_makes_0 : decode cX6_makes 0 = .ok (.iload_n 1, 1) := by decide +kernel
theorem dX6_makes_1 : decode cX6_makes 1 = .ok (.iconst 0, 1) := by decide +kernel
theorem dX6_makes_2 : decode cX6_makes 2 = .ok (.sipush 1023, 3) := by decide +kernel
theorem dX6_makes_5 : decode cX6_makes 5 = .ok (.invokestatic 51, 3) := by decide +kernel
theorem dX6_makes_8 : decode cX6_makes 8 = .ok (.ifCond .ne 6, 3) := by decide +kernel
theorem dX6_makes_11 : decode cX6_makes 11 = .ok (.bipush (-2), 2) := by decide +kernel
theorem dX6_makes_13 : decode cX6_makes 13 = .ok (.ireturn, 1) := by decide +kernel
theorem dX6_makes_14 : decode cX6_makes 14 = .ok (.aload_n 0, 1) := by decide +kernel
theorem dX6_makes_15 : decode cX6_makes 15 = .ok (.iload_n 1, 1) := by decide +kernel
theorem dX6_makes_16 : decode cX6_makes 16 = .ok (.invokevirtual 186, 3) := by decide +kernel
theorem dX6_makes_19 : decode cX6_makes 19 = .ok (.ifCond .eq 13, 3) := by decide +kernel
theorem dX6_makes_22 : decode cX6_makes 22 = .ok (.aload_n 0, 1) := by decide +kernel
theorem dX6_makes_23 : decode cX6_makes 23 = .ok (.getfield 13, 3) := by decide +kernel
theorem dX6_makes_26 : decode cX6_makes 26 = .ok (.invokestatic 67, 3) := by decide +kernel
theorem dX6_makes_29 : decode cX6_makes 29 = .ok (.goto 5, 3) := by decide +kernel
theorem dX6_makes_32 : decode cX6_makes 32 = .ok (.bipush (-9), 2) := by decide +kernel
theorem dX6_makes_34 : decode cX6_makes 34 = .ok (.ireturn, 1) := by decide +kernel
set_option maxRecDepth 20000 in
theorem ggX6_dream_X6_lays : GoodIn wsX6_dream wsX6_lays := goodIn_r _ [6, 7, 8, 5, 9] (by decide +kernel) (by decide +kernel)
set_option maxRecDepth 20000 in
theorem gX6_dream_X6_lays : GoodIn wsX6_dream (va_wsS RX6 63 yX6_lays wsX6_lays) := goodIn_app (goodIn_of _ (by decide +kernel)) ggX6_dream_X6_lays
set_option maxRecDepth 20000 in
theorem ggX6_dream_X6_isSmall : GoodIn wsX6_dream wsX6_isSmall := goodIn_r _ [12] (by decide +kernel) (by decide +kernel)
set_option maxRecDepth 20000 in
theorem gX6_dream_X6_isSmall : GoodIn wsX6_dream (va_wsS RX6 92 yX6_isSmall wsX6_isSmall) := goodIn_app (goodIn_of _ (by decide +kernel)) ggX6_dream_X6_isSmall
set_option maxRecDepth 20000 in
theorem ggX6_dream_X6_plainOf : GoodIn wsX6_dream wsX6_plainOf := goodIn_r _ [15] (by decide +kernel) (by decide +kernel)
set_option maxRecDepth 20000 in
theorem gX6_dream_X6_plainOf : GoodIn wsX6_dream (va_wsS RX6 67 yX6_plainOf wsX6_plainOf) := goodIn_app (goodIn_of _ (by decide +kernel)) ggX6_dream_X6_plainOf
set_option maxRecDepth 20000 in
theorem ggX6_dream_X6_areTight : GoodIn wsX6_dream wsX6_areTight := goodIn_r _ [19, 2, 20, 21, 5, 22, 23, 24, 25, 7, 8, 9, 26, 27, 28, 29, 30, 31, 32, 33, 34, 35, 36, 37, 38, 39, 40, 41, 42, 43, 44, 45, 46, 47, 48, 49, 50, 51, 52, 53] (by decide +kernel) (by decide +kernel)
set_option maxRecDepth 20000 in
theorem gX6_dream_X6_areTight : GoodIn wsX6_dream (wsV RX6 186 RX6 yX6_areTight wsX6_areTight) := goodIn_app (goodIn_of _ (by decide +kernel)) ggX6_dream_X6_areTight
theorem dX6_dream_0 : decode cX6_dream 0 = .ok (.iload_n 1, 1) := by decide +kernel
theorem dX6_dream_1 : decode cX6_dream 1 = .ok (.aload_n 0, 1) := by decide +kernel
theorem dX6_dream_2 : decode cX6_dream 2 = .ok (.getfield 7, 3) := by decide +kernel
theorem dX6_dream_5 : decode cX6_dream 5 = .ok (.invokestatic 63, 3) := by decide +kernel
theorem dX6_dream_8 : decode cX6_dream 8 = .ok (.ifCond .eq 8, 3) := by decide +kernel
theorem dX6_dream_11 : decode cX6_dream 11 = .ok (.iload_n 2, 1) := by decide +kernel
theorem dX6_dream_12 : decode cX6_dream 12 = .ok (.iconst (-1), 1) := by decide +kernel
theorem dX6_dream_13 : decode cX6_dream 13 = .ok (.if_icmp .ge 6, 3) := by decide +kernel
theorem dX6_dream_16 : decode cX6_dream 16 = .ok (.bipush (-2), 2) := by decide +kernel
theorem dX6_dream_18 : decode cX6_dream 18 = .ok (.ireturn, 1) := by decide +kernel
theorem dX6_dream_19 : decode cX6_dream 19 = .ok (.aload_n 0, 1) := by decide +kernel
theorem dX6_dream_20 : decode cX6_dream 20 = .ok (.getfield 7, 3) := by decide +kernel
theorem dX6_dream_23 : decode cX6_dream 23 = .ok (.invokestatic 92, 3) := by decide +kernel
theorem dX6_dream_26 : decode cX6_dream 26 = .ok (.ifCond .ne 6, 3) := by decide +kernel
theorem dX6_dream_29 : decode cX6_dream 29 = .ok (.bipush (-3), 2) := by decide +kernel
theorem dX6_dream_31 : decode cX6_dream 31 = .ok (.ireturn, 1) := by decide +kernel
theorem dX6_dream_32 : decode cX6_dream 32 = .ok (.aload_n 0, 1) := by decide +kernel
theorem dX6_dream_33 : decode cX6_dream 33 = .ok (.getfield 7, 3) := by decide +kernel
theorem dX6_dream_36 : decode cX6_dream 36 = .ok (.invokestatic 67, 3) := by decide +kernel
theorem dX6_dream_39 : decode cX6_dream 39 = .ok (.istore_n 3, 1) := by decide +kernel
theorem dX6_dream_40 : decode cX6_dream 40 = .ok (.iconst 0, 1) := by decide +kernel
theorem dX6_dream_41 : decode cX6_dream 41 = .ok (.istore 4, 2) := by decide +kernel
theorem dX6_dream_43 : decode cX6_dream 43 = .ok (.iconst 0, 1) := by decide +kernel
theorem dX6_dream_44 : decode cX6_dream 44 = .ok (.istore 5, 2) := by decide +kernel
theorem dX6_dream_46 : decode cX6_dream 46 = .ok (.iload 5, 2) := by decide +kernel
theorem dX6_dream_48 : decode cX6_dream 48 = .ok (.sipush 1023, 3) := by decide +kernel
theorem dX6_dream_51 : decode cX6_dream 51 = .ok (.if_icmp .gt 41, 3) := by decide +kernel
theorem dX6_dream_54 : decode cX6_dream 54 = .ok (.aload_n 0, 1) := by decide +kernel
theorem dX6_dream_55 : decode cX6_dream 55 = .ok (.iload 5, 2) := by decide +kernel
theorem dX6_dream_57 : decode cX6_dream 57 = .ok (.invokevirtual 186, 3) := by decide +kernel
theorem dX6_dream_60 : decode cX6_dream 60 = .ok (.ifCond .eq 26, 3) := by decide +kernel
theorem dX6_dream_63 : decode cX6_dream 63 = .ok (.aload_n 0, 1) := by decide +kernel
theorem dX6_dream_64 : decode cX6_dream 64 = .ok (.getfield 13, 3) := by decide +kernel
theorem dX6_dream_67 : decode cX6_dream 67 = .ok (.invokestatic 67, 3) := by decide +kernel
theorem dX6_dream_70 : decode cX6_dream 70 = .ok (.iload_n 3, 1) := by decide +kernel
theorem dX6_dream_71 : decode cX6_dream 71 = .ok (.if_icmp .ne 15, 3) := by decide +kernel
theorem dX6_dream_74 : decode cX6_dream 74 = .ok (.iload 4, 2) := by decide +kernel
theorem dX6_dream_76 : decode cX6_dream 76 = .ok (.iload_n 2, 1) := by decide +kernel
theorem dX6_dream_77 : decode cX6_dream 77 = .ok (.if_icmp .ne 6, 3) := by decide +kernel
theorem dX6_dream_80 : decode cX6_dream 80 = .ok (.iload 5, 2) := by decide +kernel
theorem dX6_dream_82 : decode cX6_dream 82 = .ok (.ireturn, 1) := by decide +kernel
theorem dX6_dream_83 : decode cX6_dream 83 = .ok (.iinc 4 1, 3) := by decide +kernel
theorem dX6_dream_86 : decode cX6_dream 86 = .ok (.iinc 5 1, 3) := by decide +kernel
theorem dX6_dream_89 : decode cX6_dream 89 = .ok (.goto (-43), 3) := by decide +kernel
theorem dX6_dream_92 : decode cX6_dream 92 = .ok (.iload_n 2, 1) := by decide +kernel
theorem dX6_dream_93 : decode cX6_dream 93 = .ok (.iconst (-1), 1) := by decide +kernel
theorem dX6_dream_94 : decode cX6_dream 94 = .ok (.if_icmp .ne 8, 3) := by decide +kernel
theorem dX6_dream_97 : decode cX6_dream 97 = .ok (.iload 4, 2) := by decide +kernel
theorem dX6_dream_99 : decode cX6_dream 99 = .ok (.goto 5, 3) := by decide +kernel
theorem dX6_dream_102 : decode cX6_dream 102 = .ok (.bipush (-9), 2) := by decide +kernel
theorem dX6_dream_104 : decode cX6_dream 104 = .ok (.ireturn, 1) := by decide +kernel
theorem dX6_finds_0 : decode cX6_finds 0 = .ok (.iconst 0, 1) := by decide +kernel
theorem dX6_finds_1 : decode cX6_finds 1 = .ok (.istore_n 2, 1) := by decide +kernel
theorem dX6_finds_2 : decode cX6_finds 2 = .ok (.iload_n 2, 1) := by decide +kernel
theorem dX6_finds_3 : decode cX6_finds 3 = .ok (.aload_n 0, 1) := by decide +kernel
theorem dX6_finds_4 : decode cX6_finds 4 = .ok (.getfield 189, 3) := by decide +kernel
theorem dX6_finds_7 : decode cX6_finds 7 = .ok (.if_icmp .ge 19, 3) := by decide +kernel
theorem dX6_finds_10 : decode cX6_finds 10 = .ok (.aload_n 0, 1) := by decide +kernel
theorem dX6_finds_11 : decode cX6_finds 11 = .ok (.getfield 48, 3) := by decide +kernel
theorem dX6_finds_14 : decode cX6_finds 14 = .ok (.iload_n 2, 1) := by decide +kernel
theorem dX6_finds_15 : decode cX6_finds 15 = .ok (.iaload, 1) := by decide +kernel
theorem dX6_finds_16 : decode cX6_finds 16 = .ok (.iload_n 1, 1) := by decide +kernel
theorem dX6_finds_17 : decode cX6_finds 17 = .ok (.if_icmp .ge 9, 3) := by decide +kernel
theorem dX6_finds_20 : decode cX6_finds 20 = .ok (.iinc 2 1, 3) := by decide +kernel
theorem dX6_finds_23 : decode cX6_finds 23 = .ok (.goto (-21), 3) := by decide +kernel
theorem dX6_finds_26 : decode cX6_finds 26 = .ok (.iload_n 2, 1) := by decide +kernel
theorem dX6_finds_27 : decode cX6_finds 27 = .ok (.aload_n 0, 1) := by decide +kernel
theorem dX6_finds_28 : decode cX6_finds 28 = .ok (.getfield 189, 3) := by decide +kernel
theorem dX6_finds_31 : decode cX6_finds 31 = .ok (.if_icmp .ge 14, 3) := by decide +kernel
theorem dX6_finds_34 : decode cX6_finds 34 = .ok (.aload_n 0, 1) := by decide +kernel
theorem dX6_finds_35 : decode cX6_finds 35 = .ok (.getfield 48, 3) := by decide +kernel
theorem dX6_finds_38 : decode cX6_finds 38 = .ok (.iload_n 2, 1) := by decide +kernel
theorem dX6_finds_39 : decode cX6_finds 39 = .ok (.iaload, 1) := by decide +kernel
theorem dX6_finds_40 : decode cX6_finds 40 = .ok (.iload_n 1, 1) := by decide +kernel
theorem dX6_finds_41 : decode cX6_finds 41 = .ok (.if_icmp .ne 4, 3) := by decide +kernel
theorem dX6_finds_44 : decode cX6_finds 44 = .ok (.return_, 1) := by decide +kernel
theorem dX6_finds_45 : decode cX6_finds 45 = .ok (.aload_n 0, 1) := by decide +kernel
theorem dX6_finds_46 : decode cX6_finds 46 = .ok (.getfield 189, 3) := by decide +kernel
theorem dX6_finds_49 : decode cX6_finds 49 = .ok (.istore_n 3, 1) := by decide +kernel
theorem dX6_finds_50 : decode cX6_finds 50 = .ok (.iload_n 3, 1) := by decide +kernel
theorem dX6_finds_51 : decode cX6_finds 51 = .ok (.iload_n 2, 1) := by decide +kernel
theorem dX6_finds_52 : decode cX6_finds 52 = .ok (.if_icmp .le 23, 3) := by decide +kernel
theorem dX6_finds_55 : decode cX6_finds 55 = .ok (.aload_n 0, 1) := by decide +kernel
theorem dX6_finds_56 : decode cX6_finds 56 = .ok (.getfield 48, 3) := by decide +kernel
theorem dX6_finds_59 : decode cX6_finds 59 = .ok (.iload_n 3, 1) := by decide +kernel
theorem dX6_finds_60 : decode cX6_finds 60 = .ok (.aload_n 0, 1) := by decide +kernel
theorem dX6_finds_61 : decode cX6_finds 61 = .ok (.getfield 48, 3) := by decide +kernel
theorem dX6_finds_64 : decode cX6_finds 64 = .ok (.iload_n 3, 1) := by decide +kernel
theorem dX6_finds_65 : decode cX6_finds 65 = .ok (.iconst 1, 1) := by decide +kernel
theorem dX6_finds_66 : decode cX6_finds 66 = .ok (.isub, 1) := by decide +kernel
theorem dX6_finds_67 : decode cX6_finds 67 = .ok (.iaload, 1) := by decide +kernel
theorem dX6_finds_68 : decode cX6_finds 68 = .ok (.iastore, 1) := by decide +kernel
theorem dX6_finds_69 : decode cX6_finds 69 = .ok (.iinc 3 (-1), 3) := by decide +kernel
theorem dX6_finds_72 : decode cX6_finds 72 = .ok (.goto (-22), 3) := by decide +kernel
theorem dX6_finds_75 : decode cX6_finds 75 = .ok (.aload_n 0, 1) := by decide +kernel
theorem dX6_finds_76 : decode cX6_finds 76 = .ok (.getfield 48, 3) := by decide +kernel
theorem dX6_finds_79 : decode cX6_finds 79 = .ok (.iload_n 2, 1) := by decide +kernel
theorem dX6_finds_80 : decode cX6_finds 80 = .ok (.iload_n 1, 1) := by decide +kernel
theorem dX6_finds_81 : decode cX6_finds 81 = .ok (.iastore, 1) := by decide +kernel
theorem dX6_finds_82 : decode cX6_finds 82 = .ok (.aload_n 0, 1) := by decide +kernel
theorem dX6_finds_83 : decode cX6_finds 83 = .ok (.dup, 1) := by decide +kernel
theorem dX6_finds_84 : decode cX6_finds 84 = .ok (.getfield 189, 3) := by decide +kernel
theorem dX6_finds_87 : decode cX6_finds 87 = .ok (.iconst 1, 1) := by decide +kernel
theorem dX6_finds_88 : decode cX6_finds 88 = .ok (.iadd, 1) := by decide +kernel
theorem dX6_finds_89 : decode cX6_finds 89 = .ok (.putfield 189, 3) := by decide +kernel
theorem dX6_finds_92 : decode cX6_finds 92 = .ok (.return_, 1) := by decide +kernel
theorem dX6_foundBy_0 : decode cX6_foundBy 0 = .ok (.iload_n 1, 1) := by decide +kernel
theorem dX6_foundBy_1 : decode cX6_foundBy 1 = .ok (.iconst (-1), 1) := by decide +kernel
theorem dX6_foundBy_2 : decode cX6_foundBy 2 = .ok (.if_icmp .ne 10, 3) := by decide +kernel
theorem dX6_foundBy_5 : decode cX6_foundBy 5 = .ok (.aload_n 0, 1) := by decide +kernel
theorem dX6_foundBy_6 : decode cX6_foundBy 6 = .ok (.getfield 189, 3) := by decide +kernel
theorem dX6_foundBy_9 : decode cX6_foundBy 9 = .ok (.goto 22, 3) := by decide +kernel
theorem dX6_foundBy_12 : decode cX6_foundBy 12 = .ok (.iload_n 1, 1) := by decide +kernel
theorem dX6_foundBy_13 : decode cX6_foundBy 13 = .ok (.aload_n 0, 1) := by decide +kernel
theorem dX6_foundBy_14 : decode cX6_foundBy 14 = .ok (.getfield 189, 3) := by decide +kernel
theorem dX6_foundBy_17 : decode cX6_foundBy 17 = .ok (.if_icmp .ge 12, 3) := by decide +kernel
theorem dX6_foundBy_20 : decode cX6_foundBy 20 = .ok (.aload_n 0, 1) := by decide +kernel
theorem dX6_foundBy_21 : decode cX6_foundBy 21 = .ok (.getfield 48, 3) := by decide +kernel
theorem dX6_foundBy_24 : decode cX6_foundBy 24 = .ok (.iload_n 1, 1) := by decide +kernel
theorem dX6_foundBy_25 : decode cX6_foundBy 25 = .ok (.iaload, 1) := by decide +kernel
theorem dX6_foundBy_26 : decode cX6_foundBy 26 = .ok (.goto 5, 3) := by decide +kernel
theorem dX6_foundBy_29 : decode cX6_foundBy 29 = .ok (.bipush (-9), 2) := by decide +kernel
theorem dX6_foundBy_31 : decode cX6_foundBy 31 = .ok (.ireturn, 1) := by decide +kernel
set_option maxRecDepth 20000 in
theorem ggX6_areBoth_X6_isCross : GoodIn wsX6_areBoth wsX6_isCross := goodIn_r _ [4, 5, 6, 3, 7, 8, 9, 10, 11, 12, 13] (by decide +kernel) (by decide +kernel)
set_option maxRecDepth 20000 in
theorem gX6_areBoth_X6_isCross : GoodIn wsX6_areBoth (va_wsS RX6 183 yX6_isCross wsX6_isCross) := goodIn_app (goodIn_of _ (by decide +kernel)) ggX6_areBoth_X6_isCross
theorem dX6_areBoth_0 : decode cX6_areBoth 0 = .ok (.iload_n 0, 1) := by decide +kernel
theorem dX6_areBoth_1 : decode cX6_areBoth 1 = .ok (.iload_n 1, 1) := by decide +kernel
theorem dX6_areBoth_2 : decode cX6_areBoth 2 = .ok (.iload_n 2, 1) := by decide +kernel
theorem dX6_areBoth_3 : decode cX6_areBoth 3 = .ok (.invokestatic 183, 3) := by decide +kernel
theorem dX6_areBoth_6 : decode cX6_areBoth 6 = .ok (.ifCond .eq 18, 3) := by decide +kernel
theorem dX6_areBoth_9 : decode cX6_areBoth 9 = .ok (.iload_n 0, 1) := by decide +kernel
theorem dX6_areBoth_10 : decode cX6_areBoth 10 = .ok (.iload_n 1, 1) := by decide +kernel
theorem dX6_areBoth_11 : decode cX6_areBoth 11 = .ok (.iload_n 2, 1) := by decide +kernel
theorem dX6_areBoth_12 : decode cX6_areBoth 12 = .ok (.iconst 1, 1) := by decide +kernel
theorem dX6_areBoth_13 : decode cX6_areBoth 13 = .ok (.iadd, 1) := by decide +kernel
theorem dX6_areBoth_14 : decode cX6_areBoth 14 = .ok (.invokestatic 183, 3) := by decide +kernel
theorem dX6_areBoth_17 : decode cX6_areBoth 17 = .ok (.ifCond .eq 7, 3) := by decide +kernel
theorem dX6_areBoth_20 : decode cX6_areBoth 20 = .ok (.iconst 1, 1) := by decide +kernel
theorem dX6_areBoth_21 : decode cX6_areBoth 21 = .ok (.goto 4, 3) := by decide +kernel
theorem dX6_areBoth_24 : decode cX6_areBoth 24 = .ok (.iconst 0, 1) := by decide +kernel
theorem dX6_areBoth_25 : decode cX6_areBoth 25 = .ok (.ireturn, 1) := by decide +kernel
set_option maxRecDepth 20000 in
theorem ggX6_climbs_X6_areBoth : GoodIn wsX6_climbs wsX6_areBoth := goodIn_r _ [4, 5, 6, 3, 7, 8, 9, 10, 11, 12, 13, 14, 15, 16] (by decide +kernel) (by decide +kernel)
set_option maxRecDepth 20000 in
theorem gX6_climbs_X6_areBoth : GoodIn wsX6_climbs (va_wsS RX6 192 yX6_areBoth wsX6_areBoth) := goodIn_app (goodIn_of _ (by decide +kernel)) ggX6_climbs_X6_areBoth
set_option maxRecDepth 20000 in
theorem ggX6_climbs_X6_isCross : GoodIn wsX6_climbs wsX6_isCross := goodIn_r _ [7, 8, 9, 3, 10, 11, 12, 13, 14, 15, 16] (by decide +kernel) (by decide +kernel)
set_option maxRecDepth 20000 in
theorem gX6_climbs_X6_isCross : GoodIn wsX6_climbs (va_wsS RX6 183 yX6_isCross wsX6_isCross) := goodIn_app (goodIn_of _ (by decide +kernel)) ggX6_climbs_X6_isCross
set_option maxRecDepth 20000 in
theorem ggX6_climbs_X6_bitOf : GoodIn wsX6_climbs wsX6_bitOf := goodIn_r _ [16] (by decide +kernel) (by decide +kernel)
set_option maxRecDepth 20000 in
theorem gX6_climbs_X6_bitOf : GoodIn wsX6_climbs (va_wsS RX6 180 yX6_bitOf wsX6_bitOf) := goodIn_app (goodIn_of _ (by decide +kernel)) ggX6_climbs_X6_bitOf
set_option maxRecDepth 20000 in
theorem ggX6_climbs_X6_finds : GoodIn wsX6_climbs wsX6_finds := goodIn_r _ [20, 21, 22, 23, 24, 25, 26, 27, 28, 29, 30, 31, 32, 33, 34, 35, 36, 37, 38] (by decide +kernel) (by decide +kernel)
set_option maxRecDepth 20000 in
theorem gX6_climbs_X6_finds : GoodIn wsX6_climbs (wsV RX6 195 RX6 yX6_finds wsX6_finds) := goodIn_app (goodIn_of _ (by decide +kernel)) ggX6_climbs_X6_finds
theorem dX6_climbs_0 : decode cX6_climbs 0 = .ok (.iload_n 2, 1) := by decide +kernel
theorem dX6_climbs_1 : decode cX6_climbs 1 = .ok (.iconst 1, 1) := by decide +kernel
theorem dX6_climbs_2 : decode cX6_climbs 2 = .ok (.isub, 1) := by decide +kernel
theorem dX6_climbs_3 : decode cX6_climbs 3 = .ok (.istore 4, 2) := by decide +kernel
theorem dX6_climbs_5 : decode cX6_climbs 5 = .ok (.iload 4, 2) := by decide +kernel
theorem dX6_climbs_7 : decode cX6_climbs 7 = .ok (.ifCond .le 19, 3) := by decide +kernel
theorem dX6_climbs_10 : decode cX6_climbs 10 = .ok (.iload_n 1, 1) := by decide +kernel
theorem dX6_climbs_11 : decode cX6_climbs 11 = .ok (.iload 4, 2) := by decide +kernel
theorem dX6_climbs_13 : decode cX6_climbs 13 = .ok (.iload_n 3, 1) := by decide +kernel
theorem dX6_climbs_14 : decode cX6_climbs 14 = .ok (.invokestatic 192, 3) := by decide +kernel
theorem dX6_climbs_17 : decode cX6_climbs 17 = .ok (.ifCond .eq 9, 3) := by decide +kernel
theorem dX6_climbs_20 : decode cX6_climbs 20 = .ok (.iinc 4 (-1), 3) := by decide +kernel
theorem dX6_climbs_23 : decode cX6_climbs 23 = .ok (.goto (-18), 3) := by decide +kernel
theorem dX6_climbs_26 : decode cX6_climbs 26 = .ok (.iload 4, 2) := by decide +kernel
theorem dX6_climbs_28 : decode cX6_climbs 28 = .ok (.ifCond .le 51, 3) := by decide +kernel
theorem dX6_climbs_31 : decode cX6_climbs 31 = .ok (.iload_n 1, 1) := by decide +kernel
theorem dX6_climbs_32 : decode cX6_climbs 32 = .ok (.iload 4, 2) := by decide +kernel
theorem dX6_climbs_34 : decode cX6_climbs 34 = .ok (.iload_n 3, 1) := by decide +kernel
theorem dX6_climbs_35 : decode cX6_climbs 35 = .ok (.invokestatic 183, 3) := by decide +kernel
theorem dX6_climbs_38 : decode cX6_climbs 38 = .ok (.ifCond .ne 41, 3) := by decide +kernel
theorem dX6_climbs_41 : decode cX6_climbs 41 = .ok (.iload_n 1, 1) := by decide +kernel
theorem dX6_climbs_42 : decode cX6_climbs 42 = .ok (.iload 4, 2) := by decide +kernel
theorem dX6_climbs_44 : decode cX6_climbs 44 = .ok (.iload_n 3, 1) := by decide +kernel
theorem dX6_climbs_45 : decode cX6_climbs 45 = .ok (.iconst 1, 1) := by decide +kernel
theorem dX6_climbs_46 : decode cX6_climbs 46 = .ok (.iadd, 1) := by decide +kernel
theorem dX6_climbs_47 : decode cX6_climbs 47 = .ok (.invokestatic 183, 3) := by decide +kernel
theorem dX6_climbs_50 : decode cX6_climbs 50 = .ok (.ifCond .ne 29, 3) := by decide +kernel
theorem dX6_climbs_53 : decode cX6_climbs 53 = .ok (.aload_n 0, 1) := by decide +kernel
theorem dX6_climbs_54 : decode cX6_climbs 54 = .ok (.iload_n 1, 1) := by decide +kernel
theorem dX6_climbs_55 : decode cX6_climbs 55 = .ok (.iconst 1, 1) := by decide +kernel
theorem dX6_climbs_56 : decode cX6_climbs 56 = .ok (.iload_n 2, 1) := by decide +kernel
theorem dX6_climbs_57 : decode cX6_climbs 57 = .ok (.iload_n 3, 1) := by decide +kernel
theorem dX6_climbs_58 : decode cX6_climbs 58 = .ok (.invokestatic 180, 3) := by decide +kernel
theorem dX6_climbs_61 : decode cX6_climbs 61 = .ok (.ishl, 1) := by decide +kernel
theorem dX6_climbs_62 : decode cX6_climbs 62 = .ok (.iconst (-1), 1) := by decide +kernel
theorem dX6_climbs_63 : decode cX6_climbs 63 = .ok (.ixor, 1) := by decide +kernel
theorem dX6_climbs_64 : decode cX6_climbs 64 = .ok (.iand, 1) := by decide +kernel
theorem dX6_climbs_65 : decode cX6_climbs 65 = .ok (.iconst 1, 1) := by decide +kernel
theorem dX6_climbs_66 : decode cX6_climbs 66 = .ok (.iload 4, 2) := by decide +kernel
theorem dX6_climbs_68 : decode cX6_climbs 68 = .ok (.iload_n 3, 1) := by decide +kernel
theorem dX6_climbs_69 : decode cX6_climbs 69 = .ok (.iconst 1, 1) := by decide +kernel
theorem dX6_climbs_70 : decode cX6_climbs 70 = .ok (.iadd, 1) := by decide +kernel
theorem dX6_climbs_71 : decode cX6_climbs 71 = .ok (.invokestatic 180, 3) := by decide +kernel
theorem dX6_climbs_74 : decode cX6_climbs 74 = .ok (.ishl, 1) := by decide +kernel
theorem dX6_climbs_75 : decode cX6_climbs 75 = .ok (.ior, 1) := by decide +kernel
theorem dX6_climbs_76 : decode cX6_climbs 76 = .ok (.invokevirtual 195, 3) := by decide +kernel
theorem dX6_climbs_79 : decode cX6_climbs 79 = .ok (.return_, 1) := by decide +kernel
set_option maxRecDepth 20000 in
theorem ggX6_ladder_X6_within : GoodIn wsX6_ladder wsX6_within := goodIn_r _ [5] (by decide +kernel) (by decide +kernel)
set_option maxRecDepth 20000 in
theorem gX6_ladder_X6_within : GoodIn wsX6_ladder (va_wsS RX6 51 yX6_within wsX6_within) := goodIn_app (goodIn_of _ (by decide +kernel)) ggX6_ladder_X6_within
set_option maxRecDepth 20000 in
theorem ggX6_ladder_X6_isCross : GoodIn wsX6_ladder wsX6_isCross := goodIn_r _ [8, 9, 10, 4, 11, 2, 3, 5, 12, 13, 14] (by decide +kernel) (by decide +kernel)
set_option maxRecDepth 20000 in
theorem gX6_ladder_X6_isCross : GoodIn wsX6_ladder (va_wsS RX6 183 yX6_isCross wsX6_isCross) := goodIn_app (goodIn_of _ (by decide +kernel)) ggX6_ladder_X6_isCross
set_option maxRecDepth 20000 in
theorem ggX6_ladder_X6_climbs : GoodIn wsX6_ladder wsX6_climbs := goodIn_r _ [18, 19, 20, 4, 21, 6, 7, 8, 9, 10, 11, 2, 3, 5, 12, 13, 14, 22, 23, 24, 25, 1, 26, 31, 32, 33, 34, 35, 36, 37, 38, 39, 40, 41, 42, 43, 44, 45, 46] (by decide +kernel) (by decide +kernel)
set_option maxRecDepth 20000 in
theorem gX6_ladder_X6_climbs : GoodIn wsX6_ladder (wsV RX6 198 RX6 yX6_climbs wsX6_climbs) := goodIn_app (goodIn_of _ (by decide +kernel)) ggX6_ladder_X6_climbs
set_option maxRecDepth 20000 in
theorem ggX6_ladder_X6_foundBy : GoodIn wsX6_ladder wsX6_foundBy := goodIn_r _ [30, 1, 26, 31, 32, 33, 34, 35, 36, 37, 38, 39, 40, 41, 42, 43, 44, 45, 46] (by decide +kernel) (by decide +kernel)
set_option maxRecDepth 20000 in
theorem gX6_ladder_X6_foundBy : GoodIn wsX6_ladder (wsV RX6 202 RX6 yX6_foundBy wsX6_foundBy) := goodIn_app (goodIn_of _ (by decide +kernel)) ggX6_ladder_X6_foundBy
theorem dX6_ladder_0 : decode cX6_ladder 0 = .ok (.iload_n 1, 1) := by decide +kernel
theorem dX6_ladder_1 : decode cX6_ladder 1 = .ok (.iconst 0, 1) := by decide +kernel
theorem dX6_ladder_2 : decode cX6_ladder 2 = .ok (.sipush 1023, 3) := by decide +kernel
theorem dX6_ladder_5 : decode cX6_ladder 5 = .ok (.invokestatic 51, 3) := by decide +kernel
theorem dX6_ladder_8 : decode cX6_ladder 8 = .ok (.ifCond .eq 8, 3) := by decide +kernel
theorem dX6_ladder_11 : decode cX6_ladder 11 = .ok (.iload_n 2, 1) := by decide +kernel
theorem dX6_ladder_12 : decode cX6_ladder 12 = .ok (.iconst (-1), 1) := by decide +kernel
theorem dX6_ladder_13 : decode cX6_ladder 13 = .ok (.if_icmp .ge 6, 3) := by decide +kernel
theorem dX6_ladder_16 : decode cX6_ladder 16 = .ok (.bipush (-2), 2) := by decide +kernel
theorem dX6_ladder_18 : decode cX6_ladder 18 = .ok (.ireturn, 1) := by decide +kernel
theorem dX6_ladder_19 : decode cX6_ladder 19 = .ok (.aload_n 0, 1) := by decide +kernel
theorem dX6_ladder_20 : decode cX6_ladder 20 = .ok (.iconst 0, 1) := by decide +kernel
theorem dX6_ladder_21 : decode cX6_ladder 21 = .ok (.putfield 189, 3) := by decide +kernel
theorem dX6_ladder_24 : decode cX6_ladder 24 = .ok (.iconst 2, 1) := by decide +kernel
theorem dX6_ladder_25 : decode cX6_ladder 25 = .ok (.istore_n 3, 1) := by decide +kernel
theorem dX6_ladder_26 : decode cX6_ladder 26 = .ok (.iload_n 3, 1) := by decide +kernel
theorem dX6_ladder_27 : decode cX6_ladder 27 = .ok (.iconst 4, 1) := by decide +kernel
theorem dX6_ladder_28 : decode cX6_ladder 28 = .ok (.if_icmp .gt 56, 3) := by decide +kernel
theorem dX6_ladder_31 : decode cX6_ladder 31 = .ok (.iconst 1, 1) := by decide +kernel
theorem dX6_ladder_32 : decode cX6_ladder 32 = .ok (.istore 4, 2) := by decide +kernel
theorem dX6_ladder_34 : decode cX6_ladder 34 = .ok (.iload 4, 2) := by decide +kernel
theorem dX6_ladder_36 : decode cX6_ladder 36 = .ok (.iconst 5, 1) := by decide +kernel
theorem dX6_ladder_37 : decode cX6_ladder 37 = .ok (.iload_n 3, 1) := by decide +kernel
theorem dX6_ladder_38 : decode cX6_ladder 38 = .ok (.isub, 1) := by decide +kernel
theorem dX6_ladder_39 : decode cX6_ladder 39 = .ok (.if_icmp .gt 39, 3) := by decide +kernel
theorem dX6_ladder_42 : decode cX6_ladder 42 = .ok (.iload_n 1, 1) := by decide +kernel
theorem dX6_ladder_43 : decode cX6_ladder 43 = .ok (.iload_n 3, 1) := by decide +kernel
theorem dX6_ladder_44 : decode cX6_ladder 44 = .ok (.iload 4, 2) := by decide +kernel
theorem dX6_ladder_46 : decode cX6_ladder 46 = .ok (.invokestatic 183, 3) := by decide +kernel
theorem dX6_ladder_49 : decode cX6_ladder 49 = .ok (.ifCond .eq 23, 3) := by decide +kernel
theorem dX6_ladder_52 : decode cX6_ladder 52 = .ok (.iload_n 1, 1) := by decide +kernel
theorem dX6_ladder_53 : decode cX6_ladder 53 = .ok (.iload_n 3, 1) := by decide +kernel
theorem dX6_ladder_54 : decode cX6_ladder 54 = .ok (.iload 4, 2) := by decide +kernel
theorem dX6_ladder_56 : decode cX6_ladder 56 = .ok (.iconst 1, 1) := by decide +kernel
theorem dX6_ladder_57 : decode cX6_ladder 57 = .ok (.iadd, 1) := by decide +kernel
theorem dX6_ladder_58 : decode cX6_ladder 58 = .ok (.invokestatic 183, 3) := by decide +kernel
theorem dX6_ladder_61 : decode cX6_ladder 61 = .ok (.ifCond .ne 11, 3) := by decide +kernel
theorem dX6_ladder_64 : decode cX6_ladder 64 = .ok (.aload_n 0, 1) := by decide +kernel
theorem dX6_ladder_65 : decode cX6_ladder 65 = .ok (.iload_n 1, 1) := by decide +kernel
theorem dX6_ladder_66 : decode cX6_ladder 66 = .ok (.iload_n 3, 1) := by decide +kernel
theorem dX6_ladder_67 : decode cX6_ladder 67 = .ok (.iload 4, 2) := by decide +kernel
theorem dX6_ladder_69 : decode cX6_ladder 69 = .ok (.invokevirtual 198, 3) := by decide +kernel
theorem dX6_ladder_72 : decode cX6_ladder 72 = .ok (.iinc 4 1, 3) := by decide +kernel
theorem dX6_ladder_75 : decode cX6_ladder 75 = .ok (.goto (-41), 3) := by decide +kernel
theorem dX6_ladder_78 : decode cX6_ladder 78 = .ok (.iinc 3 1, 3) := by decide +kernel
theorem dX6_ladder_81 : decode cX6_ladder 81 = .ok (.goto (-55), 3) := by decide +kernel
theorem dX6_ladder_84 : decode cX6_ladder 84 = .ok (.aload_n 0, 1) := by decide +kernel
theorem dX6_ladder_85 : decode cX6_ladder 85 = .ok (.iload_n 2, 1) := by decide +kernel
theorem dX6_ladder_86 : decode cX6_ladder 86 = .ok (.invokevirtual 202, 3) := by decide +kernel
theorem dX6_ladder_89 : decode cX6_ladder 89 = .ok (.ireturn, 1) := by decide +kernel
set_option maxRecDepth 20000 in
theorem ggX6_rise_X6_lays : GoodIn wsX6_rise wsX6_lays := goodIn_r _ [7, 8, 9, 6, 10] (by decide +kernel) (by decide +kernel)
set_option maxRecDepth 20000 in
theorem gX6_rise_X6_lays : GoodIn wsX6_rise (va_wsS RX6 63 yX6_lays wsX6_lays) := goodIn_app (goodIn_of _ (by decide +kernel)) ggX6_rise_X6_lays
set_option maxRecDepth 20000 in
theorem ggX6_rise_X6_within : GoodIn wsX6_rise wsX6_within := goodIn_r _ [10] (by decide +kernel) (by decide +kernel)
set_option maxRecDepth 20000 in
theorem gX6_rise_X6_within : GoodIn wsX6_rise (va_wsS RX6 51 yX6_within wsX6_within) := goodIn_app (goodIn_of _ (by decide +kernel)) ggX6_rise_X6_within
set_option maxRecDepth 20000 in
theorem ggX6_rise_X6_lengthOf : GoodIn wsX6_rise wsX6_lengthOf := goodIn_r _ [13, 14, 15, 6, 16] (by decide +kernel) (by decide +kernel)
set_option maxRecDepth 20000 in
theorem gX6_rise_X6_lengthOf : GoodIn wsX6_rise (va_wsS RX6 70 yX6_lengthOf wsX6_lengthOf) := goodIn_app (goodIn_of _ (by decide +kernel)) ggX6_rise_X6_lengthOf
set_option maxRecDepth 20000 in
theorem ggX6_rise_X6_exchange : GoodIn wsX6_rise wsX6_exchange := goodIn_r _ [19] (by decide +kernel) (by decide +kernel)
set_option maxRecDepth 20000 in
theorem gX6_rise_X6_exchange : GoodIn wsX6_rise (va_wsS RX6 85 yX6_exchange wsX6_exchange) := goodIn_app (goodIn_of _ (by decide +kernel)) ggX6_rise_X6_exchange
set_option maxRecDepth 20000 in
theorem ggX6_rise_X6_plainOf : GoodIn wsX6_rise wsX6_plainOf := goodIn_r _ [22] (by decide +kernel) (by decide +kernel)
set_option maxRecDepth 20000 in
theorem gX6_rise_X6_plainOf : GoodIn wsX6_rise (va_wsS RX6 67 yX6_plainOf wsX6_plainOf) := goodIn_app (goodIn_of _ (by decide +kernel)) ggX6_rise_X6_plainOf
set_option maxRecDepth 20000 in
theorem ggX6_rise_X6_finds : GoodIn wsX6_rise wsX6_finds := goodIn_r _ [26, 3, 27, 32, 33, 34, 35, 36, 37, 38, 39, 40, 41, 42, 43, 44, 45, 46, 47] (by decide +kernel) (by decide +kernel)
set_option maxRecDepth 20000 in
theorem gX6_rise_X6_finds : GoodIn wsX6_rise (wsV RX6 195 RX6 yX6_finds wsX6_finds) := goodIn_app (goodIn_of _ (by decide +kernel)) ggX6_rise_X6_finds
set_option maxRecDepth 20000 in
theorem ggX6_rise_X6_foundBy : GoodIn wsX6_rise wsX6_foundBy := goodIn_r _ [31, 3, 27, 32, 33, 34, 35, 36, 37, 38, 39, 40, 41, 42, 43, 44, 45, 46, 47] (by decide +kernel) (by decide +kernel)
set_option maxRecDepth 20000 in
theorem gX6_rise_X6_foundBy : GoodIn wsX6_rise (wsV RX6 202 RX6 yX6_foundBy wsX6_foundBy) := goodIn_app (goodIn_of _ (by decide +kernel)) ggX6_rise_X6_foundBy
theorem dX6_rise_0 : decode cX6_rise 0 = .ok (.iload_n 1, 1) := by decide +kernel
theorem dX6_rise_1 : decode cX6_rise 1 = .ok (.aload_n 0, 1) := by decide +kernel
theorem dX6_rise_2 : decode cX6_rise 2 = .ok (.getfield 7, 3) := by decide +kernel
theorem dX6_rise_5 : decode cX6_rise 5 = .ok (.invokestatic 63, 3) := by decide +kernel
theorem dX6_rise_8 : decode cX6_rise 8 = .ok (.ifCond .eq 24, 3) := by decide +kernel
theorem dX6_rise_11 : decode cX6_rise 11 = .ok (.iload_n 1, 1) := by decide +kernel
theorem dX6_rise_12 : decode cX6_rise 12 = .ok (.ldc 205, 2) := by decide +kernel
theorem dX6_rise_14 : decode cX6_rise 14 = .ok (.if_icmp .gt 18, 3) := by decide +kernel
theorem dX6_rise_17 : decode cX6_rise 17 = .ok (.iload_n 2, 1) := by decide +kernel
theorem dX6_rise_18 : decode cX6_rise 18 = .ok (.iconst 1, 1) := by decide +kernel
theorem dX6_rise_19 : decode cX6_rise 19 = .ok (.bipush 8, 2) := by decide +kernel
theorem dX6_rise_21 : decode cX6_rise 21 = .ok (.invokestatic 51, 3) := by decide +kernel
theorem dX6_rise_24 : decode cX6_rise 24 = .ok (.ifCond .eq 8, 3) := by decide +kernel
theorem dX6_rise_27 : decode cX6_rise 27 = .ok (.iload_n 3, 1) := by decide +kernel
theorem dX6_rise_28 : decode cX6_rise 28 = .ok (.iconst (-1), 1) := by decide +kernel
theorem dX6_rise_29 : decode cX6_rise 29 = .ok (.if_icmp .ge 6, 3) := by decide +kernel
theorem dX6_rise_32 : decode cX6_rise 32 = .ok (.bipush (-2), 2) := by decide +kernel
theorem dX6_rise_34 : decode cX6_rise 34 = .ok (.ireturn, 1) := by decide +kernel
theorem dX6_rise_35 : decode cX6_rise 35 = .ok (.aload_n 0, 1) := by decide +kernel
theorem dX6_rise_36 : decode cX6_rise 36 = .ok (.getfield 7, 3) := by decide +kernel
theorem dX6_rise_39 : decode cX6_rise 39 = .ok (.invokestatic 70, 3) := by decide +kernel
theorem dX6_rise_42 : decode cX6_rise 42 = .ok (.istore 4, 2) := by decide +kernel
theorem dX6_rise_44 : decode cX6_rise 44 = .ok (.aload_n 0, 1) := by decide +kernel
theorem dX6_rise_45 : decode cX6_rise 45 = .ok (.iconst 0, 1) := by decide +kernel
theorem dX6_rise_46 : decode cX6_rise 46 = .ok (.putfield 189, 3) := by decide +kernel
theorem dX6_rise_49 : decode cX6_rise 49 = .ok (.iconst 1, 1) := by decide +kernel
theorem dX6_rise_50 : decode cX6_rise 50 = .ok (.istore 5, 2) := by decide +kernel
theorem dX6_rise_52 : decode cX6_rise 52 = .ok (.iload 5, 2) := by decide +kernel
theorem dX6_rise_54 : decode cX6_rise 54 = .ok (.iload_n 2, 1) := by decide +kernel
theorem dX6_rise_55 : decode cX6_rise 55 = .ok (.if_icmp .gt 74, 3) := by decide +kernel
theorem dX6_rise_58 : decode cX6_rise 58 = .ok (.iload_n 2, 1) := by decide +kernel
theorem dX6_rise_59 : decode cX6_rise 59 = .ok (.iconst 1, 1) := by decide +kernel
theorem dX6_rise_60 : decode cX6_rise 60 = .ok (.iadd, 1) := by decide +kernel
theorem dX6_rise_61 : decode cX6_rise 61 = .ok (.istore 6, 2) := by decide +kernel
theorem dX6_rise_63 : decode cX6_rise 63 = .ok (.iload 6, 2) := by decide +kernel
theorem dX6_rise_65 : decode cX6_rise 65 = .ok (.bipush 9, 2) := by decide +kernel
theorem dX6_rise_67 : decode cX6_rise 67 = .ok (.if_icmp .gt 56, 3) := by decide +kernel
theorem dX6_rise_70 : decode cX6_rise 70 = .ok (.aload_n 0, 1) := by decide +kernel
theorem dX6_rise_71 : decode cX6_rise 71 = .ok (.getfield 7, 3) := by decide +kernel
theorem dX6_rise_74 : decode cX6_rise 74 = .ok (.iload 5, 2) := by decide +kernel
theorem dX6_rise_76 : decode cX6_rise 76 = .ok (.iload 6, 2) := by decide +kernel
theorem dX6_rise_78 : decode cX6_rise 78 = .ok (.invokestatic 85, 3) := by decide +kernel
theorem dX6_rise_81 : decode cX6_rise 81 = .ok (.aload_n 0, 1) := by decide +kernel
theorem dX6_rise_82 : decode cX6_rise 82 = .ok (.getfield 7, 3) := by decide +kernel
theorem dX6_rise_85 : decode cX6_rise 85 = .ok (.invokestatic 70, 3) := by decide +kernel
theorem dX6_rise_88 : decode cX6_rise 88 = .ok (.iload 4, 2) := by decide +kernel
theorem dX6_rise_90 : decode cX6_rise 90 = .ok (.iconst 1, 1) := by decide +kernel
theorem dX6_rise_91 : decode cX6_rise 91 = .ok (.iadd, 1) := by decide +kernel
theorem dX6_rise_92 : decode cX6_rise 92 = .ok (.if_icmp .ne 14, 3) := by decide +kernel
theorem dX6_rise_95 : decode cX6_rise 95 = .ok (.aload_n 0, 1) := by decide +kernel
theorem dX6_rise_96 : decode cX6_rise 96 = .ok (.aload_n 0, 1) := by decide +kernel
theorem dX6_rise_97 : decode cX6_rise 97 = .ok (.getfield 7, 3) := by decide +kernel
theorem dX6_rise_100 : decode cX6_rise 100 = .ok (.invokestatic 67, 3) := by decide +kernel
theorem dX6_rise_103 : decode cX6_rise 103 = .ok (.invokevirtual 195, 3) := by decide +kernel
theorem dX6_rise_106 : decode cX6_rise 106 = .ok (.aload_n 0, 1) := by decide +kernel
theorem dX6_rise_107 : decode cX6_rise 107 = .ok (.getfield 7, 3) := by decide +kernel
theorem dX6_rise_110 : decode cX6_rise 110 = .ok (.iload 5, 2) := by decide +kernel
theorem dX6_rise_112 : decode cX6_rise 112 = .ok (.iload 6, 2) := by decide +kernel
theorem dX6_rise_114 : decode cX6_rise 114 = .ok (.invokestatic 85, 3) := by decide +kernel
theorem dX6_rise_117 : decode cX6_rise 117 = .ok (.iinc 6 1, 3) := by decide +kernel
theorem dX6_rise_120 : decode cX6_rise 120 = .ok (.goto (-57), 3) := by decide +kernel
theorem dX6_rise_123 : decode cX6_rise 123 = .ok (.iinc 5 1, 3) := by decide +kernel
theorem dX6_rise_126 : decode cX6_rise 126 = .ok (.goto (-74), 3) := by decide +kernel
theorem dX6_rise_129 : decode cX6_rise 129 = .ok (.aload_n 0, 1) := by decide +kernel
theorem dX6_rise_130 : decode cX6_rise 130 = .ok (.iload_n 3, 1) := by decide +kernel
theorem dX6_rise_131 : decode cX6_rise 131 = .ok (.invokevirtual 202, 3) := by decide +kernel
theorem dX6_rise_134 : decode cX6_rise 134 = .ok (.ireturn, 1) := by decide +kernel
theorem dX6_lastDescent_0 : decode cX6_lastDescent 0 = .ok (.bipush 8, 2) := by decide +kernel
theorem dX6_lastDescent_2 : decode cX6_lastDescent 2 = .ok (.istore_n 1, 1) := by decide +kernel
theorem dX6_lastDescent_3 : decode cX6_lastDescent 3 = .ok (.aload_n 0, 1) := by decide +kernel
theorem dX6_lastDescent_4 : decode cX6_lastDescent 4 = .ok (.iload_n 1, 1) := by decide +kernel
theorem dX6_lastDescent_5 : decode cX6_lastDescent 5 = .ok (.iaload, 1) := by decide +kernel
theorem dX6_lastDescent_6 : decode cX6_lastDescent 6 = .ok (.aload_n 0, 1) := by decide +kernel
theorem dX6_lastDescent_7 : decode cX6_lastDescent 7 = .ok (.iload_n 1, 1) := by decide +kernel
theorem dX6_lastDescent_8 : decode cX6_lastDescent 8 = .ok (.iconst 1, 1) := by decide +kernel
theorem dX6_lastDescent_9 : decode cX6_lastDescent 9 = .ok (.iadd, 1) := by decide +kernel
theorem dX6_lastDescent_10 : decode cX6_lastDescent 10 = .ok (.iaload, 1) := by decide +kernel
theorem dX6_lastDescent_11 : decode cX6_lastDescent 11 = .ok (.if_icmp .ge 9, 3) := by decide +kernel
theorem dX6_lastDescent_14 : decode cX6_lastDescent 14 = .ok (.iinc 1 (-1), 3) := by decide +kernel
theorem dX6_lastDescent_17 : decode cX6_lastDescent 17 = .ok (.goto (-14), 3) := by decide +kernel
theorem dX6_lastDescent_20 : decode cX6_lastDescent 20 = .ok (.iload_n 1, 1) := by decide +kernel
theorem dX6_lastDescent_21 : decode cX6_lastDescent 21 = .ok (.ireturn, 1) := by decide +kernel
set_option maxRecDepth 20000 in
theorem ggX6_step_X6_lays : GoodIn wsX6_step wsX6_lays := goodIn_r _ [6, 7, 8, 5, 9] (by decide +kernel) (by decide +kernel)
set_option maxRecDepth 20000 in
theorem gX6_step_X6_lays : GoodIn wsX6_step (va_wsS RX6 63 yX6_lays wsX6_lays) := goodIn_app (goodIn_of _ (by decide +kernel)) ggX6_step_X6_lays
set_option maxRecDepth 20000 in
theorem ggX6_step_X6_descentsOf : GoodIn wsX6_step wsX6_descentsOf := goodIn_r _ [12] (by decide +kernel) (by decide +kernel)
set_option maxRecDepth 20000 in
theorem gX6_step_X6_descentsOf : GoodIn wsX6_step (va_wsS RX6 59 yX6_descentsOf wsX6_descentsOf) := goodIn_app (goodIn_of _ (by decide +kernel)) ggX6_step_X6_descentsOf
set_option maxRecDepth 20000 in
theorem ggX6_step_X6_lengthOf : GoodIn wsX6_step wsX6_lengthOf := goodIn_r _ [15, 16, 17, 5, 18] (by decide +kernel) (by decide +kernel)
set_option maxRecDepth 20000 in
theorem gX6_step_X6_lengthOf : GoodIn wsX6_step (va_wsS RX6 70 yX6_lengthOf wsX6_lengthOf) := goodIn_app (goodIn_of _ (by decide +kernel)) ggX6_step_X6_lengthOf
set_option maxRecDepth 20000 in
theorem ggX6_step_X6_lastDescent : GoodIn wsX6_step wsX6_lastDescent := goodIn_r _ [21] (by decide +kernel) (by decide +kernel)
set_option maxRecDepth 20000 in
theorem gX6_step_X6_lastDescent : GoodIn wsX6_step (va_wsS RX6 206 yX6_lastDescent wsX6_lastDescent) := goodIn_app (goodIn_of _ (by decide +kernel)) ggX6_step_X6_lastDescent
set_option maxRecDepth 20000 in
theorem ggX6_step_X6_exchange : GoodIn wsX6_step wsX6_exchange := goodIn_r _ [24] (by decide +kernel) (by decide +kernel)
set_option maxRecDepth 20000 in
theorem gX6_step_X6_exchange : GoodIn wsX6_step (va_wsS RX6 85 yX6_exchange wsX6_exchange) := goodIn_app (goodIn_of _ (by decide +kernel)) ggX6_step_X6_exchange
set_option maxRecDepth 20000 in
theorem ggX6_step_X6_plainOf : GoodIn wsX6_step wsX6_plainOf := goodIn_r _ [27] (by decide +kernel) (by decide +kernel)
set_option maxRecDepth 20000 in
theorem gX6_step_X6_plainOf : GoodIn wsX6_step (va_wsS RX6 67 yX6_plainOf wsX6_plainOf) := goodIn_app (goodIn_of _ (by decide +kernel)) ggX6_step_X6_plainOf
set_option maxRecDepth 20000 in
theorem ggX6_step_X6_finds : GoodIn wsX6_step wsX6_finds := goodIn_r _ [31, 2, 32, 37, 38, 39, 40, 41, 42, 43, 44, 45, 46, 47, 48, 49, 50, 51, 52] (by decide +kernel) (by decide +kernel)
set_option maxRecDepth 20000 in
theorem gX6_step_X6_finds : GoodIn wsX6_step (wsV RX6 195 RX6 yX6_finds wsX6_finds) := goodIn_app (goodIn_of _ (by decide +kernel)) ggX6_step_X6_finds
set_option maxRecDepth 20000 in
theorem ggX6_step_X6_foundBy : GoodIn wsX6_step wsX6_foundBy := goodIn_r _ [36, 2, 32, 37, 38, 39, 40, 41, 42, 43, 44, 45, 46, 47, 48, 49, 50, 51, 52] (by decide +kernel) (by decide +kernel)
set_option maxRecDepth 20000 in
theorem gX6_step_X6_foundBy : GoodIn wsX6_step (wsV RX6 202 RX6 yX6_foundBy wsX6_foundBy) := goodIn_app (goodIn_of _ (by decide +kernel)) ggX6_step_X6_foundBy
theorem dX6_step_0 : decode cX6_step 0 = .ok (.iload_n 1, 1) := by decide +kernel
theorem dX6_step_1 : decode cX6_step 1 = .ok (.aload_n 0, 1) := by decide +kernel
theorem dX6_step_2 : decode cX6_step 2 = .ok (.getfield 7, 3) := by decide +kernel
theorem dX6_step_5 : decode cX6_step 5 = .ok (.invokestatic 63, 3) := by decide +kernel
theorem dX6_step_8 : decode cX6_step 8 = .ok (.ifCond .eq 9, 3) := by decide +kernel
theorem dX6_step_11 : decode cX6_step 11 = .ok (.iload_n 2, 1) := by decide +kernel
theorem dX6_step_12 : decode cX6_step 12 = .ok (.bipush (-3), 2) := by decide +kernel
theorem dX6_step_14 : decode cX6_step 14 = .ok (.if_icmp .ge 6, 3) := by decide +kernel
theorem dX6_step_17 : decode cX6_step 17 = .ok (.bipush (-2), 2) := by decide +kernel
theorem dX6_step_19 : decode cX6_step 19 = .ok (.ireturn, 1) := by decide +kernel
theorem dX6_step_20 : decode cX6_step 20 = .ok (.aload_n 0, 1) := by decide +kernel
theorem dX6_step_21 : decode cX6_step 21 = .ok (.getfield 7, 3) := by decide +kernel
theorem dX6_step_24 : decode cX6_step 24 = .ok (.invokestatic 59, 3) := by decide +kernel
theorem dX6_step_27 : decode cX6_step 27 = .ok (.ifCond .ne 6, 3) := by decide +kernel
theorem dX6_step_30 : decode cX6_step 30 = .ok (.bipush (-3), 2) := by decide +kernel
theorem dX6_step_32 : decode cX6_step 32 = .ok (.ireturn, 1) := by decide +kernel
theorem dX6_step_33 : decode cX6_step 33 = .ok (.aload_n 0, 1) := by decide +kernel
theorem dX6_step_34 : decode cX6_step 34 = .ok (.getfield 7, 3) := by decide +kernel
theorem dX6_step_37 : decode cX6_step 37 = .ok (.invokestatic 70, 3) := by decide +kernel
theorem dX6_step_40 : decode cX6_step 40 = .ok (.istore_n 3, 1) := by decide +kernel
theorem dX6_step_41 : decode cX6_step 41 = .ok (.aload_n 0, 1) := by decide +kernel
theorem dX6_step_42 : decode cX6_step 42 = .ok (.getfield 7, 3) := by decide +kernel
theorem dX6_step_45 : decode cX6_step 45 = .ok (.invokestatic 206, 3) := by decide +kernel
theorem dX6_step_48 : decode cX6_step 48 = .ok (.istore 4, 2) := by decide +kernel
theorem dX6_step_50 : decode cX6_step 50 = .ok (.bipush 9, 2) := by decide +kernel
theorem dX6_step_52 : decode cX6_step 52 = .ok (.istore 5, 2) := by decide +kernel
theorem dX6_step_54 : decode cX6_step 54 = .ok (.aload_n 0, 1) := by decide +kernel
theorem dX6_step_55 : decode cX6_step 55 = .ok (.getfield 7, 3) := by decide +kernel
theorem dX6_step_58 : decode cX6_step 58 = .ok (.iload 5, 2) := by decide +kernel
theorem dX6_step_60 : decode cX6_step 60 = .ok (.iaload, 1) := by decide +kernel
theorem dX6_step_61 : decode cX6_step 61 = .ok (.aload_n 0, 1) := by decide +kernel
theorem dX6_step_62 : decode cX6_step 62 = .ok (.getfield 7, 3) := by decide +kernel
theorem dX6_step_65 : decode cX6_step 65 = .ok (.iload 4, 2) := by decide +kernel
theorem dX6_step_67 : decode cX6_step 67 = .ok (.iaload, 1) := by decide +kernel
theorem dX6_step_68 : decode cX6_step 68 = .ok (.if_icmp .lt 9, 3) := by decide +kernel
theorem dX6_step_71 : decode cX6_step 71 = .ok (.iinc 5 (-1), 3) := by decide +kernel
theorem dX6_step_74 : decode cX6_step 74 = .ok (.goto (-20), 3) := by decide +kernel
theorem dX6_step_77 : decode cX6_step 77 = .ok (.aload_n 0, 1) := by decide +kernel
theorem dX6_step_78 : decode cX6_step 78 = .ok (.getfield 7, 3) := by decide +kernel
theorem dX6_step_81 : decode cX6_step 81 = .ok (.iload 4, 2) := by decide +kernel
theorem dX6_step_83 : decode cX6_step 83 = .ok (.iload 5, 2) := by decide +kernel
theorem dX6_step_85 : decode cX6_step 85 = .ok (.invokestatic 85, 3) := by decide +kernel
theorem dX6_step_88 : decode cX6_step 88 = .ok (.aload_n 0, 1) := by decide +kernel
theorem dX6_step_89 : decode cX6_step 89 = .ok (.getfield 7, 3) := by decide +kernel
theorem dX6_step_92 : decode cX6_step 92 = .ok (.invokestatic 67, 3) := by decide +kernel
theorem dX6_step_95 : decode cX6_step 95 = .ok (.istore 6, 2) := by decide +kernel
theorem dX6_step_97 : decode cX6_step 97 = .ok (.aload_n 0, 1) := by decide +kernel
theorem dX6_step_98 : decode cX6_step 98 = .ok (.iconst 0, 1) := by decide +kernel
theorem dX6_step_99 : decode cX6_step 99 = .ok (.putfield 189, 3) := by decide +kernel
theorem dX6_step_102 : decode cX6_step 102 = .ok (.iconst 1, 1) := by decide +kernel
theorem dX6_step_103 : decode cX6_step 103 = .ok (.istore 7, 2) := by decide +kernel
theorem dX6_step_105 : decode cX6_step 105 = .ok (.iload 7, 2) := by decide +kernel
theorem dX6_step_107 : decode cX6_step 107 = .ok (.iload 4, 2) := by decide +kernel
theorem dX6_step_109 : decode cX6_step 109 = .ok (.if_icmp .ge 53, 3) := by decide +kernel
theorem dX6_step_112 : decode cX6_step 112 = .ok (.aload_n 0, 1) := by decide +kernel
theorem dX6_step_113 : decode cX6_step 113 = .ok (.getfield 7, 3) := by decide +kernel
theorem dX6_step_116 : decode cX6_step 116 = .ok (.iload 7, 2) := by decide +kernel
theorem dX6_step_118 : decode cX6_step 118 = .ok (.iload 4, 2) := by decide +kernel
theorem dX6_step_120 : decode cX6_step 120 = .ok (.invokestatic 85, 3) := by decide +kernel
theorem dX6_step_123 : decode cX6_step 123 = .ok (.aload_n 0, 1) := by decide +kernel
theorem dX6_step_124 : decode cX6_step 124 = .ok (.getfield 7, 3) := by decide +kernel
theorem dX6_step_127 : decode cX6_step 127 = .ok (.invokestatic 70, 3) := by decide +kernel
theorem dX6_step_130 : decode cX6_step 130 = .ok (.iload_n 3, 1) := by decide +kernel
theorem dX6_step_131 : decode cX6_step 131 = .ok (.if_icmp .ne 14, 3) := by decide +kernel
theorem dX6_step_134 : decode cX6_step 134 = .ok (.aload_n 0, 1) := by decide +kernel
theorem dX6_step_135 : decode cX6_step 135 = .ok (.aload_n 0, 1) := by decide +kernel
theorem dX6_step_136 : decode cX6_step 136 = .ok (.getfield 7, 3) := by decide +kernel
theorem dX6_step_139 : decode cX6_step 139 = .ok (.invokestatic 67, 3) := by decide +kernel
theorem dX6_step_142 : decode cX6_step 142 = .ok (.invokevirtual 195, 3) := by decide +kernel
theorem dX6_step_145 : decode cX6_step 145 = .ok (.aload_n 0, 1) := by decide +kernel
theorem dX6_step_146 : decode cX6_step 146 = .ok (.getfield 7, 3) := by decide +kernel
theorem dX6_step_149 : decode cX6_step 149 = .ok (.iload 7, 2) := by decide +kernel
theorem dX6_step_151 : decode cX6_step 151 = .ok (.iload 4, 2) := by decide +kernel
theorem dX6_step_153 : decode cX6_step 153 = .ok (.invokestatic 85, 3) := by decide +kernel
theorem dX6_step_156 : decode cX6_step 156 = .ok (.iinc 7 1, 3) := by decide +kernel
theorem dX6_step_159 : decode cX6_step 159 = .ok (.goto (-54), 3) := by decide +kernel
theorem dX6_step_162 : decode cX6_step 162 = .ok (.iload_n 2, 1) := by decide +kernel
theorem dX6_step_163 : decode cX6_step 163 = .ok (.tableswitch 43 (-3) 0 #[29, 32, 35, 40], 29) := by decide +kernel
theorem dX6_step_192 : decode cX6_step 192 = .ok (.iload 4, 2) := by decide +kernel
theorem dX6_step_194 : decode cX6_step 194 = .ok (.ireturn, 1) := by decide +kernel
theorem dX6_step_195 : decode cX6_step 195 = .ok (.iload 5, 2) := by decide +kernel
theorem dX6_step_197 : decode cX6_step 197 = .ok (.ireturn, 1) := by decide +kernel
theorem dX6_step_198 : decode cX6_step 198 = .ok (.aload_n 0, 1) := by decide +kernel
theorem dX6_step_199 : decode cX6_step 199 = .ok (.getfield 189, 3) := by decide +kernel
theorem dX6_step_202 : decode cX6_step 202 = .ok (.ireturn, 1) := by decide +kernel
theorem dX6_step_203 : decode cX6_step 203 = .ok (.iload 6, 2) := by decide +kernel
theorem dX6_step_205 : decode cX6_step 205 = .ok (.ireturn, 1) := by decide +kernel
theorem dX6_step_206 : decode cX6_step 206 = .ok (.aload_n 0, 1) := by decide +kernel
theorem dX6_step_207 : decode cX6_step 207 = .ok (.iload_n 2, 1) := by decide +kernel
theorem dX6_step_208 : decode cX6_step 208 = .ok (.iconst 1, 1) := by decide +kernel
theorem dX6_step_209 : decode cX6_step 209 = .ok (.isub, 1) := by decide +kernel
theorem dX6_step_210 : decode cX6_step 210 = .ok (.invokevirtual 202, 3) := by decide +kernel
theorem dX6_step_213 : decode cX6_step 213 = .ok (.ireturn, 1) := by decide +kernel
set_option maxRecDepth 20000 in
theorem ggX6_shape_X6_lays : GoodIn wsX6_shape wsX6_lays := goodIn_r _ [5, 6, 7, 4, 8] (by decide +kernel) (by decide +kernel)
set_option maxRecDepth 20000 in
theorem gX6_shape_X6_lays : GoodIn wsX6_shape (va_wsS RX6 63 yX6_lays wsX6_lays) := goodIn_app (goodIn_of _ (by decide +kernel)) ggX6_shape_X6_lays
set_option maxRecDepth 20000 in
theorem ggX6_shape_X6_descentsOf : GoodIn wsX6_shape wsX6_descentsOf := goodIn_r _ [11] (by decide +kernel) (by decide +kernel)
set_option maxRecDepth 20000 in
theorem gX6_shape_X6_descentsOf : GoodIn wsX6_shape (va_wsS RX6 59 yX6_descentsOf wsX6_descentsOf) := goodIn_app (goodIn_of _ (by decide +kernel)) ggX6_shape_X6_descentsOf
set_option maxRecDepth 20000 in
theorem ggX6_shape_X6_lastDescent : GoodIn wsX6_shape wsX6_lastDescent := goodIn_r _ [14] (by decide +kernel) (by decide +kernel)
set_option maxRecDepth 20000 in
theorem gX6_shape_X6_lastDescent : GoodIn wsX6_shape (va_wsS RX6 206 yX6_lastDescent wsX6_lastDescent) := goodIn_app (goodIn_of _ (by decide +kernel)) ggX6_shape_X6_lastDescent
theorem dX6_shape_0 : decode cX6_shape 0 = .ok (.iload_n 1, 1) := by decide +kernel
theorem dX6_shape_1 : decode cX6_shape 1 = .ok (.aload_n 0, 1) := by decide +kernel
theorem dX6_shape_2 : decode cX6_shape 2 = .ok (.getfield 7, 3) := by decide +kernel
theorem dX6_shape_5 : decode cX6_shape 5 = .ok (.invokestatic 63, 3) := by decide +kernel
theorem dX6_shape_8 : decode cX6_shape 8 = .ok (.ifCond .eq 8, 3) := by decide +kernel
theorem dX6_shape_11 : decode cX6_shape 11 = .ok (.iload_n 2, 1) := by decide +kernel
theorem dX6_shape_12 : decode cX6_shape 12 = .ok (.iconst 1, 1) := by decide +kernel
theorem dX6_shape_13 : decode cX6_shape 13 = .ok (.if_icmp .ge 6, 3) := by decide +kernel
theorem dX6_shape_16 : decode cX6_shape 16 = .ok (.bipush (-2), 2) := by decide +kernel
theorem dX6_shape_18 : decode cX6_shape 18 = .ok (.ireturn, 1) := by decide +kernel
theorem dX6_shape_19 : decode cX6_shape 19 = .ok (.aload_n 0, 1) := by decide +kernel
theorem dX6_shape_20 : decode cX6_shape 20 = .ok (.getfield 7, 3) := by decide +kernel
theorem dX6_shape_23 : decode cX6_shape 23 = .ok (.invokestatic 59, 3) := by decide +kernel
theorem dX6_shape_26 : decode cX6_shape 26 = .ok (.istore_n 3, 1) := by decide +kernel
theorem dX6_shape_27 : decode cX6_shape 27 = .ok (.iload_n 3, 1) := by decide +kernel
theorem dX6_shape_28 : decode cX6_shape 28 = .ok (.ifCond .eq 11, 3) := by decide +kernel
theorem dX6_shape_31 : decode cX6_shape 31 = .ok (.iload_n 3, 1) := by decide +kernel
theorem dX6_shape_32 : decode cX6_shape 32 = .ok (.iload_n 3, 1) := by decide +kernel
theorem dX6_shape_33 : decode cX6_shape 33 = .ok (.iconst 1, 1) := by decide +kernel
theorem dX6_shape_34 : decode cX6_shape 34 = .ok (.isub, 1) := by decide +kernel
theorem dX6_shape_35 : decode cX6_shape 35 = .ok (.iand, 1) := by decide +kernel
theorem dX6_shape_36 : decode cX6_shape 36 = .ok (.ifCond .eq 6, 3) := by decide +kernel
theorem dX6_shape_39 : decode cX6_shape 39 = .ok (.bipush (-3), 2) := by decide +kernel
theorem dX6_shape_41 : decode cX6_shape 41 = .ok (.ireturn, 1) := by decide +kernel
theorem dX6_shape_42 : decode cX6_shape 42 = .ok (.aload_n 0, 1) := by decide +kernel
theorem dX6_shape_43 : decode cX6_shape 43 = .ok (.getfield 7, 3) := by decide +kernel
theorem dX6_shape_46 : decode cX6_shape 46 = .ok (.invokestatic 206, 3) := by decide +kernel
theorem dX6_shape_49 : decode cX6_shape 49 = .ok (.istore 4, 2) := by decide +kernel
theorem dX6_shape_51 : decode cX6_shape 51 = .ok (.iload_n 2, 1) := by decide +kernel
theorem dX6_shape_52 : decode cX6_shape 52 = .ok (.iload 4, 2) := by decide +kernel
theorem dX6_shape_54 : decode cX6_shape 54 = .ok (.if_icmp .gt 24, 3) := by decide +kernel
theorem dX6_shape_57 : decode cX6_shape 57 = .ok (.aload_n 0, 1) := by decide +kernel
theorem dX6_shape_58 : decode cX6_shape 58 = .ok (.getfield 7, 3) := by decide +kernel
theorem dX6_shape_61 : decode cX6_shape 61 = .ok (.iload 4, 2) := by decide +kernel
theorem dX6_shape_63 : decode cX6_shape 63 = .ok (.iconst 1, 1) := by decide +kernel
theorem dX6_shape_64 : decode cX6_shape 64 = .ok (.iadd, 1) := by decide +kernel
theorem dX6_shape_65 : decode cX6_shape 65 = .ok (.iload_n 2, 1) := by decide +kernel
theorem dX6_shape_66 : decode cX6_shape 66 = .ok (.isub, 1) := by decide +kernel
theorem dX6_shape_67 : decode cX6_shape 67 = .ok (.iaload, 1) := by decide +kernel
theorem dX6_shape_68 : decode cX6_shape 68 = .ok (.iload 4, 2) := by decide +kernel
theorem dX6_shape_70 : decode cX6_shape 70 = .ok (.iconst 1, 1) := by decide +kernel
theorem dX6_shape_71 : decode cX6_shape 71 = .ok (.iadd, 1) := by decide +kernel
theorem dX6_shape_72 : decode cX6_shape 72 = .ok (.iload_n 2, 1) := by decide +kernel
theorem dX6_shape_73 : decode cX6_shape 73 = .ok (.isub, 1) := by decide +kernel
theorem dX6_shape_74 : decode cX6_shape 74 = .ok (.isub, 1) := by decide +kernel
theorem dX6_shape_75 : decode cX6_shape 75 = .ok (.goto 5, 3) := by decide +kernel
theorem dX6_shape_78 : decode cX6_shape 78 = .ok (.bipush (-9), 2) := by decide +kernel
theorem dX6_shape_80 : decode cX6_shape 80 = .ok (.ireturn, 1) := by decide +kernel
theorem dX6_hasThree_0 : decode cX6_hasThree 0 = .ok (.iconst 0, 1) := by decide +kernel
theorem dX6_hasThree_1 : decode cX6_hasThree 1 = .ok (.istore_n 1, 1) := by decide +kernel
theorem dX6_hasThree_2 : decode cX6_hasThree 2 = .ok (.iconst 0, 1) := by decide +kernel
theorem dX6_hasThree_3 : decode cX6_hasThree 3 = .ok (.istore_n 2, 1) := by decide +kernel
theorem dX6_hasThree_4 : decode cX6_hasThree 4 = .ok (.iload_n 2, 1) := by decide +kernel
theorem dX6_hasThree_5 : decode cX6_hasThree 5 = .ok (.sipush 729, 3) := by decide +kernel
theorem dX6_hasThree_8 : decode cX6_hasThree 8 = .ok (.if_icmp .ge 79, 3) := by decide +kernel
theorem dX6_hasThree_11 : decode cX6_hasThree 11 = .ok (.iload_n 2, 1) := by decide +kernel
theorem dX6_hasThree_12 : decode cX6_hasThree 12 = .ok (.bipush 81, 2) := by decide +kernel
theorem dX6_hasThree_14 : decode cX6_hasThree 14 = .ok (.idiv, 1) := by decide +kernel
theorem dX6_hasThree_15 : decode cX6_hasThree 15 = .ok (.iconst 1, 1) := by decide +kernel
theorem dX6_hasThree_16 : decode cX6_hasThree 16 = .ok (.iadd, 1) := by decide +kernel
theorem dX6_hasThree_17 : decode cX6_hasThree 17 = .ok (.istore_n 3, 1) := by decide +kernel
theorem dX6_hasThree_18 : decode cX6_hasThree 18 = .ok (.iload_n 2, 1) := by decide +kernel
theorem dX6_hasThree_19 : decode cX6_hasThree 19 = .ok (.bipush 9, 2) := by decide +kernel
theorem dX6_hasThree_21 : decode cX6_hasThree 21 = .ok (.idiv, 1) := by decide +kernel
theorem dX6_hasThree_22 : decode cX6_hasThree 22 = .ok (.bipush 9, 2) := by decide +kernel
theorem dX6_hasThree_24 : decode cX6_hasThree 24 = .ok (.irem, 1) := by decide +kernel
theorem dX6_hasThree_25 : decode cX6_hasThree 25 = .ok (.iconst 1, 1) := by decide +kernel
theorem dX6_hasThree_26 : decode cX6_hasThree 26 = .ok (.iadd, 1) := by decide +kernel
theorem dX6_hasThree_27 : decode cX6_hasThree 27 = .ok (.istore 4, 2) := by decide +kernel
theorem dX6_hasThree_29 : decode cX6_hasThree 29 = .ok (.iload_n 2, 1) := by decide +kernel
theorem dX6_hasThree_30 : decode cX6_hasThree 30 = .ok (.bipush 9, 2) := by decide +kernel
theorem dX6_hasThree_32 : decode cX6_hasThree 32 = .ok (.irem, 1) := by decide +kernel
theorem dX6_hasThree_33 : decode cX6_hasThree 33 = .ok (.iconst 1, 1) := by decide +kernel
theorem dX6_hasThree_34 : decode cX6_hasThree 34 = .ok (.iadd, 1) := by decide +kernel
theorem dX6_hasThree_35 : decode cX6_hasThree 35 = .ok (.istore 5, 2) := by decide +kernel
theorem dX6_hasThree_37 : decode cX6_hasThree 37 = .ok (.iload_n 1, 1) := by decide +kernel
theorem dX6_hasThree_38 : decode cX6_hasThree 38 = .ok (.ifCond .ne 37, 3) := by decide +kernel
theorem dX6_hasThree_41 : decode cX6_hasThree 41 = .ok (.iload_n 3, 1) := by decide +kernel
theorem dX6_hasThree_42 : decode cX6_hasThree 42 = .ok (.iload 4, 2) := by decide +kernel
theorem dX6_hasThree_44 : decode cX6_hasThree 44 = .ok (.if_icmp .ge 35, 3) := by decide +kernel
theorem dX6_hasThree_47 : decode cX6_hasThree 47 = .ok (.iload 4, 2) := by decide +kernel
theorem dX6_hasThree_49 : decode cX6_hasThree 49 = .ok (.iload 5, 2) := by decide +kernel
theorem dX6_hasThree_51 : decode cX6_hasThree 51 = .ok (.if_icmp .ge 28, 3) := by decide +kernel
theorem dX6_hasThree_54 : decode cX6_hasThree 54 = .ok (.aload_n 0, 1) := by decide +kernel
theorem dX6_hasThree_55 : decode cX6_hasThree 55 = .ok (.iload_n 3, 1) := by decide +kernel
theorem dX6_hasThree_56 : decode cX6_hasThree 56 = .ok (.iaload, 1) := by decide +kernel
theorem dX6_hasThree_57 : decode cX6_hasThree 57 = .ok (.aload_n 0, 1) := by decide +kernel
theorem dX6_hasThree_58 : decode cX6_hasThree 58 = .ok (.iload 5, 2) := by decide +kernel
theorem dX6_hasThree_60 : decode cX6_hasThree 60 = .ok (.iaload, 1) := by decide +kernel
theorem dX6_hasThree_61 : decode cX6_hasThree 61 = .ok (.if_icmp .ge 18, 3) := by decide +kernel
theorem dX6_hasThree_64 : decode cX6_hasThree 64 = .ok (.aload_n 0, 1) := by decide +kernel
theorem dX6_hasThree_65 : decode cX6_hasThree 65 = .ok (.iload 5, 2) := by decide +kernel
theorem dX6_hasThree_67 : decode cX6_hasThree 67 = .ok (.iaload, 1) := by decide +kernel
theorem dX6_hasThree_68 : decode cX6_hasThree 68 = .ok (.aload_n 0, 1) := by decide +kernel
theorem dX6_hasThree_69 : decode cX6_hasThree 69 = .ok (.iload 4, 2) := by decide +kernel
theorem dX6_hasThree_71 : decode cX6_hasThree 71 = .ok (.iaload, 1) := by decide +kernel
theorem dX6_hasThree_72 : decode cX6_hasThree 72 = .ok (.if_icmp .ge 7, 3) := by decide +kernel
theorem dX6_hasThree_75 : decode cX6_hasThree 75 = .ok (.iconst 1, 1) := by decide +kernel
theorem dX6_hasThree_76 : decode cX6_hasThree 76 = .ok (.goto 4, 3) := by decide +kernel
theorem dX6_hasThree_79 : decode cX6_hasThree 79 = .ok (.iconst 0, 1) := by decide +kernel
theorem dX6_hasThree_80 : decode cX6_hasThree 80 = .ok (.istore_n 1, 1) := by decide +kernel
theorem dX6_hasThree_81 : decode cX6_hasThree 81 = .ok (.iinc 2 1, 3) := by decide +kernel
theorem dX6_hasThree_84 : decode cX6_hasThree 84 = .ok (.goto (-80), 3) := by decide +kernel
theorem dX6_hasThree_87 : decode cX6_hasThree 87 = .ok (.iload_n 1, 1) := by decide +kernel
theorem dX6_hasThree_88 : decode cX6_hasThree 88 = .ok (.ireturn, 1) := by decide +kernel
theorem dX6_hasFour_0 : decode cX6_hasFour 0 = .ok (.iconst 0, 1) := by decide +kernel
theorem dX6_hasFour_1 : decode cX6_hasFour 1 = .ok (.istore_n 1, 1) := by decide +kernel
theorem dX6_hasFour_2 : decode cX6_hasFour 2 = .ok (.iconst 0, 1) := by decide +kernel
theorem dX6_hasFour_3 : decode cX6_hasFour 3 = .ok (.istore_n 2, 1) := by decide +kernel
theorem dX6_hasFour_4 : decode cX6_hasFour 4 = .ok (.iload_n 2, 1) := by decide +kernel
theorem dX6_hasFour_5 : decode cX6_hasFour 5 = .ok (.sipush 6561, 3) := by decide +kernel
theorem dX6_hasFour_8 : decode cX6_hasFour 8 = .ok (.if_icmp .ge 108, 3) := by decide +kernel
theorem dX6_hasFour_11 : decode cX6_hasFour 11 = .ok (.iload_n 2, 1) := by decide +kernel
theorem dX6_hasFour_12 : decode cX6_hasFour 12 = .ok (.sipush 729, 3) := by decide +kernel
theorem dX6_hasFour_15 : decode cX6_hasFour 15 = .ok (.idiv, 1) := by decide +kernel
theorem dX6_hasFour_16 : decode cX6_hasFour 16 = .ok (.iconst 1, 1) := by decide +kernel
theorem dX6_hasFour_17 : decode cX6_hasFour 17 = .ok (.iadd, 1) := by decide +kernel
theorem dX6_hasFour_18 : decode cX6_hasFour 18 = .ok (.istore_n 3, 1) := by decide +kernel
theorem dX6_hasFour_19 : decode cX6_hasFour 19 = .ok (.iload_n 2, 1) := by decide +kernel
theorem dX6_hasFour_20 : decode cX6_hasFour 20 = .ok (.bipush 81, 2) := by decide +kernel
theorem dX6_hasFour_22 : decode cX6_hasFour 22 = .ok (.idiv, 1) := by decide +kernel
theorem dX6_hasFour_23 : decode cX6_hasFour 23 = .ok (.bipush 9, 2) := by decide +kernel
theorem dX6_hasFour_25 : decode cX6_hasFour 25 = .ok (.irem, 1) := by decide +kernel
theorem dX6_hasFour_26 : decode cX6_hasFour 26 = .ok (.iconst 1, 1) := by decide +kernel
theorem dX6_hasFour_27 : decode cX6_hasFour 27 = .ok (.iadd, 1) := by decide +kernel
theorem dX6_hasFour_28 : decode cX6_hasFour 28 = .ok (.istore 4, 2) := by decide +kernel
theorem dX6_hasFour_30 : decode cX6_hasFour 30 = .ok (.iload_n 2, 1) := by decide +kernel
theorem dX6_hasFour_31 : decode cX6_hasFour 31 = .ok (.bipush 9, 2) := by decide +kernel
theorem dX6_hasFour_33 : decode cX6_hasFour 33 = .ok (.idiv, 1) := by decide +kernel
theorem dX6_hasFour_34 : decode cX6_hasFour 34 = .ok (.bipush 9, 2) := by decide +kernel
theorem dX6_hasFour_36 : decode cX6_hasFour 36 = .ok (.irem, 1) := by decide +kernel
theorem dX6_hasFour_37 : decode cX6_hasFour 37 = .ok (.iconst 1, 1) := by decide +kernel
theorem dX6_hasFour_38 : decode cX6_hasFour 38 = .ok (.iadd, 1) := by decide +kernel
theorem dX6_hasFour_39 : decode cX6_hasFour 39 = .ok (.istore 5, 2) := by decide +kernel
theorem dX6_hasFour_41 : decode cX6_hasFour 41 = .ok (.iload_n 2, 1) := by decide +kernel
theorem dX6_hasFour_42 : decode cX6_hasFour 42 = .ok (.bipush 9, 2) := by decide +kernel
theorem dX6_hasFour_44 : decode cX6_hasFour 44 = .ok (.irem, 1) := by decide +kernel
theorem dX6_hasFour_45 : decode cX6_hasFour 45 = .ok (.iconst 1, 1) := by decide +kernel
theorem dX6_hasFour_46 : decode cX6_hasFour 46 = .ok (.iadd, 1) := by decide +kernel
theorem dX6_hasFour_47 : decode cX6_hasFour 47 = .ok (.istore 6, 2) := by decide +kernel
theorem dX6_hasFour_49 : decode cX6_hasFour 49 = .ok (.iload_n 1, 1) := by decide +kernel
theorem dX6_hasFour_50 : decode cX6_hasFour 50 = .ok (.ifCond .ne 54, 3) := by decide +kernel
theorem dX6_hasFour_53 : decode cX6_hasFour 53 = .ok (.iload_n 3, 1) := by decide +kernel
theorem dX6_hasFour_54 : decode cX6_hasFour 54 = .ok (.iload 4, 2) := by decide +kernel
theorem dX6_hasFour_56 : decode cX6_hasFour 56 = .ok (.if_icmp .ge 52, 3) := by decide +kernel
theorem dX6_hasFour_59 : decode cX6_hasFour 59 = .ok (.iload 4, 2) := by decide +kernel
theorem dX6_hasFour_61 : decode cX6_hasFour 61 = .ok (.iload 5, 2) := by decide +kernel
theorem dX6_hasFour_63 : decode cX6_hasFour 63 = .ok (.if_icmp .ge 45, 3) := by decide +kernel
theorem dX6_hasFour_66 : decode cX6_hasFour 66 = .ok (.iload 5, 2) := by decide +kernel
theorem dX6_hasFour_68 : decode cX6_hasFour 68 = .ok (.iload 6, 2) := by decide +kernel
theorem dX6_hasFour_70 : decode cX6_hasFour 70 = .ok (.if_icmp .ge 38, 3) := by decide +kernel
theorem dX6_hasFour_73 : decode cX6_hasFour 73 = .ok (.aload_n 0, 1) := by decide +kernel
theorem dX6_hasFour_74 : decode cX6_hasFour 74 = .ok (.iload 4, 2) := by decide +kernel
theorem dX6_hasFour_76 : decode cX6_hasFour 76 = .ok (.iaload, 1) := by decide +kernel
theorem dX6_hasFour_77 : decode cX6_hasFour 77 = .ok (.aload_n 0, 1) := by decide +kernel
theorem dX6_hasFour_78 : decode cX6_hasFour 78 = .ok (.iload_n 3, 1) := by decide +kernel
theorem dX6_hasFour_79 : decode cX6_hasFour 79 = .ok (.iaload, 1) := by decide +kernel
theorem dX6_hasFour_80 : decode cX6_hasFour 80 = .ok (.if_icmp .ge 28, 3) := by decide +kernel
theorem dX6_hasFour_83 : decode cX6_hasFour 83 = .ok (.aload_n 0, 1) := by decide +kernel
theorem dX6_hasFour_84 : decode cX6_hasFour 84 = .ok (.iload_n 3, 1) := by decide +kernel
theorem dX6_hasFour_85 : decode cX6_hasFour 85 = .ok (.iaload, 1) := by decide +kernel
theorem dX6_hasFour_86 : decode cX6_hasFour 86 = .ok (.aload_n 0, 1) := by decide +kernel
theorem dX6_hasFour_87 : decode cX6_hasFour 87 = .ok (.iload 6, 2) := by decide +kernel
theorem dX6_hasFour_89 : decode cX6_hasFour 89 = .ok (.iaload, 1) := by decide +kernel
theorem dX6_hasFour_90 : decode cX6_hasFour 90 = .ok (.if_icmp .ge 18, 3) := by decide +kernel
theorem dX6_hasFour_93 : decode cX6_hasFour 93 = .ok (.aload_n 0, 1) := by decide +kernel
theorem dX6_hasFour_94 : decode cX6_hasFour 94 = .ok (.iload 6, 2) := by decide +kernel
theorem dX6_hasFour_96 : decode cX6_hasFour 96 = .ok (.iaload, 1) := by decide +kernel
theorem dX6_hasFour_97 : decode cX6_hasFour 97 = .ok (.aload_n 0, 1) := by decide +kernel
theorem dX6_hasFour_98 : decode cX6_hasFour 98 = .ok (.iload 5, 2) := by decide +kernel
theorem dX6_hasFour_100 : decode cX6_hasFour 100 = .ok (.iaload, 1) := by decide +kernel
theorem dX6_hasFour_101 : decode cX6_hasFour 101 = .ok (.if_icmp .ge 7, 3) := by decide +kernel
theorem dX6_hasFour_104 : decode cX6_hasFour 104 = .ok (.iconst 1, 1) := by decide +kernel
theorem dX6_hasFour_105 : decode cX6_hasFour 105 = .ok (.goto 4, 3) := by decide +kernel
theorem dX6_hasFour_108 : decode cX6_hasFour 108 = .ok (.iconst 0, 1) := by decide +kernel
theorem dX6_hasFour_109 : decode cX6_hasFour 109 = .ok (.istore_n 1, 1) := by decide +kernel
theorem dX6_hasFour_110 : decode cX6_hasFour 110 = .ok (.iinc 2 1, 3) := by decide +kernel
theorem dX6_hasFour_113 : decode cX6_hasFour 113 = .ok (.goto (-109), 3) := by decide +kernel
theorem dX6_hasFour_116 : decode cX6_hasFour 116 = .ok (.iload_n 1, 1) := by decide +kernel
theorem dX6_hasFour_117 : decode cX6_hasFour 117 = .ok (.ireturn, 1) := by decide +kernel
set_option maxRecDepth 20000 in
theorem ggX6_avoids_X6_lays : GoodIn wsX6_avoids wsX6_lays := goodIn_r _ [5, 6, 7, 4, 8] (by decide +kernel) (by decide +kernel)
set_option maxRecDepth 20000 in
theorem gX6_avoids_X6_lays : GoodIn wsX6_avoids (va_wsS RX6 63 yX6_lays wsX6_lays) := goodIn_app (goodIn_of _ (by decide +kernel)) ggX6_avoids_X6_lays
set_option maxRecDepth 20000 in
theorem ggX6_avoids_X6_within : GoodIn wsX6_avoids wsX6_within := goodIn_r _ [8] (by decide +kernel) (by decide +kernel)
set_option maxRecDepth 20000 in
theorem gX6_avoids_X6_within : GoodIn wsX6_avoids (va_wsS RX6 51 yX6_within wsX6_within) := goodIn_app (goodIn_of _ (by decide +kernel)) ggX6_avoids_X6_within
set_option maxRecDepth 20000 in
theorem ggX6_avoids_X6_hasThree : GoodIn wsX6_avoids wsX6_hasThree := goodIn_r _ [11] (by decide +kernel) (by decide +kernel)
set_option maxRecDepth 20000 in
theorem gX6_avoids_X6_hasThree : GoodIn wsX6_avoids (va_wsS RX6 209 yX6_hasThree wsX6_hasThree) := goodIn_app (goodIn_of _ (by decide +kernel)) ggX6_avoids_X6_hasThree
set_option maxRecDepth 20000 in
theorem ggX6_avoids_X6_hasFour : GoodIn wsX6_avoids wsX6_hasFour := goodIn_r _ [14] (by decide +kernel) (by decide +kernel)
set_option maxRecDepth 20000 in
theorem gX6_avoids_X6_hasFour : GoodIn wsX6_avoids (va_wsS RX6 212 yX6_hasFour wsX6_hasFour) := goodIn_app (goodIn_of _ (by decide +kernel)) ggX6_avoids_X6_hasFour
theorem dX6_avoids_0 : decode cX6_avoids 0 = .ok (.iload_n 1, 1) := by decide +kernel
theorem dX6_avoids_1 : decode cX6_avoids 1 = .ok (.aload_n 0, 1) := by decide +kernel
theorem dX6_avoids_2 : decode cX6_avoids 2 = .ok (.getfield 7, 3) := by decide +kernel
theorem dX6_avoids_5 : decode cX6_avoids 5 = .ok (.invokestatic 63, 3) := by decide +kernel
theorem dX6_avoids_8 : decode cX6_avoids 8 = .ok (.ifCond .eq 12, 3) := by decide +kernel
theorem dX6_avoids_11 : decode cX6_avoids 11 = .ok (.iload_n 2, 1) := by decide +kernel
theorem dX6_avoids_12 : decode cX6_avoids 12 = .ok (.iconst 1, 1) := by decide +kernel
theorem dX6_avoids_13 : decode cX6_avoids 13 = .ok (.iconst 2, 1) := by decide +kernel
theorem dX6_avoids_14 : decode cX6_avoids 14 = .ok (.invokestatic 51, 3) := by decide +kernel
theorem dX6_avoids_17 : decode cX6_avoids 17 = .ok (.ifCond .ne 6, 3) := by decide +kernel
theorem dX6_avoids_20 : decode cX6_avoids 20 = .ok (.bipush (-2), 2) := by decide +kernel
theorem dX6_avoids_22 : decode cX6_avoids 22 = .ok (.ireturn, 1) := by decide +kernel
theorem dX6_avoids_23 : decode cX6_avoids 23 = .ok (.iload_n 2, 1) := by decide +kernel
theorem dX6_avoids_24 : decode cX6_avoids 24 = .ok (.iconst 1, 1) := by decide +kernel
theorem dX6_avoids_25 : decode cX6_avoids 25 = .ok (.if_icmp .ne 13, 3) := by decide +kernel
theorem dX6_avoids_28 : decode cX6_avoids 28 = .ok (.aload_n 0, 1) := by decide +kernel
theorem dX6_avoids_29 : decode cX6_avoids 29 = .ok (.getfield 7, 3) := by decide +kernel
theorem dX6_avoids_32 : decode cX6_avoids 32 = .ok (.invokestatic 209, 3) := by decide +kernel
theorem dX6_avoids_35 : decode cX6_avoids 35 = .ok (.goto 10, 3) := by decide +kernel
theorem dX6_avoids_38 : decode cX6_avoids 38 = .ok (.aload_n 0, 1) := by decide +kernel
theorem dX6_avoids_39 : decode cX6_avoids 39 = .ok (.getfield 7, 3) := by decide +kernel
theorem dX6_avoids_42 : decode cX6_avoids 42 = .ok (.invokestatic 212, 3) := by decide +kernel
theorem dX6_avoids_45 : decode cX6_avoids 45 = .ok (.istore_n 3, 1) := by decide +kernel
theorem dX6_avoids_46 : decode cX6_avoids 46 = .ok (.iload_n 3, 1) := by decide +kernel
theorem dX6_avoids_47 : decode cX6_avoids 47 = .ok (.ifCond .eq 7, 3) := by decide +kernel
theorem dX6_avoids_50 : decode cX6_avoids 50 = .ok (.iconst 0, 1) := by decide +kernel
theorem dX6_avoids_51 : decode cX6_avoids 51 = .ok (.goto 4, 3) := by decide +kernel
theorem dX6_avoids_54 : decode cX6_avoids 54 = .ok (.iconst 1, 1) := by decide +kernel
theorem dX6_avoids_55 : decode cX6_avoids 55 = .ok (.ireturn, 1) := by decide +kernel
