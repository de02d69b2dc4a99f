theorem dX0_init_0 : decode cX0_init 0 = .ok (.aload_n 0, 1) := by decide +kernel
theorem dX0_init_1 : decode cX0_init 1 = .ok (.invokespecial 3, 3) := by decide +kernel
theorem dX0_init_4 : decode cX0_init 4 = .ok (.aload_n 0, 1) := by decide +kernel
theorem dX0_init_5 : decode cX0_init 5 = .ok (.iconst 0, 1) := by decide +kernel
theorem dX0_init_6 : decode cX0_init 6 = .ok (.putfield 9, 3) := by decide +kernel
theorem dX0_init_9 : decode cX0_init 9 = .ok (.aload_n 0, 1) := by decide +kernel
theorem dX0_init_10 : decode cX0_init 10 = .ok (.iload_n 1, 1) := by decide +kernel
theorem dX0_init_11 : decode cX0_init 11 = .ok (.iconst 1, 1) := by decide +kernel
theorem dX0_init_12 : decode cX0_init 12 = .ok (.invokestatic 15, 3) := by decide +kernel
theorem dX0_init_15 : decode cX0_init 15 = .ok (.newarray .int, 2) := by decide +kernel
theorem dX0_init_17 : decode cX0_init 17 = .ok (.putfield 21, 3) := by decide +kernel
theorem dX0_init_20 : decode cX0_init 20 = .ok (.return_, 1) := by decide +kernel
theorem dX0_clear_0 : decode cX0_clear 0 = .ok (.aload_n 0, 1) := by decide +kernel
theorem dX0_clear_1 : decode cX0_clear 1 = .ok (.iconst 0, 1) := by decide +kernel
theorem dX0_clear_2 : decode cX0_clear 2 = .ok (.putfield 9, 3) := by decide +kernel
theorem dX0_clear_5 : decode cX0_clear 5 = .ok (.return_, 1) := by decide +kernel
theorem dX0_put_0 : decode cX0_put 0 = .ok (.iconst 0, 1) := by decide +kernel
theorem dX0_put_1 : decode cX0_put 1 = .ok (.istore_n 2, 1) := by decide +kernel
theorem dX0_put_2 : decode cX0_put 2 = .ok (.iload_n 2, 1) := by decide +kernel
theorem dX0_put_3 : decode cX0_put 3 = .ok (.aload_n 0, 1) := by decide +kernel
theorem dX0_put_4 : decode cX0_put 4 = .ok (.getfield 9, 3) := by decide +kernel
theorem dX0_put_7 : decode cX0_put 7 = .ok (.if_icmp .ge 28, 3) := by decide +kernel
theorem dX0_put_10 : decode cX0_put 10 = .ok (.iload_n 2, 1) := by decide +kernel
theorem dX0_put_11 : decode cX0_put 11 = .ok (.aload_n 0, 1) := by decide +kernel
theorem dX0_put_12 : decode cX0_put 12 = .ok (.getfield 21, 3) := by decide +kernel
theorem dX0_put_15 : decode cX0_put 15 = .ok (.arraylength, 1) := by decide +kernel
theorem dX0_put_16 : decode cX0_put 16 = .ok (.if_icmp .ge 19, 3) := by decide +kernel
theorem dX0_put_19 : decode cX0_put 19 = .ok (.aload_n 0, 1) := by decide +kernel
theorem dX0_put_20 : decode cX0_put 20 = .ok (.getfield 21, 3) := by decide +kernel
theorem dX0_put_23 : decode cX0_put 23 = .ok (.iload_n 2, 1) := by decide +kernel
theorem dX0_put_24 : decode cX0_put 24 = .ok (.iaload, 1) := by decide +kernel
theorem dX0_put_25 : decode cX0_put 25 = .ok (.iload_n 1, 1) := by decide +kernel
theorem dX0_put_26 : decode cX0_put 26 = .ok (.if_icmp .ge 9, 3) := by decide +kernel
theorem dX0_put_29 : decode cX0_put 29 = .ok (.iinc 2 1, 3) := by decide +kernel
theorem dX0_put_32 : decode cX0_put 32 = .ok (.goto (-30), 3) := by decide +kernel
theorem dX0_put_35 : decode cX0_put 35 = .ok (.iload_n 2, 1) := by decide +kernel
theorem dX0_put_36 : decode cX0_put 36 = .ok (.aload_n 0, 1) := by decide +kernel
theorem dX0_put_37 : decode cX0_put 37 = .ok (.getfield 9, 3) := by decide +kernel
theorem dX0_put_40 : decode cX0_put 40 = .ok (.if_icmp .ge 26, 3) := by decide +kernel
theorem dX0_put_43 : decode cX0_put 43 = .ok (.iload_n 2, 1) := by decide +kernel
theorem dX0_put_44 : decode cX0_put 44 = .ok (.aload_n 0, 1) := by decide +kernel
theorem dX0_put_45 : decode cX0_put 45 = .ok (.getfield 21, 3) := by decide +kernel
theorem dX0_put_48 : decode cX0_put 48 = .ok (.arraylength, 1) := by decide +kernel
theorem dX0_put_49 : decode cX0_put 49 = .ok (.if_icmp .ge 17, 3) := by decide +kernel
theorem dX0_put_52 : decode cX0_put 52 = .ok (.aload_n 0, 1) := by decide +kernel
theorem dX0_put_53 : decode cX0_put 53 = .ok (.getfield 21, 3) := by decide +kernel
theorem dX0_put_56 : decode cX0_put 56 = .ok (.iload_n 2, 1) := by decide +kernel
theorem dX0_put_57 : decode cX0_put 57 = .ok (.iaload, 1) := by decide +kernel
theorem dX0_put_58 : decode cX0_put 58 = .ok (.iload_n 1, 1) := by decide +kernel
theorem dX0_put_59 : decode cX0_put 59 = .ok (.if_icmp .ne 7, 3) := by decide +kernel
theorem dX0_put_62 : decode cX0_put 62 = .ok (.iconst 1, 1) := by decide +kernel
theorem dX0_put_63 : decode cX0_put 63 = .ok (.goto 4, 3) := by decide +kernel
theorem dX0_put_66 : decode cX0_put 66 = .ok (.iconst 0, 1) := by decide +kernel
theorem dX0_put_67 : decode cX0_put 67 = .ok (.istore_n 3, 1) := by decide +kernel
theorem dX0_put_68 : decode cX0_put 68 = .ok (.iload_n 3, 1) := by decide +kernel
theorem dX0_put_69 : decode cX0_put 69 = .ok (.ifCond .ne 15, 3) := by decide +kernel
theorem dX0_put_72 : decode cX0_put 72 = .ok (.aload_n 0, 1) := by decide +kernel
theorem dX0_put_73 : decode cX0_put 73 = .ok (.getfield 9, 3) := by decide +kernel
theorem dX0_put_76 : decode cX0_put 76 = .ok (.aload_n 0, 1) := by decide +kernel
theorem dX0_put_77 : decode cX0_put 77 = .ok (.getfield 21, 3) := by decide +kernel
theorem dX0_put_80 : decode cX0_put 80 = .ok (.arraylength, 1) := by decide +kernel
theorem dX0_put_81 : decode cX0_put 81 = .ok (.if_icmp .lt 4, 3) := by decide +kernel
theorem dX0_put_84 : decode cX0_put 84 = .ok (.return_, 1) := by decide +kernel
theorem dX0_put_85 : decode cX0_put 85 = .ok (.aload_n 0, 1) := by decide +kernel
theorem dX0_put_86 : decode cX0_put 86 = .ok (.getfield 21, 3) := by decide +kernel
theorem dX0_put_89 : decode cX0_put 89 = .ok (.iload_n 2, 1) := by decide +kernel
theorem dX0_put_90 : decode cX0_put 90 = .ok (.aload_n 0, 1) := by decide +kernel
theorem dX0_put_91 : decode cX0_put 91 = .ok (.getfield 21, 3) := by decide +kernel
theorem dX0_put_94 : decode cX0_put 94 = .ok (.iload_n 2, 1) := by decide +kernel
theorem dX0_put_95 : decode cX0_put 95 = .ok (.iconst 1, 1) := by decide +kernel
theorem dX0_put_96 : decode cX0_put 96 = .ok (.iadd, 1) := by decide +kernel
theorem dX0_put_97 : decode cX0_put 97 = .ok (.aload_n 0, 1) := by decide +kernel
theorem dX0_put_98 : decode cX0_put 98 = .ok (.getfield 9, 3) := by decide +kernel
theorem dX0_put_101 : decode cX0_put 101 = .ok (.iload_n 2, 1) := by decide +kernel
theorem dX0_put_102 : decode cX0_put 102 = .ok (.isub, 1) := by decide +kernel
theorem dX0_put_103 : decode cX0_put 103 = .ok (.invokestatic 25, 3) := by decide +kernel
theorem dX0_put_106 : decode cX0_put 106 = .ok (.aload_n 0, 1) := by decide +kernel
theorem dX0_put_107 : decode cX0_put 107 = .ok (.getfield 21, 3) := by decide +kernel
theorem dX0_put_110 : decode cX0_put 110 = .ok (.iload_n 2, 1) := by decide +kernel
theorem dX0_put_111 : decode cX0_put 111 = .ok (.iload_n 1, 1) := by decide +kernel
theorem dX0_put_112 : decode cX0_put 112 = .ok (.iastore, 1) := by decide +kernel
theorem dX0_put_113 : decode cX0_put 113 = .ok (.aload_n 0, 1) := by decide +kernel
theorem dX0_put_114 : decode cX0_put 114 = .ok (.dup, 1) := by decide +kernel
theorem dX0_put_115 : decode cX0_put 115 = .ok (.getfield 9, 3) := by decide +kernel
theorem dX0_put_118 : decode cX0_put 118 = .ok (.iconst 1, 1) := by decide +kernel
theorem dX0_put_119 : decode cX0_put 119 = .ok (.iadd, 1) := by decide +kernel
theorem dX0_put_120 : decode cX0_put 120 = .ok (.putfield 9, 3) := by decide +kernel
theorem dX0_put_123 : decode cX0_put 123 = .ok (.return_, 1) := by decide +kernel
theorem dX0_answer_0 : decode cX0_answer 0 = .ok (.iload_n 1, 1) := by decide +kernel
theorem dX0_answer_1 : decode cX0_answer 1 = .ok (.iconst (-1), 1) := by decide +kernel
theorem dX0_answer_2 : decode cX0_answer 2 = .ok (.if_icmp .ne 8, 3) := by decide +kernel
theorem dX0_answer_5 : decode cX0_answer 5 = .ok (.aload_n 0, 1) := by decide +kernel
theorem dX0_answer_6 : decode cX0_answer 6 = .ok (.getfield 9, 3) := by decide +kernel
theorem dX0_answer_9 : decode cX0_answer 9 = .ok (.ireturn, 1) := by decide +kernel
theorem dX0_answer_10 : decode cX0_answer 10 = .ok (.iload_n 1, 1) := by decide +kernel
theorem dX0_answer_11 : decode cX0_answer 11 = .ok (.ifCond .lt 29, 3) := by decide +kernel
theorem dX0_answer_14 : decode cX0_answer 14 = .ok (.iload_n 1, 1) := by decide +kernel
theorem dX0_answer_15 : decode cX0_answer 15 = .ok (.aload_n 0, 1) := by decide +kernel
theorem dX0_answer_16 : decode cX0_answer 16 = .ok (.getfield 9, 3) := by decide +kernel
theorem dX0_answer_19 : decode cX0_answer 19 = .ok (.if_icmp .ge 21, 3) := by decide +kernel
theorem dX0_answer_22 : decode cX0_answer 22 = .ok (.iload_n 1, 1) := by decide +kernel
theorem dX0_answer_23 : decode cX0_answer 23 = .ok (.aload_n 0, 1) := by decide +kernel
theorem dX0_answer_24 : decode cX0_answer 24 = .ok (.getfield 21, 3) := by decide +kernel
theorem dX0_answer_27 : decode cX0_answer 27 = .ok (.arraylength, 1) := by decide +kernel
theorem dX0_answer_28 : decode cX0_answer 28 = .ok (.if_icmp .ge 12, 3) := by decide +kernel
theorem dX0_answer_31 : decode cX0_answer 31 = .ok (.aload_n 0, 1) := by decide +kernel
theorem dX0_answer_32 : decode cX0_answer 32 = .ok (.getfield 21, 3) := by decide +kernel
theorem dX0_answer_35 : decode cX0_answer 35 = .ok (.iload_n 1, 1) := by decide +kernel
theorem dX0_answer_36 : decode cX0_answer 36 = .ok (.iaload, 1) := by decide +kernel
theorem dX0_answer_37 : decode cX0_answer 37 = .ok (.goto 5, 3) := by decide +kernel
theorem dX0_answer_40 : decode cX0_answer 40 = .ok (.bipush (-9), 2) := by decide +kernel
theorem dX0_answer_42 : decode cX0_answer 42 = .ok (.ireturn, 1) := by decide +kernel
theorem dX1_init_0 : decode cX1_init 0 = .ok (.aload_n 0, 1) := by decide +kernel
theorem dX1_init_1 : decode cX1_init 1 = .ok (.invokespecial 3, 3) := by decide +kernel
theorem dX1_init_4 : decode cX1_init 4 = .ok (.aload_n 0, 1) := by decide +kernel
theorem dX1_init_5 : decode cX1_init 5 = .ok (.bipush 10, 2) := by decide +kernel
theorem dX1_init_7 : decode cX1_init 7 = .ok (.newarray .int, 2) := by decide +kernel
theorem dX1_init_9 : decode cX1_init 9 = .ok (.putfield 9, 3) := by decide +kernel
theorem dX1_init_12 : decode cX1_init 12 = .ok (.return_, 1) := by decide +kernel
set_option maxRecDepth 20000 in
theorem ggX1_read_X1_stayInPlace : GoodIn wsX1_read wsX1_stayInPlace := goodIn_r _ [7, 2, 8] (by decide +kernel) (by decide +kernel)
set_option maxRecDepth 20000 in
theorem gX1_read_X1_stayInPlace : GoodIn wsX1_read (wsV RX1 16 RX1 yX1_stayInPlace wsX1_stayInPlace) := goodIn_app (goodIn_of _ (by decide +kernel)) ggX1_read_X1_stayInPlace
theorem dX1_read_0 : decode cX1_read 0 = .ok (.iload_n 1, 1) := by decide +kernel
theorem dX1_read_1 : decode cX1_read 1 = .ok (.iconst 1, 1) := by decide +kernel
theorem dX1_read_2 : decode cX1_read 2 = .ok (.if_icmp .lt 9, 3) := by decide +kernel
theorem dX1_read_5 : decode cX1_read 5 = .ok (.iload_n 1, 1) := by decide +kernel
theorem dX1_read_6 : decode cX1_read 6 = .ok (.ldc 15, 2) := by decide +kernel
theorem dX1_read_8 : decode cX1_read 8 = .ok (.if_icmp .le 5, 3) := by decide +kernel
theorem dX1_read_11 : decode cX1_read 11 = .ok (.iconst 0, 1) := by decide +kernel
theorem dX1_read_12 : decode cX1_read 12 = .ok (.ireturn, 1) := by decide +kernel
theorem dX1_read_13 : decode cX1_read 13 = .ok (.iconst 0, 1) := by decide +kernel
theorem dX1_read_14 : decode cX1_read 14 = .ok (.istore_n 2, 1) := by decide +kernel
theorem dX1_read_15 : decode cX1_read 15 = .ok (.iload_n 1, 1) := by decide +kernel
theorem dX1_read_16 : decode cX1_read 16 = .ok (.istore_n 3, 1) := by decide +kernel
theorem dX1_read_17 : decode cX1_read 17 = .ok (.iload_n 3, 1) := by decide +kernel
theorem dX1_read_18 : decode cX1_read 18 = .ok (.ifCond .le 20, 3) := by decide +kernel
theorem dX1_read_21 : decode cX1_read 21 = .ok (.iload_n 2, 1) := by decide +kernel
theorem dX1_read_22 : decode cX1_read 22 = .ok (.bipush 9, 2) := by decide +kernel
theorem dX1_read_24 : decode cX1_read 24 = .ok (.if_icmp .ge 14, 3) := by decide +kernel
theorem dX1_read_27 : decode cX1_read 27 = .ok (.iinc 2 1, 3) := by decide +kernel
theorem dX1_read_30 : decode cX1_read 30 = .ok (.iload_n 3, 1) := by decide +kernel
theorem dX1_read_31 : decode cX1_read 31 = .ok (.bipush 10, 2) := by decide +kernel
theorem dX1_read_33 : decode cX1_read 33 = .ok (.idiv, 1) := by decide +kernel
theorem dX1_read_34 : decode cX1_read 34 = .ok (.istore_n 3, 1) := by decide +kernel
theorem dX1_read_35 : decode cX1_read 35 = .ok (.goto (-18), 3) := by decide +kernel
theorem dX1_read_38 : decode cX1_read 38 = .ok (.aload_n 0, 1) := by decide +kernel
theorem dX1_read_39 : decode cX1_read 39 = .ok (.invokevirtual 16, 3) := by decide +kernel
theorem dX1_read_42 : decode cX1_read 42 = .ok (.iconst 0, 1) := by decide +kernel
theorem dX1_read_43 : decode cX1_read 43 = .ok (.istore_n 3, 1) := by decide +kernel
theorem dX1_read_44 : decode cX1_read 44 = .ok (.iload_n 1, 1) := by decide +kernel
theorem dX1_read_45 : decode cX1_read 45 = .ok (.istore 4, 2) := by decide +kernel
theorem dX1_read_47 : decode cX1_read 47 = .ok (.iload_n 2, 1) := by decide +kernel
theorem dX1_read_48 : decode cX1_read 48 = .ok (.istore 5, 2) := by decide +kernel
theorem dX1_read_50 : decode cX1_read 50 = .ok (.iload 5, 2) := by decide +kernel
theorem dX1_read_52 : decode cX1_read 52 = .ok (.iconst 1, 1) := by decide +kernel
theorem dX1_read_53 : decode cX1_read 53 = .ok (.if_icmp .lt 63, 3) := by decide +kernel
theorem dX1_read_56 : decode cX1_read 56 = .ok (.iload 4, 2) := by decide +kernel
theorem dX1_read_58 : decode cX1_read 58 = .ok (.bipush 10, 2) := by decide +kernel
theorem dX1_read_60 : decode cX1_read 60 = .ok (.irem, 1) := by decide +kernel
theorem dX1_read_61 : decode cX1_read 61 = .ok (.istore 6, 2) := by decide +kernel
theorem dX1_read_63 : decode cX1_read 63 = .ok (.iload 6, 2) := by decide +kernel
theorem dX1_read_65 : decode cX1_read 65 = .ok (.iconst 1, 1) := by decide +kernel
theorem dX1_read_66 : decode cX1_read 66 = .ok (.if_icmp .lt 19, 3) := by decide +kernel
theorem dX1_read_69 : decode cX1_read 69 = .ok (.iload 6, 2) := by decide +kernel
theorem dX1_read_71 : decode cX1_read 71 = .ok (.iload_n 2, 1) := by decide +kernel
theorem dX1_read_72 : decode cX1_read 72 = .ok (.if_icmp .gt 13, 3) := by decide +kernel
theorem dX1_read_75 : decode cX1_read 75 = .ok (.iload_n 3, 1) := by decide +kernel
theorem dX1_read_76 : decode cX1_read 76 = .ok (.iload 6, 2) := by decide +kernel
theorem dX1_read_78 : decode cX1_read 78 = .ok (.ishr, 1) := by decide +kernel
theorem dX1_read_79 : decode cX1_read 79 = .ok (.iconst 1, 1) := by decide +kernel
theorem dX1_read_80 : decode cX1_read 80 = .ok (.iand, 1) := by decide +kernel
theorem dX1_read_81 : decode cX1_read 81 = .ok (.iconst 1, 1) := by decide +kernel
theorem dX1_read_82 : decode cX1_read 82 = .ok (.if_icmp .ne 5, 3) := by decide +kernel
theorem dX1_read_85 : decode cX1_read 85 = .ok (.iconst 0, 1) := by decide +kernel
theorem dX1_read_86 : decode cX1_read 86 = .ok (.ireturn, 1) := by decide +kernel
theorem dX1_read_87 : decode cX1_read 87 = .ok (.iload_n 3, 1) := by decide +kernel
theorem dX1_read_88 : decode cX1_read 88 = .ok (.iconst 1, 1) := by decide +kernel
theorem dX1_read_89 : decode cX1_read 89 = .ok (.iload 6, 2) := by decide +kernel
theorem dX1_read_91 : decode cX1_read 91 = .ok (.ishl, 1) := by decide +kernel
theorem dX1_read_92 : decode cX1_read 92 = .ok (.ior, 1) := by decide +kernel
theorem dX1_read_93 : decode cX1_read 93 = .ok (.istore_n 3, 1) := by decide +kernel
theorem dX1_read_94 : decode cX1_read 94 = .ok (.aload_n 0, 1) := by decide +kernel
theorem dX1_read_95 : decode cX1_read 95 = .ok (.getfield 9, 3) := by decide +kernel
theorem dX1_read_98 : decode cX1_read 98 = .ok (.iload 5, 2) := by decide +kernel
theorem dX1_read_100 : decode cX1_read 100 = .ok (.iload 6, 2) := by decide +kernel
theorem dX1_read_102 : decode cX1_read 102 = .ok (.iastore, 1) := by decide +kernel
theorem dX1_read_103 : decode cX1_read 103 = .ok (.iload 4, 2) := by decide +kernel
theorem dX1_read_105 : decode cX1_read 105 = .ok (.bipush 10, 2) := by decide +kernel
theorem dX1_read_107 : decode cX1_read 107 = .ok (.idiv, 1) := by decide +kernel
theorem dX1_read_108 : decode cX1_read 108 = .ok (.istore 4, 2) := by decide +kernel
theorem dX1_read_110 : decode cX1_read 110 = .ok (.iinc 5 (-1), 3) := by decide +kernel
theorem dX1_read_113 : decode cX1_read 113 = .ok (.goto (-63), 3) := by decide +kernel
theorem dX1_read_116 : decode cX1_read 116 = .ok (.iconst 1, 1) := by decide +kernel
theorem dX1_read_117 : decode cX1_read 117 = .ok (.ireturn, 1) := by decide +kernel
theorem dX1_stayInPlace_0 : decode cX1_stayInPlace 0 = .ok (.iconst 1, 1) := by decide +kernel
theorem dX1_stayInPlace_1 : decode cX1_stayInPlace 1 = .ok (.istore_n 1, 1) := by decide +kernel
theorem dX1_stayInPlace_2 : decode cX1_stayInPlace 2 = .ok (.iload_n 1, 1) := by decide +kernel
theorem dX1_stayInPlace_3 : decode cX1_stayInPlace 3 = .ok (.bipush 9, 2) := by decide +kernel
theorem dX1_stayInPlace_5 : decode cX1_stayInPlace 5 = .ok (.if_icmp .gt 16, 3) := by decide +kernel
theorem dX1_stayInPlace_8 : decode cX1_stayInPlace 8 = .ok (.aload_n 0, 1) := by decide +kernel
theorem dX1_stayInPlace_9 : decode cX1_stayInPlace 9 = .ok (.getfield 9, 3) := by decide +kernel
theorem dX1_stayInPlace_12 : decode cX1_stayInPlace 12 = .ok (.iload_n 1, 1) := by decide +kernel
theorem dX1_stayInPlace_13 : decode cX1_stayInPlace 13 = .ok (.iload_n 1, 1) := by decide +kernel
theorem dX1_stayInPlace_14 : decode cX1_stayInPlace 14 = .ok (.iastore, 1) := by decide +kernel
theorem dX1_stayInPlace_15 : decode cX1_stayInPlace 15 = .ok (.iinc 1 1, 3) := by decide +kernel
theorem dX1_stayInPlace_18 : decode cX1_stayInPlace 18 = .ok (.goto (-16), 3) := by decide +kernel
theorem dX1_stayInPlace_21 : decode cX1_stayInPlace 21 = .ok (.return_, 1) := by decide +kernel
theorem dX1_digit_0 : decode cX1_digit 0 = .ok (.iload_n 1, 1) := by decide +kernel
theorem dX1_digit_1 : decode cX1_digit 1 = .ok (.iconst 1, 1) := by decide +kernel
theorem dX1_digit_2 : decode cX1_digit 2 = .ok (.if_icmp .lt 18, 3) := by decide +kernel
theorem dX1_digit_5 : decode cX1_digit 5 = .ok (.iload_n 1, 1) := by decide +kernel
theorem dX1_digit_6 : decode cX1_digit 6 = .ok (.bipush 9, 2) := by decide +kernel
theorem dX1_digit_8 : decode cX1_digit 8 = .ok (.if_icmp .gt 12, 3) := by decide +kernel
theorem dX1_digit_11 : decode cX1_digit 11 = .ok (.aload_n 0, 1) := by decide +kernel
theorem dX1_digit_12 : decode cX1_digit 12 = .ok (.getfield 9, 3) := by decide +kernel
theorem dX1_digit_15 : decode cX1_digit 15 = .ok (.iload_n 1, 1) := by decide +kernel
theorem dX1_digit_16 : decode cX1_digit 16 = .ok (.iaload, 1) := by decide +kernel
theorem dX1_digit_17 : decode cX1_digit 17 = .ok (.goto 4, 3) := by decide +kernel
theorem dX1_digit_20 : decode cX1_digit 20 = .ok (.iload_n 1, 1) := by decide +kernel
theorem dX1_digit_21 : decode cX1_digit 21 = .ok (.ireturn, 1) := by decide +kernel
theorem dX1_put_0 : decode cX1_put 0 = .ok (.iload_n 1, 1) := by decide +kernel
theorem dX1_put_1 : decode cX1_put 1 = .ok (.iconst 1, 1) := by decide +kernel
theorem dX1_put_2 : decode cX1_put 2 = .ok (.if_icmp .lt 16, 3) := by decide +kernel
theorem dX1_put_5 : decode cX1_put 5 = .ok (.iload_n 1, 1) := by decide +kernel
theorem dX1_put_6 : decode cX1_put 6 = .ok (.bipush 9, 2) := by decide +kernel
theorem dX1_put_8 : decode cX1_put 8 = .ok (.if_icmp .gt 10, 3) := by decide +kernel
theorem dX1_put_11 : decode cX1_put 11 = .ok (.aload_n 0, 1) := by decide +kernel
theorem dX1_put_12 : decode cX1_put 12 = .ok (.getfield 9, 3) := by decide +kernel
theorem dX1_put_15 : decode cX1_put 15 = .ok (.iload_n 1, 1) := by decide +kernel
theorem dX1_put_16 : decode cX1_put 16 = .ok (.iload_n 2, 1) := by decide +kernel
theorem dX1_put_17 : decode cX1_put 17 = .ok (.iastore, 1) := by decide +kernel
theorem dX1_put_18 : decode cX1_put 18 = .ok (.return_, 1) := by decide +kernel
set_option maxRecDepth 20000 in
theorem ggX1_exchange_X1_digit : GoodIn wsX1_exchange wsX1_digit := goodIn_r _ [5, 6, 11] (by decide +kernel) (by decide +kernel)
set_option maxRecDepth 20000 in
theorem gX1_exchange_X1_digit : GoodIn wsX1_exchange (wsV RX1 19 RX1 yX1_digit wsX1_digit) := goodIn_app (goodIn_of _ (by decide +kernel)) ggX1_exchange_X1_digit
set_option maxRecDepth 20000 in
theorem ggX1_exchange_X1_put : GoodIn wsX1_exchange wsX1_put := goodIn_r _ [10, 6, 11] (by decide +kernel) (by decide +kernel)
set_option maxRecDepth 20000 in
theorem gX1_exchange_X1_put : GoodIn wsX1_exchange (wsV RX1 23 RX1 yX1_put wsX1_put) := goodIn_app (goodIn_of _ (by decide +kernel)) ggX1_exchange_X1_put
theorem dX1_exchange_0 : decode cX1_exchange 0 = .ok (.aload_n 0, 1) := by decide +kernel
theorem dX1_exchange_1 : decode cX1_exchange 1 = .ok (.iload_n 1, 1) := by decide +kernel
theorem dX1_exchange_2 : decode cX1_exchange 2 = .ok (.invokevirtual 19, 3) := by decide +kernel
theorem dX1_exchange_5 : decode cX1_exchange 5 = .ok (.istore_n 3, 1) := by decide +kernel
theorem dX1_exchange_6 : decode cX1_exchange 6 = .ok (.aload_n 0, 1) := by decide +kernel
theorem dX1_exchange_7 : decode cX1_exchange 7 = .ok (.iload_n 1, 1) := by decide +kernel
theorem dX1_exchange_8 : decode cX1_exchange 8 = .ok (.aload_n 0, 1) := by decide +kernel
theorem dX1_exchange_9 : decode cX1_exchange 9 = .ok (.iload_n 2, 1) := by decide +kernel
theorem dX1_exchange_10 : decode cX1_exchange 10 = .ok (.invokevirtual 19, 3) := by decide +kernel
theorem dX1_exchange_13 : decode cX1_exchange 13 = .ok (.invokevirtual 23, 3) := by decide +kernel
theorem dX1_exchange_16 : decode cX1_exchange 16 = .ok (.aload_n 0, 1) := by decide +kernel
theorem dX1_exchange_17 : decode cX1_exchange 17 = .ok (.iload_n 2, 1) := by decide +kernel
theorem dX1_exchange_18 : decode cX1_exchange 18 = .ok (.iload_n 3, 1) := by decide +kernel
theorem dX1_exchange_19 : decode cX1_exchange 19 = .ok (.invokevirtual 23, 3) := by decide +kernel
theorem dX1_exchange_22 : decode cX1_exchange 22 = .ok (.return_, 1) := by decide +kernel
theorem dX1_isSame_0 : decode cX1_isSame 0 = .ok (.iconst 1, 1) := by decide +kernel
theorem dX1_isSame_1 : decode cX1_isSame 1 = .ok (.istore_n 2, 1) := by decide +kernel
theorem dX1_isSame_2 : decode cX1_isSame 2 = .ok (.iload_n 2, 1) := by decide +kernel
theorem dX1_isSame_3 : decode cX1_isSame 3 = .ok (.bipush 9, 2) := by decide +kernel
theorem dX1_isSame_5 : decode cX1_isSame 5 = .ok (.if_icmp .gt 26, 3) := by decide +kernel
theorem dX1_isSame_8 : decode cX1_isSame 8 = .ok (.aload_n 0, 1) := by decide +kernel
theorem dX1_isSame_9 : decode cX1_isSame 9 = .ok (.getfield 9, 3) := by decide +kernel
theorem dX1_isSame_12 : decode cX1_isSame 12 = .ok (.iload_n 2, 1) := by decide +kernel
theorem dX1_isSame_13 : decode cX1_isSame 13 = .ok (.iaload, 1) := by decide +kernel
theorem dX1_isSame_14 : decode cX1_isSame 14 = .ok (.aload_n 1, 1) := by decide +kernel
theorem dX1_isSame_15 : decode cX1_isSame 15 = .ok (.getfield 9, 3) := by decide +kernel
theorem dX1_isSame_18 : decode cX1_isSame 18 = .ok (.iload_n 2, 1) := by decide +kernel
theorem dX1_isSame_19 : decode cX1_isSame 19 = .ok (.iaload, 1) := by decide +kernel
theorem dX1_isSame_20 : decode cX1_isSame 20 = .ok (.if_icmp .eq 5, 3) := by decide +kernel
theorem dX1_isSame_23 : decode cX1_isSame 23 = .ok (.iconst 0, 1) := by decide +kernel
theorem dX1_isSame_24 : decode cX1_isSame 24 = .ok (.ireturn, 1) := by decide +kernel
theorem dX1_isSame_25 : decode cX1_isSame 25 = .ok (.iinc 2 1, 3) := by decide +kernel
theorem dX1_isSame_28 : decode cX1_isSame 28 = .ok (.goto (-26), 3) := by decide +kernel
theorem dX1_isSame_31 : decode cX1_isSame 31 = .ok (.iconst 1, 1) := by decide +kernel
theorem dX1_isSame_32 : decode cX1_isSame 32 = .ok (.ireturn, 1) := by decide +kernel
set_option maxRecDepth 20000 in
theorem ggX1_becomeInverse_X1_digit : GoodIn wsX1_becomeInverse wsX1_digit := goodIn_r _ [5, 6, 11] (by decide +kernel) (by decide +kernel)
set_option maxRecDepth 20000 in
theorem gX1_becomeInverse_X1_digit : GoodIn wsX1_becomeInverse (wsV RX1 19 RX1 yX1_digit wsX1_digit) := goodIn_app (goodIn_of _ (by decide +kernel)) ggX1_becomeInverse_X1_digit
set_option maxRecDepth 20000 in
theorem ggX1_becomeInverse_X1_put : GoodIn wsX1_becomeInverse wsX1_put := goodIn_r _ [10, 6, 11] (by decide +kernel) (by decide +kernel)
set_option maxRecDepth 20000 in
theorem gX1_becomeInverse_X1_put : GoodIn wsX1_becomeInverse (wsV RX1 23 RX1 yX1_put wsX1_put) := goodIn_app (goodIn_of _ (by decide +kernel)) ggX1_becomeInverse_X1_put
theorem dX1_becomeInverse_0 : decode cX1_becomeInverse 0 = .ok (.iconst 1, 1) := by decide +kernel
theorem dX1_becomeInverse_1 : decode cX1_becomeInverse 1 = .ok (.istore_n 2, 1) := by decide +kernel
theorem dX1_becomeInverse_2 : decode cX1_becomeInverse 2 = .ok (.iload_n 2, 1) := by decide +kernel
theorem dX1_becomeInverse_3 : decode cX1_becomeInverse 3 = .ok (.bipush 9, 2) := by decide +kernel
theorem dX1_becomeInverse_5 : decode cX1_becomeInverse 5 = .ok (.if_icmp .gt 19, 3) := by decide +kernel
theorem dX1_becomeInverse_8 : decode cX1_becomeInverse 8 = .ok (.aload_n 0, 1) := by decide +kernel
theorem dX1_becomeInverse_9 : decode cX1_becomeInverse 9 = .ok (.aload_n 1, 1) := by decide +kernel
theorem dX1_becomeInverse_10 : decode cX1_becomeInverse 10 = .ok (.iload_n 2, 1) := by decide +kernel
theorem dX1_becomeInverse_11 : decode cX1_becomeInverse 11 = .ok (.invokevirtual 19, 3) := by decide +kernel
theorem dX1_becomeInverse_14 : decode cX1_becomeInverse 14 = .ok (.iload_n 2, 1) := by decide +kernel
theorem dX1_becomeInverse_15 : decode cX1_becomeInverse 15 = .ok (.invokevirtual 23, 3) := by decide +kernel
theorem dX1_becomeInverse_18 : decode cX1_becomeInverse 18 = .ok (.iinc 2 1, 3) := by decide +kernel
theorem dX1_becomeInverse_21 : decode cX1_becomeInverse 21 = .ok (.goto (-19), 3) := by decide +kernel
theorem dX1_becomeInverse_24 : decode cX1_becomeInverse 24 = .ok (.return_, 1) := by decide +kernel
set_option maxRecDepth 20000 in
theorem ggX1_becomeProduct_X1_digit : GoodIn wsX1_becomeProduct wsX1_digit := goodIn_r _ [6, 1, 7] (by decide +kernel) (by decide +kernel)
set_option maxRecDepth 20000 in
theorem gX1_becomeProduct_X1_digit : GoodIn wsX1_becomeProduct (wsV RX1 19 RX1 yX1_digit wsX1_digit) := goodIn_app (goodIn_of _ (by decide +kernel)) ggX1_becomeProduct_X1_digit
theorem dX1_becomeProduct_0 : decode cX1_becomeProduct 0 = .ok (.iconst 1, 1) := by decide +kernel
theorem dX1_becomeProduct_1 : decode cX1_becomeProduct 1 = .ok (.istore_n 3, 1) := by decide +kernel
theorem dX1_becomeProduct_2 : decode cX1_becomeProduct 2 = .ok (.iload_n 3, 1) := by decide +kernel
theorem dX1_becomeProduct_3 : decode cX1_becomeProduct 3 = .ok (.bipush 9, 2) := by decide +kernel
theorem dX1_becomeProduct_5 : decode cX1_becomeProduct 5 = .ok (.if_icmp .gt 24, 3) := by decide +kernel
theorem dX1_becomeProduct_8 : decode cX1_becomeProduct 8 = .ok (.aload_n 0, 1) := by decide +kernel
theorem dX1_becomeProduct_9 : decode cX1_becomeProduct 9 = .ok (.getfield 9, 3) := by decide +kernel
theorem dX1_becomeProduct_12 : decode cX1_becomeProduct 12 = .ok (.iload_n 3, 1) := by decide +kernel
theorem dX1_becomeProduct_13 : decode cX1_becomeProduct 13 = .ok (.aload_n 1, 1) := by decide +kernel
theorem dX1_becomeProduct_14 : decode cX1_becomeProduct 14 = .ok (.aload_n 2, 1) := by decide +kernel
theorem dX1_becomeProduct_15 : decode cX1_becomeProduct 15 = .ok (.iload_n 3, 1) := by decide +kernel
theorem dX1_becomeProduct_16 : decode cX1_becomeProduct 16 = .ok (.invokevirtual 19, 3) := by decide +kernel
theorem dX1_becomeProduct_19 : decode cX1_becomeProduct 19 = .ok (.invokevirtual 19, 3) := by decide +kernel
theorem dX1_becomeProduct_22 : decode cX1_becomeProduct 22 = .ok (.iastore, 1) := by decide +kernel
theorem dX1_becomeProduct_23 : decode cX1_becomeProduct 23 = .ok (.iinc 3 1, 3) := by decide +kernel
theorem dX1_becomeProduct_26 : decode cX1_becomeProduct 26 = .ok (.goto (-24), 3) := by decide +kernel
theorem dX1_becomeProduct_29 : decode cX1_becomeProduct 29 = .ok (.return_, 1) := by decide +kernel
set_option maxRecDepth 20000 in
theorem ggX1_becomeOfCode_X5_exponentAt : GoodIn wsX1_becomeOfCode wsX5_exponentAt := goodIn_r _ [4] (by decide +kernel) (by decide +kernel)
set_option maxRecDepth 20000 in
theorem gX1_becomeOfCode_X5_exponentAt_n27 : GoodIn wsX1_becomeOfCode (wsX5_exponentAt) := ggX1_becomeOfCode_X5_exponentAt
set_option maxRecDepth 20000 in
theorem ggX1_becomeOfCode_X1_unusedAbove : GoodIn wsX1_becomeOfCode wsX1_unusedAbove := goodIn_r _ [8] (by decide +kernel) (by decide +kernel)
set_option maxRecDepth 20000 in
theorem gX1_becomeOfCode_X1_unusedAbove : GoodIn wsX1_becomeOfCode (va_wsS RX1 31 yX1_unusedAbove wsX1_unusedAbove) := goodIn_app (goodIn_of _ (by decide +kernel)) ggX1_becomeOfCode_X1_unusedAbove
theorem dX1_becomeOfCode_0 : decode cX1_becomeOfCode 0 = .ok (.iconst 0, 1) := by decide +kernel
theorem dX1_becomeOfCode_1 : decode cX1_becomeOfCode 1 = .ok (.istore_n 2, 1) := by decide +kernel
theorem dX1_becomeOfCode_2 : decode cX1_becomeOfCode 2 = .ok (.iconst 1, 1) := by decide +kernel
theorem dX1_becomeOfCode_3 : decode cX1_becomeOfCode 3 = .ok (.istore_n 3, 1) := by decide +kernel
theorem dX1_becomeOfCode_4 : decode cX1_becomeOfCode 4 = .ok (.iload_n 3, 1) := by decide +kernel
theorem dX1_becomeOfCode_5 : decode cX1_becomeOfCode 5 = .ok (.bipush 9, 2) := by decide +kernel
theorem dX1_becomeOfCode_7 : decode cX1_becomeOfCode 7 = .ok (.if_icmp .gt 35, 3) := by decide +kernel
theorem dX1_becomeOfCode_10 : decode cX1_becomeOfCode 10 = .ok (.iload_n 2, 1) := by decide +kernel
theorem dX1_becomeOfCode_11 : decode cX1_becomeOfCode 11 = .ok (.iload_n 1, 1) := by decide +kernel
theorem dX1_becomeOfCode_12 : decode cX1_becomeOfCode 12 = .ok (.iload_n 3, 1) := by decide +kernel
theorem dX1_becomeOfCode_13 : decode cX1_becomeOfCode 13 = .ok (.invokestatic 27, 3) := by decide +kernel
theorem dX1_becomeOfCode_16 : decode cX1_becomeOfCode 16 = .ok (.invokestatic 31, 3) := by decide +kernel
theorem dX1_becomeOfCode_19 : decode cX1_becomeOfCode 19 = .ok (.istore 4, 2) := by decide +kernel
theorem dX1_becomeOfCode_21 : decode cX1_becomeOfCode 21 = .ok (.iload_n 2, 1) := by decide +kernel
theorem dX1_becomeOfCode_22 : decode cX1_becomeOfCode 22 = .ok (.iconst 1, 1) := by decide +kernel
theorem dX1_becomeOfCode_23 : decode cX1_becomeOfCode 23 = .ok (.iload 4, 2) := by decide +kernel
theorem dX1_becomeOfCode_25 : decode cX1_becomeOfCode 25 = .ok (.ishl, 1) := by decide +kernel
theorem dX1_becomeOfCode_26 : decode cX1_becomeOfCode 26 = .ok (.ior, 1) := by decide +kernel
theorem dX1_becomeOfCode_27 : decode cX1_becomeOfCode 27 = .ok (.istore_n 2, 1) := by decide +kernel
theorem dX1_becomeOfCode_28 : decode cX1_becomeOfCode 28 = .ok (.aload_n 0, 1) := by decide +kernel
theorem dX1_becomeOfCode_29 : decode cX1_becomeOfCode 29 = .ok (.getfield 9, 3) := by decide +kernel
theorem dX1_becomeOfCode_32 : decode cX1_becomeOfCode 32 = .ok (.iload_n 3, 1) := by decide +kernel
theorem dX1_becomeOfCode_33 : decode cX1_becomeOfCode 33 = .ok (.iload 4, 2) := by decide +kernel
theorem dX1_becomeOfCode_35 : decode cX1_becomeOfCode 35 = .ok (.iastore, 1) := by decide +kernel
theorem dX1_becomeOfCode_36 : decode cX1_becomeOfCode 36 = .ok (.iinc 3 1, 3) := by decide +kernel
theorem dX1_becomeOfCode_39 : decode cX1_becomeOfCode 39 = .ok (.goto (-35), 3) := by decide +kernel
theorem dX1_becomeOfCode_42 : decode cX1_becomeOfCode 42 = .ok (.return_, 1) := by decide +kernel
theorem dX1_unusedAbove_0 : decode cX1_unusedAbove 0 = .ok (.iload_n 1, 1) := by decide +kernel
theorem dX1_unusedAbove_1 : decode cX1_unusedAbove 1 = .ok (.istore_n 2, 1) := by decide +kernel
theorem dX1_unusedAbove_2 : decode cX1_unusedAbove 2 = .ok (.iconst 1, 1) := by decide +kernel
theorem dX1_unusedAbove_3 : decode cX1_unusedAbove 3 = .ok (.istore_n 3, 1) := by decide +kernel
theorem dX1_unusedAbove_4 : decode cX1_unusedAbove 4 = .ok (.iload_n 3, 1) := by decide +kernel
theorem dX1_unusedAbove_5 : decode cX1_unusedAbove 5 = .ok (.bipush 9, 2) := by decide +kernel
theorem dX1_unusedAbove_7 : decode cX1_unusedAbove 7 = .ok (.if_icmp .ge 26, 3) := by decide +kernel
theorem dX1_unusedAbove_10 : decode cX1_unusedAbove 10 = .ok (.iload_n 0, 1) := by decide +kernel
theorem dX1_unusedAbove_11 : decode cX1_unusedAbove 11 = .ok (.iload_n 3, 1) := by decide +kernel
theorem dX1_unusedAbove_12 : decode cX1_unusedAbove 12 = .ok (.ishr, 1) := by decide +kernel
theorem dX1_unusedAbove_13 : decode cX1_unusedAbove 13 = .ok (.iconst 1, 1) := by decide +kernel
theorem dX1_unusedAbove_14 : decode cX1_unusedAbove 14 = .ok (.iand, 1) := by decide +kernel
theorem dX1_unusedAbove_15 : decode cX1_unusedAbove 15 = .ok (.ifCond .ne 12, 3) := by decide +kernel
theorem dX1_unusedAbove_18 : decode cX1_unusedAbove 18 = .ok (.iload_n 2, 1) := by decide +kernel
theorem dX1_unusedAbove_19 : decode cX1_unusedAbove 19 = .ok (.ifCond .ne 5, 3) := by decide +kernel
theorem dX1_unusedAbove_22 : decode cX1_unusedAbove 22 = .ok (.iload_n 3, 1) := by decide +kernel
theorem dX1_unusedAbove_23 : decode cX1_unusedAbove 23 = .ok (.ireturn, 1) := by decide +kernel
theorem dX1_unusedAbove_24 : decode cX1_unusedAbove 24 = .ok (.iinc 2 (-1), 3) := by decide +kernel
theorem dX1_unusedAbove_27 : decode cX1_unusedAbove 27 = .ok (.iinc 3 1, 3) := by decide +kernel
theorem dX1_unusedAbove_30 : decode cX1_unusedAbove 30 = .ok (.goto (-26), 3) := by decide +kernel
theorem dX1_unusedAbove_33 : decode cX1_unusedAbove 33 = .ok (.bipush 9, 2) := by decide +kernel
theorem dX1_unusedAbove_35 : decode cX1_unusedAbove 35 = .ok (.ireturn, 1) := by decide +kernel
set_option maxRecDepth 20000 in
theorem ggX1_becomeMade_X1_stayInPlace : GoodIn wsX1_becomeMade wsX1_stayInPlace := goodIn_r _ [5, 6, 19] (by decide +kernel) (by decide +kernel)
set_option maxRecDepth 20000 in
theorem gX1_becomeMade_X1_stayInPlace : GoodIn wsX1_becomeMade (wsV RX1 16 RX1 yX1_stayInPlace wsX1_stayInPlace) := goodIn_app (goodIn_of _ (by decide +kernel)) ggX1_becomeMade_X1_stayInPlace
set_option maxRecDepth 20000 in
theorem ggX1_becomeMade_X1_exchange : GoodIn wsX1_becomeMade wsX1_exchange := goodIn_r _ [10, 11, 12, 13, 4, 14, 6, 15, 16, 17, 18, 19] (by decide +kernel) (by decide +kernel)
set_option maxRecDepth 20000 in
theorem gX1_becomeMade_X1_exchange : GoodIn wsX1_becomeMade (wsV RX1 40 RX1 yX1_exchange wsX1_exchange) := goodIn_app (goodIn_of _ (by decide +kernel)) ggX1_becomeMade_X1_exchange
theorem dX1_becomeMade_0 : decode cX1_becomeMade 0 = .ok (.aload_n 0, 1) := by decide +kernel
theorem dX1_becomeMade_1 : decode cX1_becomeMade 1 = .ok (.invokevirtual 16, 3) := by decide +kernel
theorem dX1_becomeMade_4 : decode cX1_becomeMade 4 = .ok (.iconst 0, 1) := by decide +kernel
theorem dX1_becomeMade_5 : decode cX1_becomeMade 5 = .ok (.istore_n 2, 1) := by decide +kernel
theorem dX1_becomeMade_6 : decode cX1_becomeMade 6 = .ok (.iload_n 2, 1) := by decide +kernel
theorem dX1_becomeMade_7 : decode cX1_becomeMade 7 = .ok (.bipush 10, 2) := by decide +kernel
theorem dX1_becomeMade_9 : decode cX1_becomeMade 9 = .ok (.if_icmp .ge 38, 3) := by decide +kernel
theorem dX1_becomeMade_12 : decode cX1_becomeMade 12 = .ok (.iload_n 1, 1) := by decide +kernel
theorem dX1_becomeMade_13 : decode cX1_becomeMade 13 = .ok (.getstatic 34, 3) := by decide +kernel
theorem dX1_becomeMade_16 : decode cX1_becomeMade 16 = .ok (.iload_n 2, 1) := by decide +kernel
theorem dX1_becomeMade_17 : decode cX1_becomeMade 17 = .ok (.iaload, 1) := by decide +kernel
theorem dX1_becomeMade_18 : decode cX1_becomeMade 18 = .ok (.ishr, 1) := by decide +kernel
theorem dX1_becomeMade_19 : decode cX1_becomeMade 19 = .ok (.iconst 1, 1) := by decide +kernel
theorem dX1_becomeMade_20 : decode cX1_becomeMade 20 = .ok (.iand, 1) := by decide +kernel
theorem dX1_becomeMade_21 : decode cX1_becomeMade 21 = .ok (.iconst 1, 1) := by decide +kernel
theorem dX1_becomeMade_22 : decode cX1_becomeMade 22 = .ok (.if_icmp .ne 19, 3) := by decide +kernel
theorem dX1_becomeMade_25 : decode cX1_becomeMade 25 = .ok (.aload_n 0, 1) := by decide +kernel
theorem dX1_becomeMade_26 : decode cX1_becomeMade 26 = .ok (.getstatic 37, 3) := by decide +kernel
theorem dX1_becomeMade_29 : decode cX1_becomeMade 29 = .ok (.iload_n 2, 1) := by decide +kernel
theorem dX1_becomeMade_30 : decode cX1_becomeMade 30 = .ok (.iaload, 1) := by decide +kernel
theorem dX1_becomeMade_31 : decode cX1_becomeMade 31 = .ok (.getstatic 37, 3) := by decide +kernel
theorem dX1_becomeMade_34 : decode cX1_becomeMade 34 = .ok (.iload_n 2, 1) := by decide +kernel
theorem dX1_becomeMade_35 : decode cX1_becomeMade 35 = .ok (.iaload, 1) := by decide +kernel
theorem dX1_becomeMade_36 : decode cX1_becomeMade 36 = .ok (.iconst 1, 1) := by decide +kernel
theorem dX1_becomeMade_37 : decode cX1_becomeMade 37 = .ok (.iadd, 1) := by decide +kernel
theorem dX1_becomeMade_38 : decode cX1_becomeMade 38 = .ok (.invokevirtual 40, 3) := by decide +kernel
theorem dX1_becomeMade_41 : decode cX1_becomeMade 41 = .ok (.iinc 2 1, 3) := by decide +kernel
theorem dX1_becomeMade_44 : decode cX1_becomeMade 44 = .ok (.goto (-38), 3) := by decide +kernel
theorem dX1_becomeMade_47 : decode cX1_becomeMade 47 = .ok (.return_, 1) := by decide +kernel
theorem dX1_plainCount_0 : decode cX1_plainCount 0 = .ok (.bipush 9, 2) := by decide +kernel
theorem dX1_plainCount_2 : decode cX1_plainCount 2 = .ok (.istore_n 1, 1) := by decide +kernel
theorem dX1_plainCount_3 : decode cX1_plainCount 3 = .ok (.iload_n 1, 1) := by decide +kernel
theorem dX1_plainCount_4 : decode cX1_plainCount 4 = .ok (.iconst 1, 1) := by decide +kernel
theorem dX1_plainCount_5 : decode cX1_plainCount 5 = .ok (.if_icmp .le 19, 3) := by decide +kernel
theorem dX1_plainCount_8 : decode cX1_plainCount 8 = .ok (.aload_n 0, 1) := by decide +kernel
theorem dX1_plainCount_9 : decode cX1_plainCount 9 = .ok (.getfield 9, 3) := by decide +kernel
theorem dX1_plainCount_12 : decode cX1_plainCount 12 = .ok (.iload_n 1, 1) := by decide +kernel
theorem dX1_plainCount_13 : decode cX1_plainCount 13 = .ok (.iaload, 1) := by decide +kernel
theorem dX1_plainCount_14 : decode cX1_plainCount 14 = .ok (.iload_n 1, 1) := by decide +kernel
theorem dX1_plainCount_15 : decode cX1_plainCount 15 = .ok (.if_icmp .ne 9, 3) := by decide +kernel
theorem dX1_plainCount_18 : decode cX1_plainCount 18 = .ok (.iinc 1 (-1), 3) := by decide +kernel
theorem dX1_plainCount_21 : decode cX1_plainCount 21 = .ok (.goto (-18), 3) := by decide +kernel
theorem dX1_plainCount_24 : decode cX1_plainCount 24 = .ok (.iload_n 1, 1) := by decide +kernel
theorem dX1_plainCount_25 : decode cX1_plainCount 25 = .ok (.ireturn, 1) := by decide +kernel
set_option maxRecDepth 20000 in
theorem ggX1_plainNumber_X1_plainCount : GoodIn wsX1_plainNumber wsX1_plainCount := goodIn_r _ [6, 1, 7] (by decide +kernel) (by decide +kernel)
set_option maxRecDepth 20000 in
theorem gX1_plainNumber_X1_plainCount : GoodIn wsX1_plainNumber (wsV RX1 43 RX1 yX1_plainCount wsX1_plainCount) := goodIn_app (goodIn_of _ (by decide +kernel)) ggX1_plainNumber_X1_plainCount
theorem dX1_plainNumber_0 : decode cX1_plainNumber 0 = .ok (.aload_n 0, 1) := by decide +kernel
theorem dX1_plainNumber_1 : decode cX1_plainNumber 1 = .ok (.invokevirtual 43, 3) := by decide +kernel
theorem dX1_plainNumber_4 : decode cX1_plainNumber 4 = .ok (.istore_n 1, 1) := by decide +kernel
theorem dX1_plainNumber_5 : decode cX1_plainNumber 5 = .ok (.iconst 0, 1) := by decide +kernel
theorem dX1_plainNumber_6 : decode cX1_plainNumber 6 = .ok (.istore_n 2, 1) := by decide +kernel
theorem dX1_plainNumber_7 : decode cX1_plainNumber 7 = .ok (.iconst 1, 1) := by decide +kernel
theorem dX1_plainNumber_8 : decode cX1_plainNumber 8 = .ok (.istore_n 3, 1) := by decide +kernel
theorem dX1_plainNumber_9 : decode cX1_plainNumber 9 = .ok (.iload_n 3, 1) := by decide +kernel
theorem dX1_plainNumber_10 : decode cX1_plainNumber 10 = .ok (.iload_n 1, 1) := by decide +kernel
theorem dX1_plainNumber_11 : decode cX1_plainNumber 11 = .ok (.if_icmp .gt 27, 3) := by decide +kernel
theorem dX1_plainNumber_14 : decode cX1_plainNumber 14 = .ok (.iload_n 3, 1) := by decide +kernel
theorem dX1_plainNumber_15 : decode cX1_plainNumber 15 = .ok (.bipush 9, 2) := by decide +kernel
theorem dX1_plainNumber_17 : decode cX1_plainNumber 17 = .ok (.if_icmp .gt 21, 3) := by decide +kernel
theorem dX1_plainNumber_20 : decode cX1_plainNumber 20 = .ok (.iload_n 2, 1) := by decide +kernel
theorem dX1_plainNumber_21 : decode cX1_plainNumber 21 = .ok (.bipush 10, 2) := by decide +kernel
theorem dX1_plainNumber_23 : decode cX1_plainNumber 23 = .ok (.imul, 1) := by decide +kernel
theorem dX1_plainNumber_24 : decode cX1_plainNumber 24 = .ok (.aload_n 0, 1) := by decide +kernel
theorem dX1_plainNumber_25 : decode cX1_plainNumber 25 = .ok (.getfield 9, 3) := by decide +kernel
theorem dX1_plainNumber_28 : decode cX1_plainNumber 28 = .ok (.iload_n 3, 1) := by decide +kernel
theorem dX1_plainNumber_29 : decode cX1_plainNumber 29 = .ok (.iaload, 1) := by decide +kernel
theorem dX1_plainNumber_30 : decode cX1_plainNumber 30 = .ok (.iadd, 1) := by decide +kernel
theorem dX1_plainNumber_31 : decode cX1_plainNumber 31 = .ok (.istore_n 2, 1) := by decide +kernel
theorem dX1_plainNumber_32 : decode cX1_plainNumber 32 = .ok (.iinc 3 1, 3) := by decide +kernel
theorem dX1_plainNumber_35 : decode cX1_plainNumber 35 = .ok (.goto (-26), 3) := by decide +kernel
theorem dX1_plainNumber_38 : decode cX1_plainNumber 38 = .ok (.iload_n 2, 1) := by decide +kernel
theorem dX1_plainNumber_39 : decode cX1_plainNumber 39 = .ok (.ireturn, 1) := by decide +kernel
set_option maxRecDepth 20000 in
theorem ggX1_isSmall_X1_plainCount : GoodIn wsX1_isSmall wsX1_plainCount := goodIn_r _ [5, 6, 7] (by decide +kernel) (by decide +kernel)
set_option maxRecDepth 20000 in
theorem gX1_isSmall_X1_plainCount : GoodIn wsX1_isSmall (wsV RX1 43 RX1 yX1_plainCount wsX1_plainCount) := goodIn_app (goodIn_of _ (by decide +kernel)) ggX1_isSmall_X1_plainCount
theorem dX1_isSmall_0 : decode cX1_isSmall 0 = .ok (.aload_n 0, 1) := by decide +kernel
theorem dX1_isSmall_1 : decode cX1_isSmall 1 = .ok (.invokevirtual 43, 3) := by decide +kernel
theorem dX1_isSmall_4 : decode cX1_isSmall 4 = .ok (.iconst 5, 1) := by decide +kernel
theorem dX1_isSmall_5 : decode cX1_isSmall 5 = .ok (.if_icmp .gt 7, 3) := by decide +kernel
theorem dX1_isSmall_8 : decode cX1_isSmall 8 = .ok (.iconst 1, 1) := by decide +kernel
theorem dX1_isSmall_9 : decode cX1_isSmall 9 = .ok (.goto 4, 3) := by decide +kernel
theorem dX1_isSmall_12 : decode cX1_isSmall 12 = .ok (.iconst 0, 1) := by decide +kernel
theorem dX1_isSmall_13 : decode cX1_isSmall 13 = .ok (.ireturn, 1) := by decide +kernel
set_option maxRecDepth 20000 in
theorem ggX1_codeAt_X1_digit : GoodIn wsX1_codeAt wsX1_digit := goodIn_r _ [5, 6, 7] (by decide +kernel) (by decide +kernel)
set_option maxRecDepth 20000 in
theorem gX1_codeAt_X1_digit : GoodIn wsX1_codeAt (wsV RX1 19 RX1 yX1_digit wsX1_digit) := goodIn_app (goodIn_of _ (by decide +kernel)) ggX1_codeAt_X1_digit
theorem dX1_codeAt_0 : decode cX1_codeAt 0 = .ok (.iconst 0, 1) := by decide +kernel
theorem dX1_codeAt_1 : decode cX1_codeAt 1 = .ok (.istore_n 2, 1) := by decide +kernel
theorem dX1_codeAt_2 : decode cX1_codeAt 2 = .ok (.iload_n 1, 1) := by decide +kernel
theorem dX1_codeAt_3 : decode cX1_codeAt 3 = .ok (.iconst 1, 1) := by decide +kernel
theorem dX1_codeAt_4 : decode cX1_codeAt 4 = .ok (.iadd, 1) := by decide +kernel
theorem dX1_codeAt_5 : decode cX1_codeAt 5 = .ok (.istore_n 3, 1) := by decide +kernel
theorem dX1_codeAt_6 : decode cX1_codeAt 6 = .ok (.iload_n 3, 1) := by decide +kernel
theorem dX1_codeAt_7 : decode cX1_codeAt 7 = .ok (.bipush 9, 2) := by decide +kernel
theorem dX1_codeAt_9 : decode cX1_codeAt 9 = .ok (.if_icmp .gt 25, 3) := by decide +kernel
theorem dX1_codeAt_12 : decode cX1_codeAt 12 = .ok (.aload_n 0, 1) := by decide +kernel
theorem dX1_codeAt_13 : decode cX1_codeAt 13 = .ok (.iload_n 3, 1) := by decide +kernel
theorem dX1_codeAt_14 : decode cX1_codeAt 14 = .ok (.invokevirtual 19, 3) := by decide +kernel
theorem dX1_codeAt_17 : decode cX1_codeAt 17 = .ok (.aload_n 0, 1) := by decide +kernel
theorem dX1_codeAt_18 : decode cX1_codeAt 18 = .ok (.iload_n 1, 1) := by decide +kernel
theorem dX1_codeAt_19 : decode cX1_codeAt 19 = .ok (.invokevirtual 19, 3) := by decide +kernel
theorem dX1_codeAt_22 : decode cX1_codeAt 22 = .ok (.if_icmp .ge 6, 3) := by decide +kernel
theorem dX1_codeAt_25 : decode cX1_codeAt 25 = .ok (.iinc 2 1, 3) := by decide +kernel
theorem dX1_codeAt_28 : decode cX1_codeAt 28 = .ok (.iinc 3 1, 3) := by decide +kernel
theorem dX1_codeAt_31 : decode cX1_codeAt 31 = .ok (.goto (-25), 3) := by decide +kernel
theorem dX1_codeAt_34 : decode cX1_codeAt 34 = .ok (.iload_n 2, 1) := by decide +kernel
theorem dX1_codeAt_35 : decode cX1_codeAt 35 = .ok (.ireturn, 1) := by decide +kernel
set_option maxRecDepth 20000 in
theorem ggX1_inversions_X1_codeAt : GoodIn wsX1_inversions wsX1_codeAt := goodIn_r _ [5, 6, 7, 8, 4, 9, 10, 11] (by decide +kernel) (by decide +kernel)
set_option maxRecDepth 20000 in
theorem gX1_inversions_X1_codeAt : GoodIn wsX1_inversions (wsV RX1 47 RX1 yX1_codeAt wsX1_codeAt) := goodIn_app (goodIn_of _ (by decide +kernel)) ggX1_inversions_X1_codeAt
theorem dX1_inversions_0 : decode cX1_inversions 0 = .ok (.iconst 0, 1) := by decide +kernel
theorem dX1_inversions_1 : decode cX1_inversions 1 = .ok (.istore_n 1, 1) := by decide +kernel
theorem dX1_inversions_2 : decode cX1_inversions 2 = .ok (.iconst 1, 1) := by decide +kernel
theorem dX1_inversions_3 : decode cX1_inversions 3 = .ok (.istore_n 2, 1) := by decide +kernel
theorem dX1_inversions_4 : decode cX1_inversions 4 = .ok (.iload_n 2, 1) := by decide +kernel
theorem dX1_inversions_5 : decode cX1_inversions 5 = .ok (.bipush 9, 2) := by decide +kernel
theorem dX1_inversions_7 : decode cX1_inversions 7 = .ok (.if_icmp .ge 17, 3) := by decide +kernel
theorem dX1_inversions_10 : decode cX1_inversions 10 = .ok (.iload_n 1, 1) := by decide +kernel
theorem dX1_inversions_11 : decode cX1_inversions 11 = .ok (.aload_n 0, 1) := by decide +kernel
theorem dX1_inversions_12 : decode cX1_inversions 12 = .ok (.iload_n 2, 1) := by decide +kernel
theorem dX1_inversions_13 : decode cX1_inversions 13 = .ok (.invokevirtual 47, 3) := by decide +kernel
theorem dX1_inversions_16 : decode cX1_inversions 16 = .ok (.iadd, 1) := by decide +kernel
theorem dX1_inversions_17 : decode cX1_inversions 17 = .ok (.istore_n 1, 1) := by decide +kernel
theorem dX1_inversions_18 : decode cX1_inversions 18 = .ok (.iinc 2 1, 3) := by decide +kernel
theorem dX1_inversions_21 : decode cX1_inversions 21 = .ok (.goto (-17), 3) := by decide +kernel
theorem dX1_inversions_24 : decode cX1_inversions 24 = .ok (.iload_n 1, 1) := by decide +kernel
theorem dX1_inversions_25 : decode cX1_inversions 25 = .ok (.ireturn, 1) := by decide +kernel
set_option maxRecDepth 20000 in
theorem ggX1_codeCell_X1_codeAt : GoodIn wsX1_codeCell wsX1_codeAt := goodIn_r _ [5, 6, 7, 8, 4, 9, 10, 17] (by decide +kernel) (by decide +kernel)
set_option maxRecDepth 20000 in
theorem gX1_codeCell_X1_codeAt : GoodIn wsX1_codeCell (wsV RX1 47 RX1 yX1_codeAt wsX1_codeAt) := goodIn_app (goodIn_of _ (by decide +kernel)) ggX1_codeCell_X1_codeAt
set_option maxRecDepth 20000 in
theorem ggX1_codeCell_X5_cellOf : GoodIn wsX1_codeCell wsX5_cellOf := goodIn_r _ [13, 14, 15, 12, 16] (by decide +kernel) (by decide +kernel)
set_option maxRecDepth 20000 in
theorem gX1_codeCell_X5_cellOf_n50 : GoodIn wsX1_codeCell (wsX5_cellOf) := ggX1_codeCell_X5_cellOf
theorem dX1_codeCell_0 : decode cX1_codeCell 0 = .ok (.aload_n 0, 1) := by decide +kernel
theorem dX1_codeCell_1 : decode cX1_codeCell 1 = .ok (.iconst 1, 1) := by decide +kernel
theorem dX1_codeCell_2 : decode cX1_codeCell 2 = .ok (.invokevirtual 47, 3) := by decide +kernel
theorem dX1_codeCell_5 : decode cX1_codeCell 5 = .ok (.aload_n 0, 1) := by decide +kernel
theorem dX1_codeCell_6 : decode cX1_codeCell 6 = .ok (.iconst 2, 1) := by decide +kernel
theorem dX1_codeCell_7 : decode cX1_codeCell 7 = .ok (.invokevirtual 47, 3) := by decide +kernel
theorem dX1_codeCell_10 : decode cX1_codeCell 10 = .ok (.aload_n 0, 1) := by decide +kernel
theorem dX1_codeCell_11 : decode cX1_codeCell 11 = .ok (.iconst 3, 1) := by decide +kernel
theorem dX1_codeCell_12 : decode cX1_codeCell 12 = .ok (.invokevirtual 47, 3) := by decide +kernel
theorem dX1_codeCell_15 : decode cX1_codeCell 15 = .ok (.aload_n 0, 1) := by decide +kernel
theorem dX1_codeCell_16 : decode cX1_codeCell 16 = .ok (.iconst 4, 1) := by decide +kernel
theorem dX1_codeCell_17 : decode cX1_codeCell 17 = .ok (.invokevirtual 47, 3) := by decide +kernel
theorem dX1_codeCell_20 : decode cX1_codeCell 20 = .ok (.invokestatic 50, 3) := by decide +kernel
theorem dX1_codeCell_23 : decode cX1_codeCell 23 = .ok (.ireturn, 1) := by decide +kernel
theorem dX1_descentSet_0 : decode cX1_descentSet 0 = .ok (.iconst 0, 1) := by decide +kernel
theorem dX1_descentSet_1 : decode cX1_descentSet 1 = .ok (.istore_n 1, 1) := by decide +kernel
theorem dX1_descentSet_2 : decode cX1_descentSet 2 = .ok (.iconst 1, 1) := by decide +kernel
theorem dX1_descentSet_3 : decode cX1_descentSet 3 = .ok (.istore_n 2, 1) := by decide +kernel
theorem dX1_descentSet_4 : decode cX1_descentSet 4 = .ok (.iload_n 2, 1) := by decide +kernel
theorem dX1_descentSet_5 : decode cX1_descentSet 5 = .ok (.bipush 9, 2) := by decide +kernel
theorem dX1_descentSet_7 : decode cX1_descentSet 7 = .ok (.if_icmp .ge 32, 3) := by decide +kernel
theorem dX1_descentSet_10 : decode cX1_descentSet 10 = .ok (.aload_n 0, 1) := by decide +kernel
theorem dX1_descentSet_11 : decode cX1_descentSet 11 = .ok (.getfield 9, 3) := by decide +kernel
theorem dX1_descentSet_14 : decode cX1_descentSet 14 = .ok (.iload_n 2, 1) := by decide +kernel
theorem dX1_descentSet_15 : decode cX1_descentSet 15 = .ok (.iaload, 1) := by decide +kernel
theorem dX1_descentSet_16 : decode cX1_descentSet 16 = .ok (.aload_n 0, 1) := by decide +kernel
theorem dX1_descentSet_17 : decode cX1_descentSet 17 = .ok (.getfield 9, 3) := by decide +kernel
theorem dX1_descentSet_20 : decode cX1_descentSet 20 = .ok (.iload_n 2, 1) := by decide +kernel
theorem dX1_descentSet_21 : decode cX1_descentSet 21 = .ok (.iconst 1, 1) := by decide +kernel
theorem dX1_descentSet_22 : decode cX1_descentSet 22 = .ok (.iadd, 1) := by decide +kernel
theorem dX1_descentSet_23 : decode cX1_descentSet 23 = .ok (.iaload, 1) := by decide +kernel
theorem dX1_descentSet_24 : decode cX1_descentSet 24 = .ok (.if_icmp .le 9, 3) := by decide +kernel
theorem dX1_descentSet_27 : decode cX1_descentSet 27 = .ok (.iload_n 1, 1) := by decide +kernel
theorem dX1_descentSet_28 : decode cX1_descentSet 28 = .ok (.iconst 1, 1) := by decide +kernel
theorem dX1_descentSet_29 : decode cX1_descentSet 29 = .ok (.iload_n 2, 1) := by decide +kernel
theorem dX1_descentSet_30 : decode cX1_descentSet 30 = .ok (.ishl, 1) := by decide +kernel
theorem dX1_descentSet_31 : decode cX1_descentSet 31 = .ok (.ior, 1) := by decide +kernel
theorem dX1_descentSet_32 : decode cX1_descentSet 32 = .ok (.istore_n 1, 1) := by decide +kernel
theorem dX1_descentSet_33 : decode cX1_descentSet 33 = .ok (.iinc 2 1, 3) := by decide +kernel
theorem dX1_descentSet_36 : decode cX1_descentSet 36 = .ok (.goto (-32), 3) := by decide +kernel
theorem dX1_descentSet_39 : decode cX1_descentSet 39 = .ok (.iload_n 1, 1) := by decide +kernel
theorem dX1_descentSet_40 : decode cX1_descentSet 40 = .ok (.ireturn, 1) := by decide +kernel
set_option maxRecDepth 20000 in
theorem ggX1_isFit_X1_lastDescent : GoodIn wsX1_isFit wsX1_lastDescent := goodIn_r _ [5, 6, 7] (by decide +kernel) (by decide +kernel)
set_option maxRecDepth 20000 in
theorem gX1_isFit_X1_lastDescent : GoodIn wsX1_isFit (wsV RX1 54 RX1 yX1_lastDescent wsX1_lastDescent) := goodIn_app (goodIn_of _ (by decide +kernel)) ggX1_isFit_X1_lastDescent
theorem dX1_isFit_0 : decode cX1_isFit 0 = .ok (.aload_n 0, 1) := by decide +kernel
theorem dX1_isFit_1 : decode cX1_isFit 1 = .ok (.invokevirtual 54, 3) := by decide +kernel
theorem dX1_isFit_4 : decode cX1_isFit 4 = .ok (.iconst 4, 1) := by decide +kernel
theorem dX1_isFit_5 : decode cX1_isFit 5 = .ok (.if_icmp .gt 7, 3) := by decide +kernel
theorem dX1_isFit_8 : decode cX1_isFit 8 = .ok (.iconst 1, 1) := by decide +kernel
theorem dX1_isFit_9 : decode cX1_isFit 9 = .ok (.goto 4, 3) := by decide +kernel
theorem dX1_isFit_12 : decode cX1_isFit 12 = .ok (.iconst 0, 1) := by decide +kernel
theorem dX1_isFit_13 : decode cX1_isFit 13 = .ok (.ireturn, 1) := by decide +kernel
theorem dX1_lastDescent_0 : decode cX1_lastDescent 0 = .ok (.iconst 0, 1) := by decide +kernel
theorem dX1_lastDescent_1 : decode cX1_lastDescent 1 = .ok (.istore_n 1, 1) := by decide +kernel
theorem dX1_lastDescent_2 : decode cX1_lastDescent 2 = .ok (.iconst 1, 1) := by decide +kernel
theorem dX1_lastDescent_3 : decode cX1_lastDescent 3 = .ok (.istore_n 2, 1) := by decide +kernel
theorem dX1_lastDescent_4 : decode cX1_lastDescent 4 = .ok (.iload_n 2, 1) := by decide +kernel
theorem dX1_lastDescent_5 : decode cX1_lastDescent 5 = .ok (.bipush 9, 2) := by decide +kernel
theorem dX1_lastDescent_7 : decode cX1_lastDescent 7 = .ok (.if_icmp .ge 28, 3) := by decide +kernel
theorem dX1_lastDescent_10 : decode cX1_lastDescent 10 = .ok (.aload_n 0, 1) := by decide +kernel
theorem dX1_lastDescent_11 : decode cX1_lastDescent 11 = .ok (.getfield 9, 3) := by decide +kernel
theorem dX1_lastDescent_14 : decode cX1_lastDescent 14 = .ok (.iload_n 2, 1) := by decide +kernel
theorem dX1_lastDescent_15 : decode cX1_lastDescent 15 = .ok (.iaload, 1) := by decide +kernel
theorem dX1_lastDescent_16 : decode cX1_lastDescent 16 = .ok (.aload_n 0, 1) := by decide +kernel
theorem dX1_lastDescent_17 : decode cX1_lastDescent 17 = .ok (.getfield 9, 3) := by decide +kernel
theorem dX1_lastDescent_20 : decode cX1_lastDescent 20 = .ok (.iload_n 2, 1) := by decide +kernel
theorem dX1_lastDescent_21 : decode cX1_lastDescent 21 = .ok (.iconst 1, 1) := by decide +kernel
theorem dX1_lastDescent_22 : decode cX1_lastDescent 22 = .ok (.iadd, 1) := by decide +kernel
theorem dX1_lastDescent_23 : decode cX1_lastDescent 23 = .ok (.iaload, 1) := by decide +kernel
theorem dX1_lastDescent_24 : decode cX1_lastDescent 24 = .ok (.if_icmp .le 5, 3) := by decide +kernel
theorem dX1_lastDescent_27 : decode cX1_lastDescent 27 = .ok (.iload_n 2, 1) := by decide +kernel
theorem dX1_lastDescent_28 : decode cX1_lastDescent 28 = .ok (.istore_n 1, 1) := by decide +kernel
theorem dX1_lastDescent_29 : decode cX1_lastDescent 29 = .ok (.iinc 2 1, 3) := by decide +kernel
theorem dX1_lastDescent_32 : decode cX1_lastDescent 32 = .ok (.goto (-28), 3) := by decide +kernel
theorem dX1_lastDescent_35 : decode cX1_lastDescent 35 = .ok (.iload_n 1, 1) := by decide +kernel
theorem dX1_lastDescent_36 : decode cX1_lastDescent 36 = .ok (.ireturn, 1) := by decide +kernel
set_option maxRecDepth 20000 in
theorem ggX1_lastLessThan_X1_digit : GoodIn wsX1_lastLessThan wsX1_digit := goodIn_r _ [6, 1, 7] (by decide +kernel) (by decide +kernel)
set_option maxRecDepth 20000 in
theorem gX1_lastLessThan_X1_digit : GoodIn wsX1_lastLessThan (wsV RX1 19 RX1 yX1_digit wsX1_digit) := goodIn_app (goodIn_of _ (by decide +kernel)) ggX1_lastLessThan_X1_digit
theorem dX1_lastLessThan_0 : decode cX1_lastLessThan 0 = .ok (.iload_n 1, 1) := by decide +kernel
theorem dX1_lastLessThan_1 : decode cX1_lastLessThan 1 = .ok (.istore_n 2, 1) := by decide +kernel
theorem dX1_lastLessThan_2 : decode cX1_lastLessThan 2 = .ok (.iconst 1, 1) := by decide +kernel
theorem dX1_lastLessThan_3 : decode cX1_lastLessThan 3 = .ok (.istore_n 3, 1) := by decide +kernel
theorem dX1_lastLessThan_4 : decode cX1_lastLessThan 4 = .ok (.iload_n 3, 1) := by decide +kernel
theorem dX1_lastLessThan_5 : decode cX1_lastLessThan 5 = .ok (.bipush 9, 2) := by decide +kernel
theorem dX1_lastLessThan_7 : decode cX1_lastLessThan 7 = .ok (.if_icmp .gt 25, 3) := by decide +kernel
theorem dX1_lastLessThan_10 : decode cX1_lastLessThan 10 = .ok (.aload_n 0, 1) := by decide +kernel
theorem dX1_lastLessThan_11 : decode cX1_lastLessThan 11 = .ok (.getfield 9, 3) := by decide +kernel
theorem dX1_lastLessThan_14 : decode cX1_lastLessThan 14 = .ok (.iload_n 3, 1) := by decide +kernel
theorem dX1_lastLessThan_15 : decode cX1_lastLessThan 15 = .ok (.iaload, 1) := by decide +kernel
theorem dX1_lastLessThan_16 : decode cX1_lastLessThan 16 = .ok (.aload_n 0, 1) := by decide +kernel
theorem dX1_lastLessThan_17 : decode cX1_lastLessThan 17 = .ok (.iload_n 1, 1) := by decide +kernel
theorem dX1_lastLessThan_18 : decode cX1_lastLessThan 18 = .ok (.invokevirtual 19, 3) := by decide +kernel
theorem dX1_lastLessThan_21 : decode cX1_lastLessThan 21 = .ok (.if_icmp .ge 5, 3) := by decide +kernel
theorem dX1_lastLessThan_24 : decode cX1_lastLessThan 24 = .ok (.iload_n 3, 1) := by decide +kernel
theorem dX1_lastLessThan_25 : decode cX1_lastLessThan 25 = .ok (.istore_n 2, 1) := by decide +kernel
theorem dX1_lastLessThan_26 : decode cX1_lastLessThan 26 = .ok (.iinc 3 1, 3) := by decide +kernel
theorem dX1_lastLessThan_29 : decode cX1_lastLessThan 29 = .ok (.goto (-25), 3) := by decide +kernel
theorem dX1_lastLessThan_32 : decode cX1_lastLessThan 32 = .ok (.iload_n 2, 1) := by decide +kernel
theorem dX1_lastLessThan_33 : decode cX1_lastLessThan 33 = .ok (.ireturn, 1) := by decide +kernel
theorem dX1_isBelow_0 : decode cX1_isBelow 0 = .ok (.iconst 1, 1) := by decide +kernel
theorem dX1_isBelow_1 : decode cX1_isBelow 1 = .ok (.istore_n 2, 1) := by decide +kernel
theorem dX1_isBelow_2 : decode cX1_isBelow 2 = .ok (.iload_n 2, 1) := by decide +kernel
theorem dX1_isBelow_3 : decode cX1_isBelow 3 = .ok (.bipush 9, 2) := by decide +kernel
theorem dX1_isBelow_5 : decode cX1_isBelow 5 = .ok (.if_icmp .gt 71, 3) := by decide +kernel
theorem dX1_isBelow_8 : decode cX1_isBelow 8 = .ok (.iconst 0, 1) := by decide +kernel
theorem dX1_isBelow_9 : decode cX1_isBelow 9 = .ok (.istore_n 3, 1) := by decide +kernel
theorem dX1_isBelow_10 : decode cX1_isBelow 10 = .ok (.iconst 1, 1) := by decide +kernel
theorem dX1_isBelow_11 : decode cX1_isBelow 11 = .ok (.istore 4, 2) := by decide +kernel
theorem dX1_isBelow_13 : decode cX1_isBelow 13 = .ok (.iload 4, 2) := by decide +kernel
theorem dX1_isBelow_15 : decode cX1_isBelow 15 = .ok (.bipush 9, 2) := by decide +kernel
theorem dX1_isBelow_17 : decode cX1_isBelow 17 = .ok (.if_icmp .gt 53, 3) := by decide +kernel
theorem dX1_isBelow_20 : decode cX1_isBelow 20 = .ok (.iload_n 3, 1) := by decide +kernel
theorem dX1_isBelow_21 : decode cX1_isBelow 21 = .ok (.aload_n 0, 1) := by decide +kernel
theorem dX1_isBelow_22 : decode cX1_isBelow 22 = .ok (.getfield 9, 3) := by decide +kernel
theorem dX1_isBelow_25 : decode cX1_isBelow 25 = .ok (.iload 4, 2) := by decide +kernel
theorem dX1_isBelow_27 : decode cX1_isBelow 27 = .ok (.iaload, 1) := by decide +kernel
theorem dX1_isBelow_28 : decode cX1_isBelow 28 = .ok (.iload_n 2, 1) := by decide +kernel
theorem dX1_isBelow_29 : decode cX1_isBelow 29 = .ok (.if_icmp .lt 7, 3) := by decide +kernel
theorem dX1_isBelow_32 : decode cX1_isBelow 32 = .ok (.iconst 1, 1) := by decide +kernel
theorem dX1_isBelow_33 : decode cX1_isBelow 33 = .ok (.goto 4, 3) := by decide +kernel
theorem dX1_isBelow_36 : decode cX1_isBelow 36 = .ok (.iconst 0, 1) := by decide +kernel
theorem dX1_isBelow_37 : decode cX1_isBelow 37 = .ok (.iadd, 1) := by decide +kernel
theorem dX1_isBelow_38 : decode cX1_isBelow 38 = .ok (.istore_n 3, 1) := by decide +kernel
theorem dX1_isBelow_39 : decode cX1_isBelow 39 = .ok (.iload_n 3, 1) := by decide +kernel
theorem dX1_isBelow_40 : decode cX1_isBelow 40 = .ok (.aload_n 1, 1) := by decide +kernel
theorem dX1_isBelow_41 : decode cX1_isBelow 41 = .ok (.getfield 9, 3) := by decide +kernel
theorem dX1_isBelow_44 : decode cX1_isBelow 44 = .ok (.iload 4, 2) := by decide +kernel
theorem dX1_isBelow_46 : decode cX1_isBelow 46 = .ok (.iaload, 1) := by decide +kernel
theorem dX1_isBelow_47 : decode cX1_isBelow 47 = .ok (.iload_n 2, 1) := by decide +kernel
theorem dX1_isBelow_48 : decode cX1_isBelow 48 = .ok (.if_icmp .lt 7, 3) := by decide +kernel
theorem dX1_isBelow_51 : decode cX1_isBelow 51 = .ok (.iconst 1, 1) := by decide +kernel
theorem dX1_isBelow_52 : decode cX1_isBelow 52 = .ok (.goto 4, 3) := by decide +kernel
theorem dX1_isBelow_55 : decode cX1_isBelow 55 = .ok (.iconst 0, 1) := by decide +kernel
theorem dX1_isBelow_56 : decode cX1_isBelow 56 = .ok (.isub, 1) := by decide +kernel
theorem dX1_isBelow_57 : decode cX1_isBelow 57 = .ok (.istore_n 3, 1) := by decide +kernel
theorem dX1_isBelow_58 : decode cX1_isBelow 58 = .ok (.iload_n 3, 1) := by decide +kernel
theorem dX1_isBelow_59 : decode cX1_isBelow 59 = .ok (.ifCond .le 5, 3) := by decide +kernel
theorem dX1_isBelow_62 : decode cX1_isBelow 62 = .ok (.iconst 0, 1) := by decide +kernel
theorem dX1_isBelow_63 : decode cX1_isBelow 63 = .ok (.ireturn, 1) := by decide +kernel
theorem dX1_isBelow_64 : decode cX1_isBelow 64 = .ok (.iinc 4 1, 3) := by decide +kernel
theorem dX1_isBelow_67 : decode cX1_isBelow 67 = .ok (.goto (-54), 3) := by decide +kernel
theorem dX1_isBelow_70 : decode cX1_isBelow 70 = .ok (.iinc 2 1, 3) := by decide +kernel
theorem dX1_isBelow_73 : decode cX1_isBelow 73 = .ok (.goto (-71), 3) := by decide +kernel
theorem dX1_isBelow_76 : decode cX1_isBelow 76 = .ok (.iconst 1, 1) := by decide +kernel
theorem dX1_isBelow_77 : decode cX1_isBelow 77 = .ok (.ireturn, 1) := by decide +kernel
set_option maxRecDepth 20000 in
theorem ggX1_hasLeastGreatestMiddle_X1_leastAhead : GoodIn wsX1_hasLeastGreatestMiddle wsX1_leastAhead := goodIn_r _ [6, 7, 8, 9, 10, 11, 12, 13, 5, 14, 1, 15] (by decide +kernel) (by decide +kernel)
set_option maxRecDepth 20000 in
theorem gX1_hasLeastGreatestMiddle_X1_leastAhead : GoodIn wsX1_hasLeastGreatestMiddle (wsV RX1 57 RX1 yX1_leastAhead wsX1_leastAhead) := goodIn_app (goodIn_of _ (by decide +kernel)) ggX1_hasLeastGreatestMiddle_X1_leastAhead
theorem dX1_hasLeastGreatestMiddle_0 : decode cX1_hasLeastGreatestMiddle 0 = .ok (.iconst 2, 1) := by decide +kernel
theorem dX1_hasLeastGreatestMiddle_1 : decode cX1_hasLeastGreatestMiddle 1 = .ok (.istore_n 1, 1) := by decide +kernel
theorem dX1_hasLeastGreatestMiddle_2 : decode cX1_hasLeastGreatestMiddle 2 = .ok (.iload_n 1, 1) := by decide +kernel
theorem dX1_hasLeastGreatestMiddle_3 : decode cX1_hasLeastGreatestMiddle 3 = .ok (.bipush 9, 2) := by decide +kernel
theorem dX1_hasLeastGreatestMiddle_5 : decode cX1_hasLeastGreatestMiddle 5 = .ok (.if_icmp .ge 56, 3) := by decide +kernel
theorem dX1_hasLeastGreatestMiddle_8 : decode cX1_hasLeastGreatestMiddle 8 = .ok (.iload_n 1, 1) := by decide +kernel
theorem dX1_hasLeastGreatestMiddle_9 : decode cX1_hasLeastGreatestMiddle 9 = .ok (.iconst 1, 1) := by decide +kernel
theorem dX1_hasLeastGreatestMiddle_10 : decode cX1_hasLeastGreatestMiddle 10 = .ok (.iadd, 1) := by decide +kernel
theorem dX1_hasLeastGreatestMiddle_11 : decode cX1_hasLeastGreatestMiddle 11 = .ok (.istore_n 2, 1) := by decide +kernel
theorem dX1_hasLeastGreatestMiddle_12 : decode cX1_hasLeastGreatestMiddle 12 = .ok (.iload_n 2, 1) := by decide +kernel
theorem dX1_hasLeastGreatestMiddle_13 : decode cX1_hasLeastGreatestMiddle 13 = .ok (.bipush 9, 2) := by decide +kernel
theorem dX1_hasLeastGreatestMiddle_15 : decode cX1_hasLeastGreatestMiddle 15 = .ok (.if_icmp .gt 40, 3) := by decide +kernel
theorem dX1_hasLeastGreatestMiddle_18 : decode cX1_hasLeastGreatestMiddle 18 = .ok (.aload_n 0, 1) := by decide +kernel
theorem dX1_hasLeastGreatestMiddle_19 : decode cX1_hasLeastGreatestMiddle 19 = .ok (.getfield 9, 3) := by decide +kernel
theorem dX1_hasLeastGreatestMiddle_22 : decode cX1_hasLeastGreatestMiddle 22 = .ok (.iload_n 2, 1) := by decide +kernel
theorem dX1_hasLeastGreatestMiddle_23 : decode cX1_hasLeastGreatestMiddle 23 = .ok (.iaload, 1) := by decide +kernel
theorem dX1_hasLeastGreatestMiddle_24 : decode cX1_hasLeastGreatestMiddle 24 = .ok (.aload_n 0, 1) := by decide +kernel
theorem dX1_hasLeastGreatestMiddle_25 : decode cX1_hasLeastGreatestMiddle 25 = .ok (.getfield 9, 3) := by decide +kernel
theorem dX1_hasLeastGreatestMiddle_28 : decode cX1_hasLeastGreatestMiddle 28 = .ok (.iload_n 1, 1) := by decide +kernel
theorem dX1_hasLeastGreatestMiddle_29 : decode cX1_hasLeastGreatestMiddle 29 = .ok (.iaload, 1) := by decide +kernel
theorem dX1_hasLeastGreatestMiddle_30 : decode cX1_hasLeastGreatestMiddle 30 = .ok (.if_icmp .ge 19, 3) := by decide +kernel
theorem dX1_hasLeastGreatestMiddle_33 : decode cX1_hasLeastGreatestMiddle 33 = .ok (.aload_n 0, 1) := by decide +kernel
theorem dX1_hasLeastGreatestMiddle_34 : decode cX1_hasLeastGreatestMiddle 34 = .ok (.iload_n 1, 1) := by decide +kernel
theorem dX1_hasLeastGreatestMiddle_35 : decode cX1_hasLeastGreatestMiddle 35 = .ok (.invokevirtual 57, 3) := by decide +kernel
theorem dX1_hasLeastGreatestMiddle_38 : decode cX1_hasLeastGreatestMiddle 38 = .ok (.aload_n 0, 1) := by decide +kernel
theorem dX1_hasLeastGreatestMiddle_39 : decode cX1_hasLeastGreatestMiddle 39 = .ok (.getfield 9, 3) := by decide +kernel
theorem dX1_hasLeastGreatestMiddle_42 : decode cX1_hasLeastGreatestMiddle 42 = .ok (.iload_n 2, 1) := by decide +kernel
theorem dX1_hasLeastGreatestMiddle_43 : decode cX1_hasLeastGreatestMiddle 43 = .ok (.iaload, 1) := by decide +kernel
theorem dX1_hasLeastGreatestMiddle_44 : decode cX1_hasLeastGreatestMiddle 44 = .ok (.if_icmp .ge 5, 3) := by decide +kernel
theorem dX1_hasLeastGreatestMiddle_47 : decode cX1_hasLeastGreatestMiddle 47 = .ok (.iconst 1, 1) := by decide +kernel
theorem dX1_hasLeastGreatestMiddle_48 : decode cX1_hasLeastGreatestMiddle 48 = .ok (.ireturn, 1) := by decide +kernel
theorem dX1_hasLeastGreatestMiddle_49 : decode cX1_hasLeastGreatestMiddle 49 = .ok (.iinc 2 1, 3) := by decide +kernel
theorem dX1_hasLeastGreatestMiddle_52 : decode cX1_hasLeastGreatestMiddle 52 = .ok (.goto (-40), 3) := by decide +kernel
theorem dX1_hasLeastGreatestMiddle_55 : decode cX1_hasLeastGreatestMiddle 55 = .ok (.iinc 1 1, 3) := by decide +kernel
theorem dX1_hasLeastGreatestMiddle_58 : decode cX1_hasLeastGreatestMiddle 58 = .ok (.goto (-56), 3) := by decide +kernel
theorem dX1_hasLeastGreatestMiddle_61 : decode cX1_hasLeastGreatestMiddle 61 = .ok (.iconst 0, 1) := by decide +kernel
theorem dX1_hasLeastGreatestMiddle_62 : decode cX1_hasLeastGreatestMiddle 62 = .ok (.ireturn, 1) := by decide +kernel
set_option maxRecDepth 20000 in
theorem ggX1_leastAhead_X1_digit : GoodIn wsX1_leastAhead wsX1_digit := goodIn_r _ [9, 10, 11] (by decide +kernel) (by decide +kernel)
set_option maxRecDepth 20000 in
theorem gX1_leastAhead_X1_digit : GoodIn wsX1_leastAhead (wsV RX1 19 RX1 yX1_digit wsX1_digit) := goodIn_app (goodIn_of _ (by decide +kernel)) ggX1_leastAhead_X1_digit
theorem dX1_leastAhead_0 : decode cX1_leastAhead 0 = .ok (.bipush 10, 2) := by decide +kernel
theorem dX1_leastAhead_2 : decode cX1_leastAhead 2 = .ok (.istore_n 2, 1) := by decide +kernel
theorem dX1_leastAhead_3 : decode cX1_leastAhead 3 = .ok (.iconst 1, 1) := by decide +kernel
theorem dX1_leastAhead_4 : decode cX1_leastAhead 4 = .ok (.istore_n 3, 1) := by decide +kernel
theorem dX1_leastAhead_5 : decode cX1_leastAhead 5 = .ok (.iload_n 3, 1) := by decide +kernel
theorem dX1_leastAhead_6 : decode cX1_leastAhead 6 = .ok (.iload_n 1, 1) := by decide +kernel
theorem dX1_leastAhead_7 : decode cX1_leastAhead 7 = .ok (.if_icmp .ge 19, 3) := by decide +kernel
theorem dX1_leastAhead_10 : decode cX1_leastAhead 10 = .ok (.iload_n 2, 1) := by decide +kernel
theorem dX1_leastAhead_11 : decode cX1_leastAhead 11 = .ok (.aload_n 0, 1) := by decide +kernel
theorem dX1_leastAhead_12 : decode cX1_leastAhead 12 = .ok (.iload_n 3, 1) := by decide +kernel
theorem dX1_leastAhead_13 : decode cX1_leastAhead 13 = .ok (.invokevirtual 19, 3) := by decide +kernel
theorem dX1_leastAhead_16 : decode cX1_leastAhead 16 = .ok (.invokestatic 60, 3) := by decide +kernel
theorem dX1_leastAhead_19 : decode cX1_leastAhead 19 = .ok (.istore_n 2, 1) := by decide +kernel
theorem dX1_leastAhead_20 : decode cX1_leastAhead 20 = .ok (.iinc 3 1, 3) := by decide +kernel
theorem dX1_leastAhead_23 : decode cX1_leastAhead 23 = .ok (.goto (-18), 3) := by decide +kernel
theorem dX1_leastAhead_26 : decode cX1_leastAhead 26 = .ok (.iload_n 2, 1) := by decide +kernel
theorem dX1_leastAhead_27 : decode cX1_leastAhead 27 = .ok (.ireturn, 1) := by decide +kernel
set_option maxRecDepth 20000 in
theorem ggX1_hasTwoOneFourThree_X1_hasFallAhead : GoodIn wsX1_hasTwoOneFourThree wsX1_hasFallAhead := goodIn_r _ [6, 7, 8, 9, 10, 11, 12, 13, 5, 14, 1, 15] (by decide +kernel) (by decide +kernel)
set_option maxRecDepth 20000 in
theorem gX1_hasTwoOneFourThree_X1_hasFallAhead : GoodIn wsX1_hasTwoOneFourThree (wsV RX1 65 RX1 yX1_hasFallAhead wsX1_hasFallAhead) := goodIn_app (goodIn_of _ (by decide +kernel)) ggX1_hasTwoOneFourThree_X1_hasFallAhead
theorem dX1_hasTwoOneFourThree_0 : decode cX1_hasTwoOneFourThree 0 = .ok (.iconst 3, 1) := by decide +kernel
theorem dX1_hasTwoOneFourThree_1 : decode cX1_hasTwoOneFourThree 1 = .ok (.istore_n 1, 1) := by decide +kernel
theorem dX1_hasTwoOneFourThree_2 : decode cX1_hasTwoOneFourThree 2 = .ok (.iload_n 1, 1) := by decide +kernel
theorem dX1_hasTwoOneFourThree_3 : decode cX1_hasTwoOneFourThree 3 = .ok (.bipush 9, 2) := by decide +kernel
theorem dX1_hasTwoOneFourThree_5 : decode cX1_hasTwoOneFourThree 5 = .ok (.if_icmp .ge 56, 3) := by decide +kernel
theorem dX1_hasTwoOneFourThree_8 : decode cX1_hasTwoOneFourThree 8 = .ok (.iload_n 1, 1) := by decide +kernel
theorem dX1_hasTwoOneFourThree_9 : decode cX1_hasTwoOneFourThree 9 = .ok (.iconst 1, 1) := by decide +kernel
theorem dX1_hasTwoOneFourThree_10 : decode cX1_hasTwoOneFourThree 10 = .ok (.iadd, 1) := by decide +kernel
theorem dX1_hasTwoOneFourThree_11 : decode cX1_hasTwoOneFourThree 11 = .ok (.istore_n 2, 1) := by decide +kernel
theorem dX1_hasTwoOneFourThree_12 : decode cX1_hasTwoOneFourThree 12 = .ok (.iload_n 2, 1) := by decide +kernel
theorem dX1_hasTwoOneFourThree_13 : decode cX1_hasTwoOneFourThree 13 = .ok (.bipush 9, 2) := by decide +kernel
theorem dX1_hasTwoOneFourThree_15 : decode cX1_hasTwoOneFourThree 15 = .ok (.if_icmp .gt 40, 3) := by decide +kernel
theorem dX1_hasTwoOneFourThree_18 : decode cX1_hasTwoOneFourThree 18 = .ok (.aload_n 0, 1) := by decide +kernel
theorem dX1_hasTwoOneFourThree_19 : decode cX1_hasTwoOneFourThree 19 = .ok (.getfield 9, 3) := by decide +kernel
theorem dX1_hasTwoOneFourThree_22 : decode cX1_hasTwoOneFourThree 22 = .ok (.iload_n 2, 1) := by decide +kernel
theorem dX1_hasTwoOneFourThree_23 : decode cX1_hasTwoOneFourThree 23 = .ok (.iaload, 1) := by decide +kernel
theorem dX1_hasTwoOneFourThree_24 : decode cX1_hasTwoOneFourThree 24 = .ok (.aload_n 0, 1) := by decide +kernel
theorem dX1_hasTwoOneFourThree_25 : decode cX1_hasTwoOneFourThree 25 = .ok (.getfield 9, 3) := by decide +kernel
theorem dX1_hasTwoOneFourThree_28 : decode cX1_hasTwoOneFourThree 28 = .ok (.iload_n 1, 1) := by decide +kernel
theorem dX1_hasTwoOneFourThree_29 : decode cX1_hasTwoOneFourThree 29 = .ok (.iaload, 1) := by decide +kernel
theorem dX1_hasTwoOneFourThree_30 : decode cX1_hasTwoOneFourThree 30 = .ok (.if_icmp .ge 19, 3) := by decide +kernel
theorem dX1_hasTwoOneFourThree_33 : decode cX1_hasTwoOneFourThree 33 = .ok (.aload_n 0, 1) := by decide +kernel
theorem dX1_hasTwoOneFourThree_34 : decode cX1_hasTwoOneFourThree 34 = .ok (.iload_n 1, 1) := by decide +kernel
theorem dX1_hasTwoOneFourThree_35 : decode cX1_hasTwoOneFourThree 35 = .ok (.aload_n 0, 1) := by decide +kernel
theorem dX1_hasTwoOneFourThree_36 : decode cX1_hasTwoOneFourThree 36 = .ok (.getfield 9, 3) := by decide +kernel
theorem dX1_hasTwoOneFourThree_39 : decode cX1_hasTwoOneFourThree 39 = .ok (.iload_n 2, 1) := by decide +kernel
theorem dX1_hasTwoOneFourThree_40 : decode cX1_hasTwoOneFourThree 40 = .ok (.iaload, 1) := by decide +kernel
theorem dX1_hasTwoOneFourThree_41 : decode cX1_hasTwoOneFourThree 41 = .ok (.invokevirtual 65, 3) := by decide +kernel
theorem dX1_hasTwoOneFourThree_44 : decode cX1_hasTwoOneFourThree 44 = .ok (.ifCond .eq 5, 3) := by decide +kernel
theorem dX1_hasTwoOneFourThree_47 : decode cX1_hasTwoOneFourThree 47 = .ok (.iconst 1, 1) := by decide +kernel
theorem dX1_hasTwoOneFourThree_48 : decode cX1_hasTwoOneFourThree 48 = .ok (.ireturn, 1) := by decide +kernel
theorem dX1_hasTwoOneFourThree_49 : decode cX1_hasTwoOneFourThree 49 = .ok (.iinc 2 1, 3) := by decide +kernel
theorem dX1_hasTwoOneFourThree_52 : decode cX1_hasTwoOneFourThree 52 = .ok (.goto (-40), 3) := by decide +kernel
theorem dX1_hasTwoOneFourThree_55 : decode cX1_hasTwoOneFourThree 55 = .ok (.iinc 1 1, 3) := by decide +kernel
theorem dX1_hasTwoOneFourThree_58 : decode cX1_hasTwoOneFourThree 58 = .ok (.goto (-56), 3) := by decide +kernel
theorem dX1_hasTwoOneFourThree_61 : decode cX1_hasTwoOneFourThree 61 = .ok (.iconst 0, 1) := by decide +kernel
theorem dX1_hasTwoOneFourThree_62 : decode cX1_hasTwoOneFourThree 62 = .ok (.ireturn, 1) := by decide +kernel
set_option maxRecDepth 20000 in
theorem ggX1_hasFallAhead_X1_digit : GoodIn wsX1_hasFallAhead wsX1_digit := goodIn_r _ [9, 10, 11] (by decide +kernel) (by decide +kernel)
set_option maxRecDepth 20000 in
theorem gX1_hasFallAhead_X1_digit : GoodIn wsX1_hasFallAhead (wsV RX1 19 RX1 yX1_digit wsX1_digit) := goodIn_app (goodIn_of _ (by decide +kernel)) ggX1_hasFallAhead_X1_digit
theorem dX1_hasFallAhead_0 : decode cX1_hasFallAhead 0 = .ok (.iconst 0, 1) := by decide +kernel
theorem dX1_hasFallAhead_1 : decode cX1_hasFallAhead 1 = .ok (.istore_n 3, 1) := by decide +kernel
theorem dX1_hasFallAhead_2 : decode cX1_hasFallAhead 2 = .ok (.iconst 1, 1) := by decide +kernel
theorem dX1_hasFallAhead_3 : decode cX1_hasFallAhead 3 = .ok (.istore 4, 2) := by decide +kernel
theorem dX1_hasFallAhead_5 : decode cX1_hasFallAhead 5 = .ok (.iload 4, 2) := by decide +kernel
theorem dX1_hasFallAhead_7 : decode cX1_hasFallAhead 7 = .ok (.iload_n 1, 1) := by decide +kernel
theorem dX1_hasFallAhead_8 : decode cX1_hasFallAhead 8 = .ok (.if_icmp .ge 38, 3) := by decide +kernel
theorem dX1_hasFallAhead_11 : decode cX1_hasFallAhead 11 = .ok (.aload_n 0, 1) := by decide +kernel
theorem dX1_hasFallAhead_12 : decode cX1_hasFallAhead 12 = .ok (.iload 4, 2) := by decide +kernel
theorem dX1_hasFallAhead_14 : decode cX1_hasFallAhead 14 = .ok (.invokevirtual 19, 3) := by decide +kernel
theorem dX1_hasFallAhead_17 : decode cX1_hasFallAhead 17 = .ok (.istore 5, 2) := by decide +kernel
theorem dX1_hasFallAhead_19 : decode cX1_hasFallAhead 19 = .ok (.iload 5, 2) := by decide +kernel
theorem dX1_hasFallAhead_21 : decode cX1_hasFallAhead 21 = .ok (.iload_n 3, 1) := by decide +kernel
theorem dX1_hasFallAhead_22 : decode cX1_hasFallAhead 22 = .ok (.if_icmp .ge 5, 3) := by decide +kernel
theorem dX1_hasFallAhead_25 : decode cX1_hasFallAhead 25 = .ok (.iconst 1, 1) := by decide +kernel
theorem dX1_hasFallAhead_26 : decode cX1_hasFallAhead 26 = .ok (.ireturn, 1) := by decide +kernel
theorem dX1_hasFallAhead_27 : decode cX1_hasFallAhead 27 = .ok (.iload 5, 2) := by decide +kernel
theorem dX1_hasFallAhead_29 : decode cX1_hasFallAhead 29 = .ok (.iload_n 2, 1) := by decide +kernel
theorem dX1_hasFallAhead_30 : decode cX1_hasFallAhead 30 = .ok (.if_icmp .ge 10, 3) := by decide +kernel
theorem dX1_hasFallAhead_33 : decode cX1_hasFallAhead 33 = .ok (.iload_n 3, 1) := by decide +kernel
theorem dX1_hasFallAhead_34 : decode cX1_hasFallAhead 34 = .ok (.iload 5, 2) := by decide +kernel
theorem dX1_hasFallAhead_36 : decode cX1_hasFallAhead 36 = .ok (.invokestatic 69, 3) := by decide +kernel
theorem dX1_hasFallAhead_39 : decode cX1_hasFallAhead 39 = .ok (.istore_n 3, 1) := by decide +kernel
theorem dX1_hasFallAhead_40 : decode cX1_hasFallAhead 40 = .ok (.iinc 4 1, 3) := by decide +kernel
theorem dX1_hasFallAhead_43 : decode cX1_hasFallAhead 43 = .ok (.goto (-38), 3) := by decide +kernel
theorem dX1_hasFallAhead_46 : decode cX1_hasFallAhead 46 = .ok (.iconst 0, 1) := by decide +kernel
theorem dX1_hasFallAhead_47 : decode cX1_hasFallAhead 47 = .ok (.ireturn, 1) := by decide +kernel
theorem dX2_init_0 : decode cX2_init 0 = .ok (.aload_n 0, 1) := by decide +kernel
theorem dX2_init_1 : decode cX2_init 1 = .ok (.invokespecial 3, 3) := by decide +kernel
theorem dX2_init_4 : decode cX2_init 4 = .ok (.aload_n 0, 1) := by decide +kernel
theorem dX2_init_5 : decode cX2_init 5 = .ok (.sipush 3024, 3) := by decide +kernel
theorem dX2_init_8 : decode cX2_init 8 = .ok (.newarray .long, 2) := by decide +kernel
theorem dX2_init_10 : decode cX2_init 10 = .ok (.putfield 9, 3) := by decide +kernel
theorem dX2_init_13 : decode cX2_init 13 = .ok (.aload_n 0, 1) := by decide +kernel
theorem dX2_init_14 : decode cX2_init 14 = .ok (.iconst 5, 1) := by decide +kernel
theorem dX2_init_15 : decode cX2_init 15 = .ok (.newarray .int, 2) := by decide +kernel
theorem dX2_init_17 : decode cX2_init 17 = .ok (.putfield 15, 3) := by decide +kernel
theorem dX2_init_20 : decode cX2_init 20 = .ok (.return_, 1) := by decide +kernel
theorem dX2_at_0 : decode cX2_at 0 = .ok (.iload_n 1, 1) := by decide +kernel
theorem dX2_at_1 : decode cX2_at 1 = .ok (.ifCond .lt 19, 3) := by decide +kernel
theorem dX2_at_4 : decode cX2_at 4 = .ok (.iload_n 1, 1) := by decide +kernel
theorem dX2_at_5 : decode cX2_at 5 = .ok (.sipush 3024, 3) := by decide +kernel
theorem dX2_at_8 : decode cX2_at 8 = .ok (.if_icmp .ge 12, 3) := by decide +kernel
theorem dX2_at_11 : decode cX2_at 11 = .ok (.aload_n 0, 1) := by decide +kernel
theorem dX2_at_12 : decode cX2_at 12 = .ok (.getfield 9, 3) := by decide +kernel
theorem dX2_at_15 : decode cX2_at 15 = .ok (.iload_n 1, 1) := by decide +kernel
theorem dX2_at_16 : decode cX2_at 16 = .ok (.laload, 1) := by decide +kernel
theorem dX2_at_17 : decode cX2_at 17 = .ok (.goto 4, 3) := by decide +kernel
theorem dX2_at_20 : decode cX2_at 20 = .ok (.lconst 0, 1) := by decide +kernel
theorem dX2_at_21 : decode cX2_at 21 = .ok (.lreturn, 1) := by decide +kernel
set_option maxRecDepth 20000 in
theorem ggX2_clear_J7_fill_d0a16 : GoodIn wsX2_clear wsJ7_fill_d0a16 := goodIn_r _ [5] (by decide +kernel) (by decide +kernel)
set_option maxRecDepth 20000 in
theorem gX2_clear_J7_fill_d0a16 : GoodIn wsX2_clear (va_wsS RX2 19 yJ7_fill_d0a16 wsJ7_fill_d0a16) := goodIn_app (goodIn_of _ (by decide +kernel)) ggX2_clear_J7_fill_d0a16
theorem dX2_clear_0 : decode cX2_clear 0 = .ok (.aload_n 0, 1) := by decide +kernel
theorem dX2_clear_1 : decode cX2_clear 1 = .ok (.getfield 9, 3) := by decide +kernel
theorem dX2_clear_4 : decode cX2_clear 4 = .ok (.lconst 0, 1) := by decide +kernel
theorem dX2_clear_5 : decode cX2_clear 5 = .ok (.invokestatic 19, 3) := by decide +kernel
theorem dX2_clear_8 : decode cX2_clear 8 = .ok (.return_, 1) := by decide +kernel
theorem dX2_copy_0 : decode cX2_copy 0 = .ok (.aload_n 1, 1) := by decide +kernel
theorem dX2_copy_1 : decode cX2_copy 1 = .ok (.getfield 9, 3) := by decide +kernel
theorem dX2_copy_4 : decode cX2_copy 4 = .ok (.iconst 0, 1) := by decide +kernel
theorem dX2_copy_5 : decode cX2_copy 5 = .ok (.aload_n 0, 1) := by decide +kernel
theorem dX2_copy_6 : decode cX2_copy 6 = .ok (.getfield 9, 3) := by decide +kernel
theorem dX2_copy_9 : decode cX2_copy 9 = .ok (.iconst 0, 1) := by decide +kernel
theorem dX2_copy_10 : decode cX2_copy 10 = .ok (.sipush 3024, 3) := by decide +kernel
theorem dX2_copy_13 : decode cX2_copy 13 = .ok (.invokestatic 25, 3) := by decide +kernel
theorem dX2_copy_16 : decode cX2_copy 16 = .ok (.return_, 1) := by decide +kernel
theorem dX2_filled_0 : decode cX2_filled 0 = .ok (.iconst 0, 1) := by decide +kernel
theorem dX2_filled_1 : decode cX2_filled 1 = .ok (.istore_n 1, 1) := by decide +kernel
theorem dX2_filled_2 : decode cX2_filled 2 = .ok (.iconst 0, 1) := by decide +kernel
theorem dX2_filled_3 : decode cX2_filled 3 = .ok (.istore_n 2, 1) := by decide +kernel
theorem dX2_filled_4 : decode cX2_filled 4 = .ok (.iload_n 2, 1) := by decide +kernel
theorem dX2_filled_5 : decode cX2_filled 5 = .ok (.sipush 3024, 3) := by decide +kernel
theorem dX2_filled_8 : decode cX2_filled 8 = .ok (.if_icmp .ge 23, 3) := by decide +kernel
theorem dX2_filled_11 : decode cX2_filled 11 = .ok (.aload_n 0, 1) := by decide +kernel
theorem dX2_filled_12 : decode cX2_filled 12 = .ok (.getfield 9, 3) := by decide +kernel
theorem dX2_filled_15 : decode cX2_filled 15 = .ok (.iload_n 2, 1) := by decide +kernel
theorem dX2_filled_16 : decode cX2_filled 16 = .ok (.laload, 1) := by decide +kernel
theorem dX2_filled_17 : decode cX2_filled 17 = .ok (.lconst 0, 1) := by decide +kernel
theorem dX2_filled_18 : decode cX2_filled 18 = .ok (.lcmp, 1) := by decide +kernel
theorem dX2_filled_19 : decode cX2_filled 19 = .ok (.ifCond .eq 6, 3) := by decide +kernel
theorem dX2_filled_22 : decode cX2_filled 22 = .ok (.iinc 1 1, 3) := by decide +kernel
theorem dX2_filled_25 : decode cX2_filled 25 = .ok (.iinc 2 1, 3) := by decide +kernel
theorem dX2_filled_28 : decode cX2_filled 28 = .ok (.goto (-24), 3) := by decide +kernel
theorem dX2_filled_31 : decode cX2_filled 31 = .ok (.iload_n 1, 1) := by decide +kernel
theorem dX2_filled_32 : decode cX2_filled 32 = .ok (.ireturn, 1) := by decide +kernel
theorem dX2_isWithinLimit_0 : decode cX2_isWithinLimit 0 = .ok (.iconst 0, 1) := by decide +kernel
theorem dX2_isWithinLimit_1 : decode cX2_isWithinLimit 1 = .ok (.istore_n 1, 1) := by decide +kernel
theorem dX2_isWithinLimit_2 : decode cX2_isWithinLimit 2 = .ok (.iload_n 1, 1) := by decide +kernel
theorem dX2_isWithinLimit_3 : decode cX2_isWithinLimit 3 = .ok (.sipush 3024, 3) := by decide +kernel
theorem dX2_isWithinLimit_6 : decode cX2_isWithinLimit 6 = .ok (.if_icmp .ge 37, 3) := by decide +kernel
theorem dX2_isWithinLimit_9 : decode cX2_isWithinLimit 9 = .ok (.aload_n 0, 1) := by decide +kernel
theorem dX2_isWithinLimit_10 : decode cX2_isWithinLimit 10 = .ok (.getfield 9, 3) := by decide +kernel
theorem dX2_isWithinLimit_13 : decode cX2_isWithinLimit 13 = .ok (.iload_n 1, 1) := by decide +kernel
theorem dX2_isWithinLimit_14 : decode cX2_isWithinLimit 14 = .ok (.laload, 1) := by decide +kernel
theorem dX2_isWithinLimit_15 : decode cX2_isWithinLimit 15 = .ok (.ldc2_w 31, 3) := by decide +kernel
theorem dX2_isWithinLimit_18 : decode cX2_isWithinLimit 18 = .ok (.lcmp, 1) := by decide +kernel
theorem dX2_isWithinLimit_19 : decode cX2_isWithinLimit 19 = .ok (.ifCond .gt 16, 3) := by decide +kernel
theorem dX2_isWithinLimit_22 : decode cX2_isWithinLimit 22 = .ok (.aload_n 0, 1) := by decide +kernel
theorem dX2_isWithinLimit_23 : decode cX2_isWithinLimit 23 = .ok (.getfield 9, 3) := by decide +kernel
theorem dX2_isWithinLimit_26 : decode cX2_isWithinLimit 26 = .ok (.iload_n 1, 1) := by decide +kernel
theorem dX2_isWithinLimit_27 : decode cX2_isWithinLimit 27 = .ok (.laload, 1) := by decide +kernel
theorem dX2_isWithinLimit_28 : decode cX2_isWithinLimit 28 = .ok (.ldc2_w 33, 3) := by decide +kernel
theorem dX2_isWithinLimit_31 : decode cX2_isWithinLimit 31 = .ok (.lcmp, 1) := by decide +kernel
theorem dX2_isWithinLimit_32 : decode cX2_isWithinLimit 32 = .ok (.ifCond .ge 5, 3) := by decide +kernel
theorem dX2_isWithinLimit_35 : decode cX2_isWithinLimit 35 = .ok (.iconst 0, 1) := by decide +kernel
theorem dX2_isWithinLimit_36 : decode cX2_isWithinLimit 36 = .ok (.ireturn, 1) := by decide +kernel
theorem dX2_isWithinLimit_37 : decode cX2_isWithinLimit 37 = .ok (.iinc 1 1, 3) := by decide +kernel
theorem dX2_isWithinLimit_40 : decode cX2_isWithinLimit 40 = .ok (.goto (-38), 3) := by decide +kernel
theorem dX2_isWithinLimit_43 : decode cX2_isWithinLimit 43 = .ok (.iconst 1, 1) := by decide +kernel
theorem dX2_isWithinLimit_44 : decode cX2_isWithinLimit 44 = .ok (.ireturn, 1) := by decide +kernel
theorem dX2_addTimes_0 : decode cX2_addTimes 0 = .ok (.iconst 0, 1) := by decide +kernel
theorem dX2_addTimes_1 : decode cX2_addTimes 1 = .ok (.istore 5, 2) := by decide +kernel
theorem dX2_addTimes_3 : decode cX2_addTimes 3 = .ok (.iload 5, 2) := by decide +kernel
theorem dX2_addTimes_5 : decode cX2_addTimes 5 = .ok (.iload 4, 2) := by decide +kernel
theorem dX2_addTimes_7 : decode cX2_addTimes 7 = .ok (.if_icmp .ge 36, 3) := by decide +kernel
theorem dX2_addTimes_10 : decode cX2_addTimes 10 = .ok (.iload 5, 2) := by decide +kernel
theorem dX2_addTimes_12 : decode cX2_addTimes 12 = .ok (.sipush 3024, 3) := by decide +kernel
theorem dX2_addTimes_15 : decode cX2_addTimes 15 = .ok (.if_icmp .ge 28, 3) := by decide +kernel
theorem dX2_addTimes_18 : decode cX2_addTimes 18 = .ok (.aload_n 0, 1) := by decide +kernel
theorem dX2_addTimes_19 : decode cX2_addTimes 19 = .ok (.getfield 9, 3) := by decide +kernel
theorem dX2_addTimes_22 : decode cX2_addTimes 22 = .ok (.iload 5, 2) := by decide +kernel
theorem dX2_addTimes_24 : decode cX2_addTimes 24 = .ok (.dup2, 1) := by decide +kernel
theorem dX2_addTimes_25 : decode cX2_addTimes 25 = .ok (.laload, 1) := by decide +kernel
theorem dX2_addTimes_26 : decode cX2_addTimes 26 = .ok (.lload_n 1, 1) := by decide +kernel
theorem dX2_addTimes_27 : decode cX2_addTimes 27 = .ok (.aload_n 3, 1) := by decide +kernel
theorem dX2_addTimes_28 : decode cX2_addTimes 28 = .ok (.getfield 9, 3) := by decide +kernel
theorem dX2_addTimes_31 : decode cX2_addTimes 31 = .ok (.iload 5, 2) := by decide +kernel
theorem dX2_addTimes_33 : decode cX2_addTimes 33 = .ok (.laload, 1) := by decide +kernel
theorem dX2_addTimes_34 : decode cX2_addTimes 34 = .ok (.lmul, 1) := by decide +kernel
theorem dX2_addTimes_35 : decode cX2_addTimes 35 = .ok (.ladd, 1) := by decide +kernel
theorem dX2_addTimes_36 : decode cX2_addTimes 36 = .ok (.lastore, 1) := by decide +kernel
theorem dX2_addTimes_37 : decode cX2_addTimes 37 = .ok (.iinc 5 1, 3) := by decide +kernel
theorem dX2_addTimes_40 : decode cX2_addTimes 40 = .ok (.goto (-37), 3) := by decide +kernel
theorem dX2_addTimes_43 : decode cX2_addTimes 43 = .ok (.return_, 1) := by decide +kernel
set_option maxRecDepth 20000 in
theorem ggX2_becomeMonomial_X2_clear : GoodIn wsX2_becomeMonomial wsX2_clear := goodIn_r _ [7, 1, 8, 9, 10, 11, 15, 16] (by decide +kernel) (by decide +kernel)
set_option maxRecDepth 20000 in
theorem gX2_becomeMonomial_X2_clear : GoodIn wsX2_becomeMonomial (wsV RX2 35 RX2 yX2_clear wsX2_clear) := goodIn_app (goodIn_of _ (by decide +kernel)) ggX2_becomeMonomial_X2_clear
set_option maxRecDepth 20000 in
theorem ggX2_becomeMonomial_X5_exponentAt : GoodIn wsX2_becomeMonomial wsX5_exponentAt := goodIn_r _ [14] (by decide +kernel) (by decide +kernel)
set_option maxRecDepth 20000 in
theorem gX2_becomeMonomial_X5_exponentAt_n38 : GoodIn wsX2_becomeMonomial (wsX5_exponentAt) := ggX2_becomeMonomial_X5_exponentAt
theorem dX2_becomeMonomial_0 : decode cX2_becomeMonomial 0 = .ok (.aload_n 0, 1) := by decide +kernel
theorem dX2_becomeMonomial_1 : decode cX2_becomeMonomial 1 = .ok (.invokevirtual 35, 3) := by decide +kernel
theorem dX2_becomeMonomial_4 : decode cX2_becomeMonomial 4 = .ok (.iload_n 1, 1) := by decide +kernel
theorem dX2_becomeMonomial_5 : decode cX2_becomeMonomial 5 = .ok (.ifCond .lt 17, 3) := by decide +kernel
theorem dX2_becomeMonomial_8 : decode cX2_becomeMonomial 8 = .ok (.iload_n 1, 1) := by decide +kernel
theorem dX2_becomeMonomial_9 : decode cX2_becomeMonomial 9 = .ok (.sipush 3024, 3) := by decide +kernel
theorem dX2_becomeMonomial_12 : decode cX2_becomeMonomial 12 = .ok (.if_icmp .ge 10, 3) := by decide +kernel
theorem dX2_becomeMonomial_15 : decode cX2_becomeMonomial 15 = .ok (.aload_n 0, 1) := by decide +kernel
theorem dX2_becomeMonomial_16 : decode cX2_becomeMonomial 16 = .ok (.getfield 9, 3) := by decide +kernel
theorem dX2_becomeMonomial_19 : decode cX2_becomeMonomial 19 = .ok (.iload_n 1, 1) := by decide +kernel
theorem dX2_becomeMonomial_20 : decode cX2_becomeMonomial 20 = .ok (.lconst 1, 1) := by decide +kernel
theorem dX2_becomeMonomial_21 : decode cX2_becomeMonomial 21 = .ok (.lastore, 1) := by decide +kernel
theorem dX2_becomeMonomial_22 : decode cX2_becomeMonomial 22 = .ok (.iconst 1, 1) := by decide +kernel
theorem dX2_becomeMonomial_23 : decode cX2_becomeMonomial 23 = .ok (.istore_n 2, 1) := by decide +kernel
theorem dX2_becomeMonomial_24 : decode cX2_becomeMonomial 24 = .ok (.iload_n 2, 1) := by decide +kernel
theorem dX2_becomeMonomial_25 : decode cX2_becomeMonomial 25 = .ok (.iconst 4, 1) := by decide +kernel
theorem dX2_becomeMonomial_26 : decode cX2_becomeMonomial 26 = .ok (.if_icmp .gt 20, 3) := by decide +kernel
theorem dX2_becomeMonomial_29 : decode cX2_becomeMonomial 29 = .ok (.aload_n 0, 1) := by decide +kernel
theorem dX2_becomeMonomial_30 : decode cX2_becomeMonomial 30 = .ok (.getfield 15, 3) := by decide +kernel
theorem dX2_becomeMonomial_33 : decode cX2_becomeMonomial 33 = .ok (.iload_n 2, 1) := by decide +kernel
theorem dX2_becomeMonomial_34 : decode cX2_becomeMonomial 34 = .ok (.iload_n 1, 1) := by decide +kernel
theorem dX2_becomeMonomial_35 : decode cX2_becomeMonomial 35 = .ok (.iload_n 2, 1) := by decide +kernel
theorem dX2_becomeMonomial_36 : decode cX2_becomeMonomial 36 = .ok (.invokestatic 38, 3) := by decide +kernel
theorem dX2_becomeMonomial_39 : decode cX2_becomeMonomial 39 = .ok (.iastore, 1) := by decide +kernel
theorem dX2_becomeMonomial_40 : decode cX2_becomeMonomial 40 = .ok (.iinc 2 1, 3) := by decide +kernel
theorem dX2_becomeMonomial_43 : decode cX2_becomeMonomial 43 = .ok (.goto (-19), 3) := by decide +kernel
theorem dX2_becomeMonomial_46 : decode cX2_becomeMonomial 46 = .ok (.return_, 1) := by decide +kernel
set_option maxRecDepth 20000 in
theorem ggX2_measure_J7_fill_53178 : GoodIn wsX2_measure wsJ7_fill_53178 := goodIn_r _ [10] (by decide +kernel) (by decide +kernel)
set_option maxRecDepth 20000 in
theorem gX2_measure_J7_fill_53178 : GoodIn wsX2_measure (va_wsS RX2 42 yJ7_fill_53178 wsJ7_fill_53178) := goodIn_app (goodIn_of _ (by decide +kernel)) ggX2_measure_J7_fill_53178
set_option maxRecDepth 20000 in
theorem ggX2_measure_X5_exponentAt : GoodIn wsX2_measure wsX5_exponentAt := goodIn_r _ [13] (by decide +kernel) (by decide +kernel)
set_option maxRecDepth 20000 in
theorem gX2_measure_X5_exponentAt_n38 : GoodIn wsX2_measure (wsX5_exponentAt) := ggX2_measure_X5_exponentAt
theorem dX2_measure_0 : decode cX2_measure 0 = .ok (.aload_n 0, 1) := by decide +kernel
theorem dX2_measure_1 : decode cX2_measure 1 = .ok (.getfield 15, 3) := by decide +kernel
theorem dX2_measure_4 : decode cX2_measure 4 = .ok (.iconst 0, 1) := by decide +kernel
theorem dX2_measure_5 : decode cX2_measure 5 = .ok (.invokestatic 42, 3) := by decide +kernel
theorem dX2_measure_8 : decode cX2_measure 8 = .ok (.iconst 0, 1) := by decide +kernel
theorem dX2_measure_9 : decode cX2_measure 9 = .ok (.istore_n 1, 1) := by decide +kernel
theorem dX2_measure_10 : decode cX2_measure 10 = .ok (.iload_n 1, 1) := by decide +kernel
theorem dX2_measure_11 : decode cX2_measure 11 = .ok (.sipush 3024, 3) := by decide +kernel
theorem dX2_measure_14 : decode cX2_measure 14 = .ok (.if_icmp .ge 53, 3) := by decide +kernel
theorem dX2_measure_17 : decode cX2_measure 17 = .ok (.aload_n 0, 1) := by decide +kernel
theorem dX2_measure_18 : decode cX2_measure 18 = .ok (.getfield 9, 3) := by decide +kernel
theorem dX2_measure_21 : decode cX2_measure 21 = .ok (.iload_n 1, 1) := by decide +kernel
theorem dX2_measure_22 : decode cX2_measure 22 = .ok (.laload, 1) := by decide +kernel
theorem dX2_measure_23 : decode cX2_measure 23 = .ok (.lconst 0, 1) := by decide +kernel
theorem dX2_measure_24 : decode cX2_measure 24 = .ok (.lcmp, 1) := by decide +kernel
theorem dX2_measure_25 : decode cX2_measure 25 = .ok (.ifCond .eq 36, 3) := by decide +kernel
theorem dX2_measure_28 : decode cX2_measure 28 = .ok (.iconst 1, 1) := by decide +kernel
theorem dX2_measure_29 : decode cX2_measure 29 = .ok (.istore_n 2, 1) := by decide +kernel
theorem dX2_measure_30 : decode cX2_measure 30 = .ok (.iload_n 2, 1) := by decide +kernel
theorem dX2_measure_31 : decode cX2_measure 31 = .ok (.iconst 4, 1) := by decide +kernel
theorem dX2_measure_32 : decode cX2_measure 32 = .ok (.if_icmp .gt 29, 3) := by decide +kernel
theorem dX2_measure_35 : decode cX2_measure 35 = .ok (.aload_n 0, 1) := by decide +kernel
theorem dX2_measure_36 : decode cX2_measure 36 = .ok (.getfield 15, 3) := by decide +kernel
theorem dX2_measure_39 : decode cX2_measure 39 = .ok (.iload_n 2, 1) := by decide +kernel
theorem dX2_measure_40 : decode cX2_measure 40 = .ok (.aload_n 0, 1) := by decide +kernel
theorem dX2_measure_41 : decode cX2_measure 41 = .ok (.getfield 15, 3) := by decide +kernel
theorem dX2_measure_44 : decode cX2_measure 44 = .ok (.iload_n 2, 1) := by decide +kernel
theorem dX2_measure_45 : decode cX2_measure 45 = .ok (.iaload, 1) := by decide +kernel
theorem dX2_measure_46 : decode cX2_measure 46 = .ok (.iload_n 1, 1) := by decide +kernel
theorem dX2_measure_47 : decode cX2_measure 47 = .ok (.iload_n 2, 1) := by decide +kernel
theorem dX2_measure_48 : decode cX2_measure 48 = .ok (.invokestatic 38, 3) := by decide +kernel
theorem dX2_measure_51 : decode cX2_measure 51 = .ok (.invokestatic 45, 3) := by decide +kernel
theorem dX2_measure_54 : decode cX2_measure 54 = .ok (.iastore, 1) := by decide +kernel
theorem dX2_measure_55 : decode cX2_measure 55 = .ok (.iinc 2 1, 3) := by decide +kernel
theorem dX2_measure_58 : decode cX2_measure 58 = .ok (.goto (-28), 3) := by decide +kernel
theorem dX2_measure_61 : decode cX2_measure 61 = .ok (.iinc 1 1, 3) := by decide +kernel
theorem dX2_measure_64 : decode cX2_measure 64 = .ok (.goto (-54), 3) := by decide +kernel
theorem dX2_measure_67 : decode cX2_measure 67 = .ok (.return_, 1) := by decide +kernel
theorem dX2_degreeBound_0 : decode cX2_degreeBound 0 = .ok (.aload_n 0, 1) := by decide +kernel
theorem dX2_degreeBound_1 : decode cX2_degreeBound 1 = .ok (.getfield 15, 3) := by decide +kernel
theorem dX2_degreeBound_4 : decode cX2_degreeBound 4 = .ok (.iconst 1, 1) := by decide +kernel
theorem dX2_degreeBound_5 : decode cX2_degreeBound 5 = .ok (.iaload, 1) := by decide +kernel
theorem dX2_degreeBound_6 : decode cX2_degreeBound 6 = .ok (.aload_n 0, 1) := by decide +kernel
theorem dX2_degreeBound_7 : decode cX2_degreeBound 7 = .ok (.getfield 15, 3) := by decide +kernel
theorem dX2_degreeBound_10 : decode cX2_degreeBound 10 = .ok (.iconst 2, 1) := by decide +kernel
theorem dX2_degreeBound_11 : decode cX2_degreeBound 11 = .ok (.iaload, 1) := by decide +kernel
theorem dX2_degreeBound_12 : decode cX2_degreeBound 12 = .ok (.iadd, 1) := by decide +kernel
theorem dX2_degreeBound_13 : decode cX2_degreeBound 13 = .ok (.aload_n 0, 1) := by decide +kernel
theorem dX2_degreeBound_14 : decode cX2_degreeBound 14 = .ok (.getfield 15, 3) := by decide +kernel
theorem dX2_degreeBound_17 : decode cX2_degreeBound 17 = .ok (.iconst 3, 1) := by decide +kernel
theorem dX2_degreeBound_18 : decode cX2_degreeBound 18 = .ok (.iaload, 1) := by decide +kernel
theorem dX2_degreeBound_19 : decode cX2_degreeBound 19 = .ok (.iadd, 1) := by decide +kernel
theorem dX2_degreeBound_20 : decode cX2_degreeBound 20 = .ok (.aload_n 0, 1) := by decide +kernel
theorem dX2_degreeBound_21 : decode cX2_degreeBound 21 = .ok (.getfield 15, 3) := by decide +kernel
theorem dX2_degreeBound_24 : decode cX2_degreeBound 24 = .ok (.iconst 4, 1) := by decide +kernel
theorem dX2_degreeBound_25 : decode cX2_degreeBound 25 = .ok (.iaload, 1) := by decide +kernel
theorem dX2_degreeBound_26 : decode cX2_degreeBound 26 = .ok (.iadd, 1) := by decide +kernel
theorem dX2_degreeBound_27 : decode cX2_degreeBound 27 = .ok (.ireturn, 1) := by decide +kernel
theorem dX2_hasRoomFor_0 : decode cX2_hasRoomFor 0 = .ok (.iconst 1, 1) := by decide +kernel
theorem dX2_hasRoomFor_1 : decode cX2_hasRoomFor 1 = .ok (.istore_n 2, 1) := by decide +kernel
theorem dX2_hasRoomFor_2 : decode cX2_hasRoomFor 2 = .ok (.iload_n 2, 1) := by decide +kernel
theorem dX2_hasRoomFor_3 : decode cX2_hasRoomFor 3 = .ok (.iconst 4, 1) := by decide +kernel
theorem dX2_hasRoomFor_4 : decode cX2_hasRoomFor 4 = .ok (.if_icmp .gt 32, 3) := by decide +kernel
theorem dX2_hasRoomFor_7 : decode cX2_hasRoomFor 7 = .ok (.aload_n 0, 1) := by decide +kernel
theorem dX2_hasRoomFor_8 : decode cX2_hasRoomFor 8 = .ok (.getfield 15, 3) := by decide +kernel
theorem dX2_hasRoomFor_11 : decode cX2_hasRoomFor 11 = .ok (.iload_n 2, 1) := by decide +kernel
theorem dX2_hasRoomFor_12 : decode cX2_hasRoomFor 12 = .ok (.iaload, 1) := by decide +kernel
theorem dX2_hasRoomFor_13 : decode cX2_hasRoomFor 13 = .ok (.aload_n 1, 1) := by decide +kernel
theorem dX2_hasRoomFor_14 : decode cX2_hasRoomFor 14 = .ok (.getfield 15, 3) := by decide +kernel
theorem dX2_hasRoomFor_17 : decode cX2_hasRoomFor 17 = .ok (.iload_n 2, 1) := by decide +kernel
theorem dX2_hasRoomFor_18 : decode cX2_hasRoomFor 18 = .ok (.iaload, 1) := by decide +kernel
theorem dX2_hasRoomFor_19 : decode cX2_hasRoomFor 19 = .ok (.iadd, 1) := by decide +kernel
theorem dX2_hasRoomFor_20 : decode cX2_hasRoomFor 20 = .ok (.getstatic 50, 3) := by decide +kernel
theorem dX2_hasRoomFor_23 : decode cX2_hasRoomFor 23 = .ok (.iload_n 2, 1) := by decide +kernel
theorem dX2_hasRoomFor_24 : decode cX2_hasRoomFor 24 = .ok (.iaload, 1) := by decide +kernel
theorem dX2_hasRoomFor_25 : decode cX2_hasRoomFor 25 = .ok (.if_icmp .le 5, 3) := by decide +kernel
theorem dX2_hasRoomFor_28 : decode cX2_hasRoomFor 28 = .ok (.iconst 0, 1) := by decide +kernel
theorem dX2_hasRoomFor_29 : decode cX2_hasRoomFor 29 = .ok (.ireturn, 1) := by decide +kernel
theorem dX2_hasRoomFor_30 : decode cX2_hasRoomFor 30 = .ok (.iinc 2 1, 3) := by decide +kernel
theorem dX2_hasRoomFor_33 : decode cX2_hasRoomFor 33 = .ok (.goto (-31), 3) := by decide +kernel
theorem dX2_hasRoomFor_36 : decode cX2_hasRoomFor 36 = .ok (.iconst 1, 1) := by decide +kernel
theorem dX2_hasRoomFor_37 : decode cX2_hasRoomFor 37 = .ok (.ireturn, 1) := by decide +kernel
set_option maxRecDepth 20000 in
theorem ggX2_becomeProduct_X2_clear : GoodIn wsX2_becomeProduct wsX2_clear := goodIn_r _ [6, 1, 7, 8, 9, 10, 11, 12] (by decide +kernel) (by decide +kernel)
set_option maxRecDepth 20000 in
theorem gX2_becomeProduct_X2_clear : GoodIn wsX2_becomeProduct (wsV RX2 35 RX2 yX2_clear wsX2_clear) := goodIn_app (goodIn_of _ (by decide +kernel)) ggX2_becomeProduct_X2_clear
theorem dX2_becomeProduct_0 : decode cX2_becomeProduct 0 = .ok (.aload_n 0, 1) := by decide +kernel
theorem dX2_becomeProduct_1 : decode cX2_becomeProduct 1 = .ok (.invokevirtual 35, 3) := by decide +kernel
theorem dX2_becomeProduct_4 : decode cX2_becomeProduct 4 = .ok (.iconst 0, 1) := by decide +kernel
theorem dX2_becomeProduct_5 : decode cX2_becomeProduct 5 = .ok (.istore_n 3, 1) := by decide +kernel
theorem dX2_becomeProduct_6 : decode cX2_becomeProduct 6 = .ok (.iload_n 3, 1) := by decide +kernel
theorem dX2_becomeProduct_7 : decode cX2_becomeProduct 7 = .ok (.sipush 3024, 3) := by decide +kernel
theorem dX2_becomeProduct_10 : decode cX2_becomeProduct 10 = .ok (.if_icmp .ge 65, 3) := by decide +kernel
theorem dX2_becomeProduct_13 : decode cX2_becomeProduct 13 = .ok (.aload_n 2, 1) := by decide +kernel
theorem dX2_becomeProduct_14 : decode cX2_becomeProduct 14 = .ok (.getfield 9, 3) := by decide +kernel
theorem dX2_becomeProduct_17 : decode cX2_becomeProduct 17 = .ok (.iload_n 3, 1) := by decide +kernel
theorem dX2_becomeProduct_18 : decode cX2_becomeProduct 18 = .ok (.laload, 1) := by decide +kernel
theorem dX2_becomeProduct_19 : decode cX2_becomeProduct 19 = .ok (.lstore 4, 2) := by decide +kernel
theorem dX2_becomeProduct_21 : decode cX2_becomeProduct 21 = .ok (.lload 4, 2) := by decide +kernel
theorem dX2_becomeProduct_23 : decode cX2_becomeProduct 23 = .ok (.lconst 0, 1) := by decide +kernel
theorem dX2_becomeProduct_24 : decode cX2_becomeProduct 24 = .ok (.lcmp, 1) := by decide +kernel
theorem dX2_becomeProduct_25 : decode cX2_becomeProduct 25 = .ok (.ifCond .eq 44, 3) := by decide +kernel
theorem dX2_becomeProduct_28 : decode cX2_becomeProduct 28 = .ok (.iconst 0, 1) := by decide +kernel
theorem dX2_becomeProduct_29 : decode cX2_becomeProduct 29 = .ok (.istore 6, 2) := by decide +kernel
theorem dX2_becomeProduct_31 : decode cX2_becomeProduct 31 = .ok (.iload 6, 2) := by decide +kernel
theorem dX2_becomeProduct_33 : decode cX2_becomeProduct 33 = .ok (.sipush 3024, 3) := by decide +kernel
theorem dX2_becomeProduct_36 : decode cX2_becomeProduct 36 = .ok (.iload_n 3, 1) := by decide +kernel
theorem dX2_becomeProduct_37 : decode cX2_becomeProduct 37 = .ok (.isub, 1) := by decide +kernel
theorem dX2_becomeProduct_38 : decode cX2_becomeProduct 38 = .ok (.if_icmp .ge 31, 3) := by decide +kernel
theorem dX2_becomeProduct_41 : decode cX2_becomeProduct 41 = .ok (.aload_n 0, 1) := by decide +kernel
theorem dX2_becomeProduct_42 : decode cX2_becomeProduct 42 = .ok (.getfield 9, 3) := by decide +kernel
theorem dX2_becomeProduct_45 : decode cX2_becomeProduct 45 = .ok (.iload 6, 2) := by decide +kernel
theorem dX2_becomeProduct_47 : decode cX2_becomeProduct 47 = .ok (.iload_n 3, 1) := by decide +kernel
theorem dX2_becomeProduct_48 : decode cX2_becomeProduct 48 = .ok (.iadd, 1) := by decide +kernel
theorem dX2_becomeProduct_49 : decode cX2_becomeProduct 49 = .ok (.dup2, 1) := by decide +kernel
theorem dX2_becomeProduct_50 : decode cX2_becomeProduct 50 = .ok (.laload, 1) := by decide +kernel
theorem dX2_becomeProduct_51 : decode cX2_becomeProduct 51 = .ok (.lload 4, 2) := by decide +kernel
theorem dX2_becomeProduct_53 : decode cX2_becomeProduct 53 = .ok (.aload_n 1, 1) := by decide +kernel
theorem dX2_becomeProduct_54 : decode cX2_becomeProduct 54 = .ok (.getfield 9, 3) := by decide +kernel
theorem dX2_becomeProduct_57 : decode cX2_becomeProduct 57 = .ok (.iload 6, 2) := by decide +kernel
theorem dX2_becomeProduct_59 : decode cX2_becomeProduct 59 = .ok (.laload, 1) := by decide +kernel
theorem dX2_becomeProduct_60 : decode cX2_becomeProduct 60 = .ok (.lmul, 1) := by decide +kernel
theorem dX2_becomeProduct_61 : decode cX2_becomeProduct 61 = .ok (.ladd, 1) := by decide +kernel
theorem dX2_becomeProduct_62 : decode cX2_becomeProduct 62 = .ok (.lastore, 1) := by decide +kernel
theorem dX2_becomeProduct_63 : decode cX2_becomeProduct 63 = .ok (.iinc 6 1, 3) := by decide +kernel
theorem dX2_becomeProduct_66 : decode cX2_becomeProduct 66 = .ok (.goto (-35), 3) := by decide +kernel
theorem dX2_becomeProduct_69 : decode cX2_becomeProduct 69 = .ok (.iinc 3 1, 3) := by decide +kernel
theorem dX2_becomeProduct_72 : decode cX2_becomeProduct 72 = .ok (.goto (-66), 3) := by decide +kernel
theorem dX2_becomeProduct_75 : decode cX2_becomeProduct 75 = .ok (.return_, 1) := by decide +kernel
set_option maxRecDepth 20000 in
theorem ggX2_valueAt_X5_cellOf : GoodIn wsX2_valueAt wsX5_cellOf := goodIn_r _ [3, 4, 5, 2, 6] (by decide +kernel) (by decide +kernel)
set_option maxRecDepth 20000 in
theorem gX2_valueAt_X5_cellOf_n53 : GoodIn wsX2_valueAt (wsX5_cellOf) := ggX2_valueAt_X5_cellOf
set_option maxRecDepth 20000 in
theorem ggX2_valueAt_X2_valueOfLine : GoodIn wsX2_valueAt wsX2_valueOfLine := goodIn_r _ [11, 12, 13, 14, 10, 15, 16, 17, 18] (by decide +kernel) (by decide +kernel)
set_option maxRecDepth 20000 in
theorem gX2_valueAt_X2_valueOfLine : GoodIn wsX2_valueAt (wsV RX2 57 RX2 yX2_valueOfLine wsX2_valueOfLine) := goodIn_app (goodIn_of _ (by decide +kernel)) ggX2_valueAt_X2_valueOfLine
theorem dX2_valueAt_0 : decode cX2_valueAt 0 = .ok (.lconst 0, 1) := by decide +kernel
theorem dX2_valueAt_1 : decode cX2_valueAt 1 = .ok (.lstore 5, 2) := by decide +kernel
theorem dX2_valueAt_3 : decode cX2_valueAt 3 = .ok (.getstatic 50, 3) := by decide +kernel
theorem dX2_valueAt_6 : decode cX2_valueAt 6 = .ok (.iconst 4, 1) := by decide +kernel
theorem dX2_valueAt_7 : decode cX2_valueAt 7 = .ok (.iaload, 1) := by decide +kernel
theorem dX2_valueAt_8 : decode cX2_valueAt 8 = .ok (.istore 7, 2) := by decide +kernel
theorem dX2_valueAt_10 : decode cX2_valueAt 10 = .ok (.iload 7, 2) := by decide +kernel
theorem dX2_valueAt_12 : decode cX2_valueAt 12 = .ok (.ifCond .lt 95, 3) := by decide +kernel
theorem dX2_valueAt_15 : decode cX2_valueAt 15 = .ok (.lconst 0, 1) := by decide +kernel
theorem dX2_valueAt_16 : decode cX2_valueAt 16 = .ok (.lstore 8, 2) := by decide +kernel
theorem dX2_valueAt_18 : decode cX2_valueAt 18 = .ok (.getstatic 50, 3) := by decide +kernel
theorem dX2_valueAt_21 : decode cX2_valueAt 21 = .ok (.iconst 3, 1) := by decide +kernel
theorem dX2_valueAt_22 : decode cX2_valueAt 22 = .ok (.iaload, 1) := by decide +kernel
theorem dX2_valueAt_23 : decode cX2_valueAt 23 = .ok (.istore 10, 2) := by decide +kernel
theorem dX2_valueAt_25 : decode cX2_valueAt 25 = .ok (.iload 10, 2) := by decide +kernel
theorem dX2_valueAt_27 : decode cX2_valueAt 27 = .ok (.ifCond .lt 63, 3) := by decide +kernel
theorem dX2_valueAt_30 : decode cX2_valueAt 30 = .ok (.lconst 0, 1) := by decide +kernel
theorem dX2_valueAt_31 : decode cX2_valueAt 31 = .ok (.lstore 11, 2) := by decide +kernel
theorem dX2_valueAt_33 : decode cX2_valueAt 33 = .ok (.getstatic 50, 3) := by decide +kernel
theorem dX2_valueAt_36 : decode cX2_valueAt 36 = .ok (.iconst 2, 1) := by decide +kernel
theorem dX2_valueAt_37 : decode cX2_valueAt 37 = .ok (.iaload, 1) := by decide +kernel
theorem dX2_valueAt_38 : decode cX2_valueAt 38 = .ok (.istore 13, 2) := by decide +kernel
theorem dX2_valueAt_40 : decode cX2_valueAt 40 = .ok (.iload 13, 2) := by decide +kernel
theorem dX2_valueAt_42 : decode cX2_valueAt 42 = .ok (.ifCond .lt 32, 3) := by decide +kernel
theorem dX2_valueAt_45 : decode cX2_valueAt 45 = .ok (.lload 11, 2) := by decide +kernel
theorem dX2_valueAt_47 : decode cX2_valueAt 47 = .ok (.iload_n 2, 1) := by decide +kernel
theorem dX2_valueAt_48 : decode cX2_valueAt 48 = .ok (.i2l, 1) := by decide +kernel
theorem dX2_valueAt_49 : decode cX2_valueAt 49 = .ok (.lmul, 1) := by decide +kernel
theorem dX2_valueAt_50 : decode cX2_valueAt 50 = .ok (.aload_n 0, 1) := by decide +kernel
theorem dX2_valueAt_51 : decode cX2_valueAt 51 = .ok (.iconst 0, 1) := by decide +kernel
theorem dX2_valueAt_52 : decode cX2_valueAt 52 = .ok (.iload 13, 2) := by decide +kernel
theorem dX2_valueAt_54 : decode cX2_valueAt 54 = .ok (.iload 10, 2) := by decide +kernel
theorem dX2_valueAt_56 : decode cX2_valueAt 56 = .ok (.iload 7, 2) := by decide +kernel
theorem dX2_valueAt_58 : decode cX2_valueAt 58 = .ok (.invokestatic 53, 3) := by decide +kernel
theorem dX2_valueAt_61 : decode cX2_valueAt 61 = .ok (.iload_n 1, 1) := by decide +kernel
theorem dX2_valueAt_62 : decode cX2_valueAt 62 = .ok (.invokevirtual 57, 3) := by decide +kernel
theorem dX2_valueAt_65 : decode cX2_valueAt 65 = .ok (.ladd, 1) := by decide +kernel
theorem dX2_valueAt_66 : decode cX2_valueAt 66 = .ok (.lstore 11, 2) := by decide +kernel
theorem dX2_valueAt_68 : decode cX2_valueAt 68 = .ok (.iinc 13 (-1), 3) := by decide +kernel
theorem dX2_valueAt_71 : decode cX2_valueAt 71 = .ok (.goto (-31), 3) := by decide +kernel
theorem dX2_valueAt_74 : decode cX2_valueAt 74 = .ok (.lload 8, 2) := by decide +kernel
theorem dX2_valueAt_76 : decode cX2_valueAt 76 = .ok (.iload_n 3, 1) := by decide +kernel
theorem dX2_valueAt_77 : decode cX2_valueAt 77 = .ok (.i2l, 1) := by decide +kernel
theorem dX2_valueAt_78 : decode cX2_valueAt 78 = .ok (.lmul, 1) := by decide +kernel
theorem dX2_valueAt_79 : decode cX2_valueAt 79 = .ok (.lload 11, 2) := by decide +kernel
theorem dX2_valueAt_81 : decode cX2_valueAt 81 = .ok (.ladd, 1) := by decide +kernel
theorem dX2_valueAt_82 : decode cX2_valueAt 82 = .ok (.lstore 8, 2) := by decide +kernel
theorem dX2_valueAt_84 : decode cX2_valueAt 84 = .ok (.iinc 10 (-1), 3) := by decide +kernel
theorem dX2_valueAt_87 : decode cX2_valueAt 87 = .ok (.goto (-62), 3) := by decide +kernel
theorem dX2_valueAt_90 : decode cX2_valueAt 90 = .ok (.lload 5, 2) := by decide +kernel
theorem dX2_valueAt_92 : decode cX2_valueAt 92 = .ok (.iload 4, 2) := by decide +kernel
theorem dX2_valueAt_94 : decode cX2_valueAt 94 = .ok (.i2l, 1) := by decide +kernel
theorem dX2_valueAt_95 : decode cX2_valueAt 95 = .ok (.lmul, 1) := by decide +kernel
theorem dX2_valueAt_96 : decode cX2_valueAt 96 = .ok (.lload 8, 2) := by decide +kernel
theorem dX2_valueAt_98 : decode cX2_valueAt 98 = .ok (.ladd, 1) := by decide +kernel
theorem dX2_valueAt_99 : decode cX2_valueAt 99 = .ok (.lstore 5, 2) := by decide +kernel
theorem dX2_valueAt_101 : decode cX2_valueAt 101 = .ok (.iinc 7 (-1), 3) := by decide +kernel
theorem dX2_valueAt_104 : decode cX2_valueAt 104 = .ok (.goto (-94), 3) := by decide +kernel
theorem dX2_valueAt_107 : decode cX2_valueAt 107 = .ok (.lload 5, 2) := by decide +kernel
theorem dX2_valueAt_109 : decode cX2_valueAt 109 = .ok (.lreturn, 1) := by decide +kernel
set_option maxRecDepth 20000 in
theorem ggX2_valueOfLine_X2_at : GoodIn wsX2_valueOfLine wsX2_at := goodIn_r _ [5, 6, 7, 8] (by decide +kernel) (by decide +kernel)
set_option maxRecDepth 20000 in
theorem gX2_valueOfLine_X2_at : GoodIn wsX2_valueOfLine (wsV RX2 61 RX2 yX2_at wsX2_at) := goodIn_app (goodIn_of _ (by decide +kernel)) ggX2_valueOfLine_X2_at
theorem dX2_valueOfLine_0 : decode cX2_valueOfLine 0 = .ok (.lconst 0, 1) := by decide +kernel
theorem dX2_valueOfLine_1 : decode cX2_valueOfLine 1 = .ok (.lstore_n 3, 1) := by decide +kernel
theorem dX2_valueOfLine_2 : decode cX2_valueOfLine 2 = .ok (.getstatic 50, 3) := by decide +kernel
theorem dX2_valueOfLine_5 : decode cX2_valueOfLine 5 = .ok (.iconst 1, 1) := by decide +kernel
theorem dX2_valueOfLine_6 : decode cX2_valueOfLine 6 = .ok (.iaload, 1) := by decide +kernel
theorem dX2_valueOfLine_7 : decode cX2_valueOfLine 7 = .ok (.istore 5, 2) := by decide +kernel
theorem dX2_valueOfLine_9 : decode cX2_valueOfLine 9 = .ok (.iload 5, 2) := by decide +kernel
theorem dX2_valueOfLine_11 : decode cX2_valueOfLine 11 = .ok (.ifCond .lt 23, 3) := by decide +kernel
theorem dX2_valueOfLine_14 : decode cX2_valueOfLine 14 = .ok (.lload_n 3, 1) := by decide +kernel
theorem dX2_valueOfLine_15 : decode cX2_valueOfLine 15 = .ok (.iload_n 2, 1) := by decide +kernel
theorem dX2_valueOfLine_16 : decode cX2_valueOfLine 16 = .ok (.i2l, 1) := by decide +kernel
theorem dX2_valueOfLine_17 : decode cX2_valueOfLine 17 = .ok (.lmul, 1) := by decide +kernel
theorem dX2_valueOfLine_18 : decode cX2_valueOfLine 18 = .ok (.aload_n 0, 1) := by decide +kernel
theorem dX2_valueOfLine_19 : decode cX2_valueOfLine 19 = .ok (.iload_n 1, 1) := by decide +kernel
theorem dX2_valueOfLine_20 : decode cX2_valueOfLine 20 = .ok (.iload 5, 2) := by decide +kernel
theorem dX2_valueOfLine_22 : decode cX2_valueOfLine 22 = .ok (.iadd, 1) := by decide +kernel
theorem dX2_valueOfLine_23 : decode cX2_valueOfLine 23 = .ok (.invokevirtual 61, 3) := by decide +kernel
theorem dX2_valueOfLine_26 : decode cX2_valueOfLine 26 = .ok (.ladd, 1) := by decide +kernel
theorem dX2_valueOfLine_27 : decode cX2_valueOfLine 27 = .ok (.lstore_n 3, 1) := by decide +kernel
theorem dX2_valueOfLine_28 : decode cX2_valueOfLine 28 = .ok (.iinc 5 (-1), 3) := by decide +kernel
theorem dX2_valueOfLine_31 : decode cX2_valueOfLine 31 = .ok (.goto (-22), 3) := by decide +kernel
theorem dX2_valueOfLine_34 : decode cX2_valueOfLine 34 = .ok (.lload_n 3, 1) := by decide +kernel
theorem dX2_valueOfLine_35 : decode cX2_valueOfLine 35 = .ok (.lreturn, 1) := by decide +kernel
set_option maxRecDepth 20000 in
theorem ggX2_differ_X2_lowerDegree : GoodIn wsX2_differ wsX2_lowerDegree := goodIn_r _ [10, 1, 11, 12, 13, 9, 14, 2, 3, 4, 5, 15, 16, 17, 18, 19, 20, 21, 22, 23, 24, 25, 26, 27, 28, 29, 30, 31] (by decide +kernel) (by decide +kernel)
set_option maxRecDepth 20000 in
theorem gX2_differ_X2_lowerDegree : GoodIn wsX2_differ (wsV RX2 65 RX2 yX2_lowerDegree wsX2_lowerDegree) := goodIn_app (goodIn_of _ (by decide +kernel)) ggX2_differ_X2_lowerDegree
theorem dX2_differ_0 : decode cX2_differ 0 = .ok (.iload_n 1, 1) := by decide +kernel
theorem dX2_differ_1 : decode cX2_differ 1 = .ok (.iconst 1, 1) := by decide +kernel
theorem dX2_differ_2 : decode cX2_differ 2 = .ok (.if_icmp .lt 8, 3) := by decide +kernel
theorem dX2_differ_5 : decode cX2_differ 5 = .ok (.iload_n 1, 1) := by decide +kernel
theorem dX2_differ_6 : decode cX2_differ 6 = .ok (.iconst 4, 1) := by decide +kernel
theorem dX2_differ_7 : decode cX2_differ 7 = .ok (.if_icmp .lt 4, 3) := by decide +kernel
theorem dX2_differ_10 : decode cX2_differ 10 = .ok (.return_, 1) := by decide +kernel
theorem dX2_differ_11 : decode cX2_differ 11 = .ok (.iload_n 2, 1) := by decide +kernel
theorem dX2_differ_12 : decode cX2_differ 12 = .ok (.istore 4, 2) := by decide +kernel
theorem dX2_differ_14 : decode cX2_differ 14 = .ok (.iload 4, 2) := by decide +kernel
theorem dX2_differ_16 : decode cX2_differ 16 = .ok (.iload_n 3, 1) := by decide +kernel
theorem dX2_differ_17 : decode cX2_differ 17 = .ok (.if_icmp .gt 16, 3) := by decide +kernel
theorem dX2_differ_20 : decode cX2_differ 20 = .ok (.aload_n 0, 1) := by decide +kernel
theorem dX2_differ_21 : decode cX2_differ 21 = .ok (.iload_n 1, 1) := by decide +kernel
theorem dX2_differ_22 : decode cX2_differ 22 = .ok (.iload 4, 2) := by decide +kernel
theorem dX2_differ_24 : decode cX2_differ 24 = .ok (.invokevirtual 65, 3) := by decide +kernel
theorem dX2_differ_27 : decode cX2_differ 27 = .ok (.iinc 4 1, 3) := by decide +kernel
theorem dX2_differ_30 : decode cX2_differ 30 = .ok (.goto (-16), 3) := by decide +kernel
theorem dX2_differ_33 : decode cX2_differ 33 = .ok (.aload_n 0, 1) := by decide +kernel
theorem dX2_differ_34 : decode cX2_differ 34 = .ok (.getfield 15, 3) := by decide +kernel
theorem dX2_differ_37 : decode cX2_differ 37 = .ok (.iload_n 1, 1) := by decide +kernel
theorem dX2_differ_38 : decode cX2_differ 38 = .ok (.iaload, 1) := by decide +kernel
theorem dX2_differ_39 : decode cX2_differ 39 = .ok (.aload_n 0, 1) := by decide +kernel
theorem dX2_differ_40 : decode cX2_differ 40 = .ok (.getfield 15, 3) := by decide +kernel
theorem dX2_differ_43 : decode cX2_differ 43 = .ok (.iload_n 1, 1) := by decide +kernel
theorem dX2_differ_44 : decode cX2_differ 44 = .ok (.iconst 1, 1) := by decide +kernel
theorem dX2_differ_45 : decode cX2_differ 45 = .ok (.iadd, 1) := by decide +kernel
theorem dX2_differ_46 : decode cX2_differ 46 = .ok (.iaload, 1) := by decide +kernel
theorem dX2_differ_47 : decode cX2_differ 47 = .ok (.invokestatic 45, 3) := by decide +kernel
theorem dX2_differ_50 : decode cX2_differ 50 = .ok (.istore 4, 2) := by decide +kernel
theorem dX2_differ_52 : decode cX2_differ 52 = .ok (.aload_n 0, 1) := by decide +kernel
theorem dX2_differ_53 : decode cX2_differ 53 = .ok (.getfield 15, 3) := by decide +kernel
theorem dX2_differ_56 : decode cX2_differ 56 = .ok (.iload_n 1, 1) := by decide +kernel
theorem dX2_differ_57 : decode cX2_differ 57 = .ok (.iload 4, 2) := by decide +kernel
theorem dX2_differ_59 : decode cX2_differ 59 = .ok (.iconst 1, 1) := by decide +kernel
theorem dX2_differ_60 : decode cX2_differ 60 = .ok (.isub, 1) := by decide +kernel
theorem dX2_differ_61 : decode cX2_differ 61 = .ok (.iconst 0, 1) := by decide +kernel
theorem dX2_differ_62 : decode cX2_differ 62 = .ok (.invokestatic 45, 3) := by decide +kernel
theorem dX2_differ_65 : decode cX2_differ 65 = .ok (.iastore, 1) := by decide +kernel
theorem dX2_differ_66 : decode cX2_differ 66 = .ok (.aload_n 0, 1) := by decide +kernel
theorem dX2_differ_67 : decode cX2_differ 67 = .ok (.getfield 15, 3) := by decide +kernel
theorem dX2_differ_70 : decode cX2_differ 70 = .ok (.iload_n 1, 1) := by decide +kernel
theorem dX2_differ_71 : decode cX2_differ 71 = .ok (.iconst 1, 1) := by decide +kernel
theorem dX2_differ_72 : decode cX2_differ 72 = .ok (.iadd, 1) := by decide +kernel
theorem dX2_differ_73 : decode cX2_differ 73 = .ok (.aload_n 0, 1) := by decide +kernel
theorem dX2_differ_74 : decode cX2_differ 74 = .ok (.getfield 15, 3) := by decide +kernel
theorem dX2_differ_77 : decode cX2_differ 77 = .ok (.iload_n 1, 1) := by decide +kernel
theorem dX2_differ_78 : decode cX2_differ 78 = .ok (.iaload, 1) := by decide +kernel
theorem dX2_differ_79 : decode cX2_differ 79 = .ok (.iastore, 1) := by decide +kernel
theorem dX2_differ_80 : decode cX2_differ 80 = .ok (.return_, 1) := by decide +kernel
set_option maxRecDepth 20000 in
theorem ggX2_lowerDegree_X2_lowerLine : GoodIn wsX2_lowerDegree wsX2_lowerLine := goodIn_r _ [6, 1, 7, 8, 9, 10, 11, 12, 13, 14, 15, 5, 16, 17, 18, 19, 20, 21, 22, 23, 24, 25, 26, 27] (by decide +kernel) (by decide +kernel)
set_option maxRecDepth 20000 in
theorem gX2_lowerDegree_X2_lowerLine : GoodIn wsX2_lowerDegree (wsV RX2 72 RX2 yX2_lowerLine wsX2_lowerLine) := goodIn_app (goodIn_of _ (by decide +kernel)) ggX2_lowerDegree_X2_lowerLine
theorem dX2_lowerDegree_0 : decode cX2_lowerDegree 0 = .ok (.iload_n 1, 1) := by decide +kernel
theorem dX2_lowerDegree_1 : decode cX2_lowerDegree 1 = .ok (.iconst 1, 1) := by decide +kernel
theorem dX2_lowerDegree_2 : decode cX2_lowerDegree 2 = .ok (.if_icmp .ne 7, 3) := by decide +kernel
theorem dX2_lowerDegree_5 : decode cX2_lowerDegree 5 = .ok (.iconst 3, 1) := by decide +kernel
theorem dX2_lowerDegree_6 : decode cX2_lowerDegree 6 = .ok (.goto 4, 3) := by decide +kernel
theorem dX2_lowerDegree_9 : decode cX2_lowerDegree 9 = .ok (.iconst 1, 1) := by decide +kernel
theorem dX2_lowerDegree_10 : decode cX2_lowerDegree 10 = .ok (.istore_n 3, 1) := by decide +kernel
theorem dX2_lowerDegree_11 : decode cX2_lowerDegree 11 = .ok (.iload_n 1, 1) := by decide +kernel
theorem dX2_lowerDegree_12 : decode cX2_lowerDegree 12 = .ok (.iconst 3, 1) := by decide +kernel
theorem dX2_lowerDegree_13 : decode cX2_lowerDegree 13 = .ok (.if_icmp .ne 7, 3) := by decide +kernel
theorem dX2_lowerDegree_16 : decode cX2_lowerDegree 16 = .ok (.iconst 2, 1) := by decide +kernel
theorem dX2_lowerDegree_17 : decode cX2_lowerDegree 17 = .ok (.goto 4, 3) := by decide +kernel
theorem dX2_lowerDegree_20 : decode cX2_lowerDegree 20 = .ok (.iconst 4, 1) := by decide +kernel
theorem dX2_lowerDegree_21 : decode cX2_lowerDegree 21 = .ok (.istore 4, 2) := by decide +kernel
theorem dX2_lowerDegree_23 : decode cX2_lowerDegree 23 = .ok (.iconst 0, 1) := by decide +kernel
theorem dX2_lowerDegree_24 : decode cX2_lowerDegree 24 = .ok (.istore 5, 2) := by decide +kernel
theorem dX2_lowerDegree_26 : decode cX2_lowerDegree 26 = .ok (.iload 5, 2) := by decide +kernel
theorem dX2_lowerDegree_28 : decode cX2_lowerDegree 28 = .ok (.aload_n 0, 1) := by decide +kernel
theorem dX2_lowerDegree_29 : decode cX2_lowerDegree 29 = .ok (.getfield 15, 3) := by decide +kernel
theorem dX2_lowerDegree_32 : decode cX2_lowerDegree 32 = .ok (.iload_n 3, 1) := by decide +kernel
theorem dX2_lowerDegree_33 : decode cX2_lowerDegree 33 = .ok (.iaload, 1) := by decide +kernel
theorem dX2_lowerDegree_34 : decode cX2_lowerDegree 34 = .ok (.if_icmp .gt 60, 3) := by decide +kernel
theorem dX2_lowerDegree_37 : decode cX2_lowerDegree 37 = .ok (.iconst 0, 1) := by decide +kernel
theorem dX2_lowerDegree_38 : decode cX2_lowerDegree 38 = .ok (.istore 6, 2) := by decide +kernel
theorem dX2_lowerDegree_40 : decode cX2_lowerDegree 40 = .ok (.iload 6, 2) := by decide +kernel
theorem dX2_lowerDegree_42 : decode cX2_lowerDegree 42 = .ok (.aload_n 0, 1) := by decide +kernel
theorem dX2_lowerDegree_43 : decode cX2_lowerDegree 43 = .ok (.getfield 15, 3) := by decide +kernel
theorem dX2_lowerDegree_46 : decode cX2_lowerDegree 46 = .ok (.iload 4, 2) := by decide +kernel
theorem dX2_lowerDegree_48 : decode cX2_lowerDegree 48 = .ok (.iaload, 1) := by decide +kernel
theorem dX2_lowerDegree_49 : decode cX2_lowerDegree 49 = .ok (.if_icmp .gt 39, 3) := by decide +kernel
theorem dX2_lowerDegree_52 : decode cX2_lowerDegree 52 = .ok (.aload_n 0, 1) := by decide +kernel
theorem dX2_lowerDegree_53 : decode cX2_lowerDegree 53 = .ok (.iload_n 1, 1) := by decide +kernel
theorem dX2_lowerDegree_54 : decode cX2_lowerDegree 54 = .ok (.iload 5, 2) := by decide +kernel
theorem dX2_lowerDegree_56 : decode cX2_lowerDegree 56 = .ok (.getstatic 69, 3) := by decide +kernel
theorem dX2_lowerDegree_59 : decode cX2_lowerDegree 59 = .ok (.iload_n 3, 1) := by decide +kernel
theorem dX2_lowerDegree_60 : decode cX2_lowerDegree 60 = .ok (.iaload, 1) := by decide +kernel
theorem dX2_lowerDegree_61 : decode cX2_lowerDegree 61 = .ok (.imul, 1) := by decide +kernel
theorem dX2_lowerDegree_62 : decode cX2_lowerDegree 62 = .ok (.iload 6, 2) := by decide +kernel
theorem dX2_lowerDegree_64 : decode cX2_lowerDegree 64 = .ok (.getstatic 69, 3) := by decide +kernel
theorem dX2_lowerDegree_67 : decode cX2_lowerDegree 67 = .ok (.iload 4, 2) := by decide +kernel
theorem dX2_lowerDegree_69 : decode cX2_lowerDegree 69 = .ok (.iaload, 1) := by decide +kernel
theorem dX2_lowerDegree_70 : decode cX2_lowerDegree 70 = .ok (.imul, 1) := by decide +kernel
theorem dX2_lowerDegree_71 : decode cX2_lowerDegree 71 = .ok (.iadd, 1) := by decide +kernel
theorem dX2_lowerDegree_72 : decode cX2_lowerDegree 72 = .ok (.iload_n 2, 1) := by decide +kernel
theorem dX2_lowerDegree_73 : decode cX2_lowerDegree 73 = .ok (.iload 5, 2) := by decide +kernel
theorem dX2_lowerDegree_75 : decode cX2_lowerDegree 75 = .ok (.isub, 1) := by decide +kernel
theorem dX2_lowerDegree_76 : decode cX2_lowerDegree 76 = .ok (.iload 6, 2) := by decide +kernel
theorem dX2_lowerDegree_78 : decode cX2_lowerDegree 78 = .ok (.isub, 1) := by decide +kernel
theorem dX2_lowerDegree_79 : decode cX2_lowerDegree 79 = .ok (.invokevirtual 72, 3) := by decide +kernel
theorem dX2_lowerDegree_82 : decode cX2_lowerDegree 82 = .ok (.iinc 6 1, 3) := by decide +kernel
theorem dX2_lowerDegree_85 : decode cX2_lowerDegree 85 = .ok (.goto (-45), 3) := by decide +kernel
theorem dX2_lowerDegree_88 : decode cX2_lowerDegree 88 = .ok (.iinc 5 1, 3) := by decide +kernel
theorem dX2_lowerDegree_91 : decode cX2_lowerDegree 91 = .ok (.goto (-65), 3) := by decide +kernel
theorem dX2_lowerDegree_94 : decode cX2_lowerDegree 94 = .ok (.return_, 1) := by decide +kernel
set_option maxRecDepth 20000 in
theorem ggX2_lowerLine_X2_pairCell : GoodIn wsX2_lowerLine wsX2_pairCell := goodIn_r _ [12] (by decide +kernel) (by decide +kernel)
set_option maxRecDepth 20000 in
theorem gX2_lowerLine_X2_pairCell : GoodIn wsX2_lowerLine (va_wsS RX2 79 yX2_pairCell wsX2_pairCell) := goodIn_app (goodIn_of _ (by decide +kernel)) ggX2_lowerLine_X2_pairCell
set_option maxRecDepth 20000 in
theorem ggX2_lowerLine_X2_at : GoodIn wsX2_lowerLine wsX2_at := goodIn_r _ [16, 17, 22, 23] (by decide +kernel) (by decide +kernel)
set_option maxRecDepth 20000 in
theorem gX2_lowerLine_X2_at : GoodIn wsX2_lowerLine (wsV RX2 61 RX2 yX2_at wsX2_at) := goodIn_app (goodIn_of _ (by decide +kernel)) ggX2_lowerLine_X2_at
set_option maxRecDepth 20000 in
theorem ggX2_lowerLine_X2_put : GoodIn wsX2_lowerLine wsX2_put := goodIn_r _ [21, 17, 22, 23] (by decide +kernel) (by decide +kernel)
set_option maxRecDepth 20000 in
theorem gX2_lowerLine_X2_put : GoodIn wsX2_lowerLine (wsV RX2 82 RX2 yX2_put wsX2_put) := goodIn_app (goodIn_of _ (by decide +kernel)) ggX2_lowerLine_X2_put
theorem dX2_lowerLine_0 : decode cX2_lowerLine 0 = .ok (.iload_n 1, 1) := by decide +kernel
theorem dX2_lowerLine_1 : decode cX2_lowerLine 1 = .ok (.iconst 1, 1) := by decide +kernel
theorem dX2_lowerLine_2 : decode cX2_lowerLine 2 = .ok (.if_icmp .lt 8, 3) := by decide +kernel
theorem dX2_lowerLine_5 : decode cX2_lowerLine 5 = .ok (.iload_n 1, 1) := by decide +kernel
theorem dX2_lowerLine_6 : decode cX2_lowerLine 6 = .ok (.iconst 4, 1) := by decide +kernel
theorem dX2_lowerLine_7 : decode cX2_lowerLine 7 = .ok (.if_icmp .lt 4, 3) := by decide +kernel
theorem dX2_lowerLine_10 : decode cX2_lowerLine 10 = .ok (.return_, 1) := by decide +kernel
theorem dX2_lowerLine_11 : decode cX2_lowerLine 11 = .ok (.lconst 0, 1) := by decide +kernel
theorem dX2_lowerLine_12 : decode cX2_lowerLine 12 = .ok (.lstore 4, 2) := by decide +kernel
theorem dX2_lowerLine_14 : decode cX2_lowerLine 14 = .ok (.iload_n 3, 1) := by decide +kernel
theorem dX2_lowerLine_15 : decode cX2_lowerLine 15 = .ok (.iconst 1, 1) := by decide +kernel
theorem dX2_lowerLine_16 : decode cX2_lowerLine 16 = .ok (.isub, 1) := by decide +kernel
theorem dX2_lowerLine_17 : decode cX2_lowerLine 17 = .ok (.aload_n 0, 1) := by decide +kernel
theorem dX2_lowerLine_18 : decode cX2_lowerLine 18 = .ok (.getfield 15, 3) := by decide +kernel
theorem dX2_lowerLine_21 : decode cX2_lowerLine 21 = .ok (.iload_n 1, 1) := by decide +kernel
theorem dX2_lowerLine_22 : decode cX2_lowerLine 22 = .ok (.iaload, 1) := by decide +kernel
theorem dX2_lowerLine_23 : decode cX2_lowerLine 23 = .ok (.aload_n 0, 1) := by decide +kernel
theorem dX2_lowerLine_24 : decode cX2_lowerLine 24 = .ok (.getfield 15, 3) := by decide +kernel
theorem dX2_lowerLine_27 : decode cX2_lowerLine 27 = .ok (.iload_n 1, 1) := by decide +kernel
theorem dX2_lowerLine_28 : decode cX2_lowerLine 28 = .ok (.iconst 1, 1) := by decide +kernel
theorem dX2_lowerLine_29 : decode cX2_lowerLine 29 = .ok (.iadd, 1) := by decide +kernel
theorem dX2_lowerLine_30 : decode cX2_lowerLine 30 = .ok (.iaload, 1) := by decide +kernel
theorem dX2_lowerLine_31 : decode cX2_lowerLine 31 = .ok (.invokestatic 45, 3) := by decide +kernel
theorem dX2_lowerLine_34 : decode cX2_lowerLine 34 = .ok (.invokestatic 76, 3) := by decide +kernel
theorem dX2_lowerLine_37 : decode cX2_lowerLine 37 = .ok (.istore 6, 2) := by decide +kernel
theorem dX2_lowerLine_39 : decode cX2_lowerLine 39 = .ok (.iload 6, 2) := by decide +kernel
theorem dX2_lowerLine_41 : decode cX2_lowerLine 41 = .ok (.istore 7, 2) := by decide +kernel
theorem dX2_lowerLine_43 : decode cX2_lowerLine 43 = .ok (.iconst 2, 1) := by decide +kernel
theorem dX2_lowerLine_44 : decode cX2_lowerLine 44 = .ok (.iload 7, 2) := by decide +kernel
theorem dX2_lowerLine_46 : decode cX2_lowerLine 46 = .ok (.imul, 1) := by decide +kernel
theorem dX2_lowerLine_47 : decode cX2_lowerLine 47 = .ok (.iload_n 3, 1) := by decide +kernel
theorem dX2_lowerLine_48 : decode cX2_lowerLine 48 = .ok (.iconst 2, 1) := by decide +kernel
theorem dX2_lowerLine_49 : decode cX2_lowerLine 49 = .ok (.isub, 1) := by decide +kernel
theorem dX2_lowerLine_50 : decode cX2_lowerLine 50 = .ok (.if_icmp .lt 113, 3) := by decide +kernel
theorem dX2_lowerLine_53 : decode cX2_lowerLine 53 = .ok (.iload_n 1, 1) := by decide +kernel
theorem dX2_lowerLine_54 : decode cX2_lowerLine 54 = .ok (.iload_n 2, 1) := by decide +kernel
theorem dX2_lowerLine_55 : decode cX2_lowerLine 55 = .ok (.iload 7, 2) := by decide +kernel
theorem dX2_lowerLine_57 : decode cX2_lowerLine 57 = .ok (.iconst 1, 1) := by decide +kernel
theorem dX2_lowerLine_58 : decode cX2_lowerLine 58 = .ok (.iadd, 1) := by decide +kernel
theorem dX2_lowerLine_59 : decode cX2_lowerLine 59 = .ok (.iload_n 3, 1) := by decide +kernel
theorem dX2_lowerLine_60 : decode cX2_lowerLine 60 = .ok (.iload 7, 2) := by decide +kernel
theorem dX2_lowerLine_62 : decode cX2_lowerLine 62 = .ok (.isub, 1) := by decide +kernel
theorem dX2_lowerLine_63 : decode cX2_lowerLine 63 = .ok (.iconst 1, 1) := by decide +kernel
theorem dX2_lowerLine_64 : decode cX2_lowerLine 64 = .ok (.isub, 1) := by decide +kernel
theorem dX2_lowerLine_65 : decode cX2_lowerLine 65 = .ok (.invokestatic 79, 3) := by decide +kernel
theorem dX2_lowerLine_68 : decode cX2_lowerLine 68 = .ok (.istore 8, 2) := by decide +kernel
theorem dX2_lowerLine_70 : decode cX2_lowerLine 70 = .ok (.iload_n 1, 1) := by decide +kernel
theorem dX2_lowerLine_71 : decode cX2_lowerLine 71 = .ok (.iload_n 2, 1) := by decide +kernel
theorem dX2_lowerLine_72 : decode cX2_lowerLine 72 = .ok (.iload_n 3, 1) := by decide +kernel
theorem dX2_lowerLine_73 : decode cX2_lowerLine 73 = .ok (.iload 7, 2) := by decide +kernel
theorem dX2_lowerLine_75 : decode cX2_lowerLine 75 = .ok (.isub, 1) := by decide +kernel
theorem dX2_lowerLine_76 : decode cX2_lowerLine 76 = .ok (.iconst 1, 1) := by decide +kernel
theorem dX2_lowerLine_77 : decode cX2_lowerLine 77 = .ok (.isub, 1) := by decide +kernel
theorem dX2_lowerLine_78 : decode cX2_lowerLine 78 = .ok (.iload 7, 2) := by decide +kernel
theorem dX2_lowerLine_80 : decode cX2_lowerLine 80 = .ok (.iconst 1, 1) := by decide +kernel
theorem dX2_lowerLine_81 : decode cX2_lowerLine 81 = .ok (.iadd, 1) := by decide +kernel
theorem dX2_lowerLine_82 : decode cX2_lowerLine 82 = .ok (.invokestatic 79, 3) := by decide +kernel
theorem dX2_lowerLine_85 : decode cX2_lowerLine 85 = .ok (.istore 9, 2) := by decide +kernel
theorem dX2_lowerLine_87 : decode cX2_lowerLine 87 = .ok (.lload 4, 2) := by decide +kernel
theorem dX2_lowerLine_89 : decode cX2_lowerLine 89 = .ok (.aload_n 0, 1) := by decide +kernel
theorem dX2_lowerLine_90 : decode cX2_lowerLine 90 = .ok (.iload 8, 2) := by decide +kernel
theorem dX2_lowerLine_92 : decode cX2_lowerLine 92 = .ok (.invokevirtual 61, 3) := by decide +kernel
theorem dX2_lowerLine_95 : decode cX2_lowerLine 95 = .ok (.aload_n 0, 1) := by decide +kernel
theorem dX2_lowerLine_96 : decode cX2_lowerLine 96 = .ok (.iload 9, 2) := by decide +kernel
theorem dX2_lowerLine_98 : decode cX2_lowerLine 98 = .ok (.invokevirtual 61, 3) := by decide +kernel
theorem dX2_lowerLine_101 : decode cX2_lowerLine 101 = .ok (.lsub, 1) := by decide +kernel
theorem dX2_lowerLine_102 : decode cX2_lowerLine 102 = .ok (.ladd, 1) := by decide +kernel
theorem dX2_lowerLine_103 : decode cX2_lowerLine 103 = .ok (.lstore 4, 2) := by decide +kernel
theorem dX2_lowerLine_105 : decode cX2_lowerLine 105 = .ok (.aload_n 0, 1) := by decide +kernel
theorem dX2_lowerLine_106 : decode cX2_lowerLine 106 = .ok (.iload 8, 2) := by decide +kernel
theorem dX2_lowerLine_108 : decode cX2_lowerLine 108 = .ok (.lconst 0, 1) := by decide +kernel
theorem dX2_lowerLine_109 : decode cX2_lowerLine 109 = .ok (.invokevirtual 82, 3) := by decide +kernel
theorem dX2_lowerLine_112 : decode cX2_lowerLine 112 = .ok (.aload_n 0, 1) := by decide +kernel
theorem dX2_lowerLine_113 : decode cX2_lowerLine 113 = .ok (.iload 9, 2) := by decide +kernel
theorem dX2_lowerLine_115 : decode cX2_lowerLine 115 = .ok (.lconst 0, 1) := by decide +kernel
theorem dX2_lowerLine_116 : decode cX2_lowerLine 116 = .ok (.invokevirtual 82, 3) := by decide +kernel
theorem dX2_lowerLine_119 : decode cX2_lowerLine 119 = .ok (.aload_n 0, 1) := by decide +kernel
theorem dX2_lowerLine_120 : decode cX2_lowerLine 120 = .ok (.iload_n 1, 1) := by decide +kernel
theorem dX2_lowerLine_121 : decode cX2_lowerLine 121 = .ok (.iload_n 2, 1) := by decide +kernel
theorem dX2_lowerLine_122 : decode cX2_lowerLine 122 = .ok (.iload 7, 2) := by decide +kernel
theorem dX2_lowerLine_124 : decode cX2_lowerLine 124 = .ok (.iload_n 3, 1) := by decide +kernel
theorem dX2_lowerLine_125 : decode cX2_lowerLine 125 = .ok (.iconst 1, 1) := by decide +kernel
theorem dX2_lowerLine_126 : decode cX2_lowerLine 126 = .ok (.isub, 1) := by decide +kernel
theorem dX2_lowerLine_127 : decode cX2_lowerLine 127 = .ok (.iload 7, 2) := by decide +kernel
theorem dX2_lowerLine_129 : decode cX2_lowerLine 129 = .ok (.isub, 1) := by decide +kernel
theorem dX2_lowerLine_130 : decode cX2_lowerLine 130 = .ok (.invokestatic 79, 3) := by decide +kernel
theorem dX2_lowerLine_133 : decode cX2_lowerLine 133 = .ok (.lload 4, 2) := by decide +kernel
theorem dX2_lowerLine_135 : decode cX2_lowerLine 135 = .ok (.invokevirtual 82, 3) := by decide +kernel
theorem dX2_lowerLine_138 : decode cX2_lowerLine 138 = .ok (.aload_n 0, 1) := by decide +kernel
theorem dX2_lowerLine_139 : decode cX2_lowerLine 139 = .ok (.iload_n 1, 1) := by decide +kernel
theorem dX2_lowerLine_140 : decode cX2_lowerLine 140 = .ok (.iload_n 2, 1) := by decide +kernel
theorem dX2_lowerLine_141 : decode cX2_lowerLine 141 = .ok (.iload_n 3, 1) := by decide +kernel
theorem dX2_lowerLine_142 : decode cX2_lowerLine 142 = .ok (.iconst 1, 1) := by decide +kernel
theorem dX2_lowerLine_143 : decode cX2_lowerLine 143 = .ok (.isub, 1) := by decide +kernel
theorem dX2_lowerLine_144 : decode cX2_lowerLine 144 = .ok (.iload 7, 2) := by decide +kernel
theorem dX2_lowerLine_146 : decode cX2_lowerLine 146 = .ok (.isub, 1) := by decide +kernel
theorem dX2_lowerLine_147 : decode cX2_lowerLine 147 = .ok (.iload 7, 2) := by decide +kernel
theorem dX2_lowerLine_149 : decode cX2_lowerLine 149 = .ok (.invokestatic 79, 3) := by decide +kernel
theorem dX2_lowerLine_152 : decode cX2_lowerLine 152 = .ok (.lload 4, 2) := by decide +kernel
theorem dX2_lowerLine_154 : decode cX2_lowerLine 154 = .ok (.invokevirtual 82, 3) := by decide +kernel
theorem dX2_lowerLine_157 : decode cX2_lowerLine 157 = .ok (.iinc 7 (-1), 3) := by decide +kernel
theorem dX2_lowerLine_160 : decode cX2_lowerLine 160 = .ok (.goto (-117), 3) := by decide +kernel
theorem dX2_lowerLine_163 : decode cX2_lowerLine 163 = .ok (.return_, 1) := by decide +kernel
theorem dX2_pairCell_0 : decode cX2_pairCell 0 = .ok (.iload_n 0, 1) := by decide +kernel
theorem dX2_pairCell_1 : decode cX2_pairCell 1 = .ok (.iconst 1, 1) := by decide +kernel
theorem dX2_pairCell_2 : decode cX2_pairCell 2 = .ok (.if_icmp .lt 36, 3) := by decide +kernel
theorem dX2_pairCell_5 : decode cX2_pairCell 5 = .ok (.iload_n 0, 1) := by decide +kernel
theorem dX2_pairCell_6 : decode cX2_pairCell 6 = .ok (.iconst 4, 1) := by decide +kernel
theorem dX2_pairCell_7 : decode cX2_pairCell 7 = .ok (.if_icmp .ge 31, 3) := by decide +kernel
theorem dX2_pairCell_10 : decode cX2_pairCell 10 = .ok (.iload_n 2, 1) := by decide +kernel
theorem dX2_pairCell_11 : decode cX2_pairCell 11 = .ok (.ifCond .lt 27, 3) := by decide +kernel
theorem dX2_pairCell_14 : decode cX2_pairCell 14 = .ok (.iload_n 2, 1) := by decide +kernel
theorem dX2_pairCell_15 : decode cX2_pairCell 15 = .ok (.getstatic 50, 3) := by decide +kernel
theorem dX2_pairCell_18 : decode cX2_pairCell 18 = .ok (.iload_n 0, 1) := by decide +kernel
theorem dX2_pairCell_19 : decode cX2_pairCell 19 = .ok (.iaload, 1) := by decide +kernel
theorem dX2_pairCell_20 : decode cX2_pairCell 20 = .ok (.if_icmp .gt 18, 3) := by decide +kernel
theorem dX2_pairCell_23 : decode cX2_pairCell 23 = .ok (.iload_n 3, 1) := by decide +kernel
theorem dX2_pairCell_24 : decode cX2_pairCell 24 = .ok (.ifCond .lt 14, 3) := by decide +kernel
theorem dX2_pairCell_27 : decode cX2_pairCell 27 = .ok (.iload_n 3, 1) := by decide +kernel
theorem dX2_pairCell_28 : decode cX2_pairCell 28 = .ok (.getstatic 50, 3) := by decide +kernel
theorem dX2_pairCell_31 : decode cX2_pairCell 31 = .ok (.iload_n 0, 1) := by decide +kernel
theorem dX2_pairCell_32 : decode cX2_pairCell 32 = .ok (.iconst 1, 1) := by decide +kernel
theorem dX2_pairCell_33 : decode cX2_pairCell 33 = .ok (.iadd, 1) := by decide +kernel
theorem dX2_pairCell_34 : decode cX2_pairCell 34 = .ok (.iaload, 1) := by decide +kernel
theorem dX2_pairCell_35 : decode cX2_pairCell 35 = .ok (.if_icmp .le 5, 3) := by decide +kernel
theorem dX2_pairCell_38 : decode cX2_pairCell 38 = .ok (.iconst (-1), 1) := by decide +kernel
theorem dX2_pairCell_39 : decode cX2_pairCell 39 = .ok (.ireturn, 1) := by decide +kernel
theorem dX2_pairCell_40 : decode cX2_pairCell 40 = .ok (.iload_n 1, 1) := by decide +kernel
theorem dX2_pairCell_41 : decode cX2_pairCell 41 = .ok (.iload_n 2, 1) := by decide +kernel
theorem dX2_pairCell_42 : decode cX2_pairCell 42 = .ok (.getstatic 69, 3) := by decide +kernel
theorem dX2_pairCell_45 : decode cX2_pairCell 45 = .ok (.iload_n 0, 1) := by decide +kernel
theorem dX2_pairCell_46 : decode cX2_pairCell 46 = .ok (.iaload, 1) := by decide +kernel
theorem dX2_pairCell_47 : decode cX2_pairCell 47 = .ok (.imul, 1) := by decide +kernel
theorem dX2_pairCell_48 : decode cX2_pairCell 48 = .ok (.iadd, 1) := by decide +kernel
theorem dX2_pairCell_49 : decode cX2_pairCell 49 = .ok (.iload_n 3, 1) := by decide +kernel
theorem dX2_pairCell_50 : decode cX2_pairCell 50 = .ok (.getstatic 69, 3) := by decide +kernel
theorem dX2_pairCell_53 : decode cX2_pairCell 53 = .ok (.iload_n 0, 1) := by decide +kernel
theorem dX2_pairCell_54 : decode cX2_pairCell 54 = .ok (.iconst 1, 1) := by decide +kernel
theorem dX2_pairCell_55 : decode cX2_pairCell 55 = .ok (.iadd, 1) := by decide +kernel
theorem dX2_pairCell_56 : decode cX2_pairCell 56 = .ok (.iaload, 1) := by decide +kernel
theorem dX2_pairCell_57 : decode cX2_pairCell 57 = .ok (.imul, 1) := by decide +kernel
theorem dX2_pairCell_58 : decode cX2_pairCell 58 = .ok (.iadd, 1) := by decide +kernel
theorem dX2_pairCell_59 : decode cX2_pairCell 59 = .ok (.ireturn, 1) := by decide +kernel
theorem dX2_put_0 : decode cX2_put 0 = .ok (.iload_n 1, 1) := by decide +kernel
theorem dX2_put_1 : decode cX2_put 1 = .ok (.ifCond .lt 17, 3) := by decide +kernel
theorem dX2_put_4 : decode cX2_put 4 = .ok (.iload_n 1, 1) := by decide +kernel
theorem dX2_put_5 : decode cX2_put 5 = .ok (.sipush 3024, 3) := by decide +kernel
theorem dX2_put_8 : decode cX2_put 8 = .ok (.if_icmp .ge 10, 3) := by decide +kernel
theorem dX2_put_11 : decode cX2_put 11 = .ok (.aload_n 0, 1) := by decide +kernel
theorem dX2_put_12 : decode cX2_put 12 = .ok (.getfield 9, 3) := by decide +kernel
theorem dX2_put_15 : decode cX2_put 15 = .ok (.iload_n 1, 1) := by decide +kernel
theorem dX2_put_16 : decode cX2_put 16 = .ok (.lload_n 2, 1) := by decide +kernel
theorem dX2_put_17 : decode cX2_put 17 = .ok (.lastore, 1) := by decide +kernel
theorem dX2_put_18 : decode cX2_put 18 = .ok (.return_, 1) := by decide +kernel
set_option maxRecDepth 20000 in
theorem ggX3_init_X2_init : GoodIn wsX3_init wsX2_init := goodIn_r _ [14, 15, 2, 3, 16, 17, 18, 19, 30, 31] (by decide +kernel) (by decide +kernel)
set_option maxRecDepth 20000 in
theorem gX3_init_X2_init_n11 : GoodIn wsX3_init (wsX2_init) := ggX3_init_X2_init
set_option maxRecDepth 20000 in
theorem ggX3_init_X0_init : GoodIn wsX3_init wsX0_init := goodIn_r _ [22, 23, 2, 3, 24, 25, 26, 27, 28, 18, 29, 35, 36] (by decide +kernel) (by decide +kernel)
set_option maxRecDepth 20000 in
theorem gX3_init_X0_init : GoodIn wsX3_init (wsX0_init) := ggX3_init_X0_init
theorem dX3_init_0 : decode cX3_init 0 = .ok (.aload_n 0, 1) := by decide +kernel
theorem dX3_init_1 : decode cX3_init 1 = .ok (.invokespecial 3, 3) := by decide +kernel
theorem dX3_init_4 : decode cX3_init 4 = .ok (.aload_n 0, 1) := by decide +kernel
theorem dX3_init_5 : decode cX3_init 5 = .ok (.new 9, 3) := by decide +kernel
theorem dX3_init_8 : decode cX3_init 8 = .ok (.dup, 1) := by decide +kernel
theorem dX3_init_9 : decode cX3_init 9 = .ok (.invokespecial 11, 3) := by decide +kernel
theorem dX3_init_12 : decode cX3_init 12 = .ok (.putfield 12, 3) := by decide +kernel
theorem dX3_init_15 : decode cX3_init 15 = .ok (.aload_n 0, 1) := by decide +kernel
theorem dX3_init_16 : decode cX3_init 16 = .ok (.new 18, 3) := by decide +kernel
theorem dX3_init_19 : decode cX3_init 19 = .ok (.dup, 1) := by decide +kernel
theorem dX3_init_20 : decode cX3_init 20 = .ok (.sipush 3024, 3) := by decide +kernel
theorem dX3_init_23 : decode cX3_init 23 = .ok (.invokespecial 20, 3) := by decide +kernel
theorem dX3_init_26 : decode cX3_init 26 = .ok (.putfield 23, 3) := by decide +kernel
theorem dX3_init_29 : decode cX3_init 29 = .ok (.aload_n 0, 1) := by decide +kernel
theorem dX3_init_30 : decode cX3_init 30 = .ok (.iconst 0, 1) := by decide +kernel
theorem dX3_init_31 : decode cX3_init 31 = .ok (.putfield 27, 3) := by decide +kernel
theorem dX3_init_34 : decode cX3_init 34 = .ok (.return_, 1) := by decide +kernel
theorem dX3_forget_0 : decode cX3_forget 0 = .ok (.aload_n 0, 1) := by decide +kernel
theorem dX3_forget_1 : decode cX3_forget 1 = .ok (.iconst 0, 1) := by decide +kernel
theorem dX3_forget_2 : decode cX3_forget 2 = .ok (.putfield 27, 3) := by decide +kernel
theorem dX3_forget_5 : decode cX3_forget 5 = .ok (.return_, 1) := by decide +kernel
set_option maxRecDepth 20000 in
theorem ggX3_lendCells_X3_forget : GoodIn wsX3_lendCells wsX3_forget := goodIn_r _ [6, 7, 8, 9, 10] (by decide +kernel) (by decide +kernel)
set_option maxRecDepth 20000 in
theorem gX3_lendCells_X3_forget : GoodIn wsX3_lendCells (wsV RX3 31 RX3 yX3_forget wsX3_forget) := goodIn_app (goodIn_of _ (by decide +kernel)) ggX3_lendCells_X3_forget
theorem dX3_lendCells_0 : decode cX3_lendCells 0 = .ok (.aload_n 0, 1) := by decide +kernel
theorem dX3_lendCells_1 : decode cX3_lendCells 1 = .ok (.invokevirtual 31, 3) := by decide +kernel
theorem dX3_lendCells_4 : decode cX3_lendCells 4 = .ok (.aload_n 0, 1) := by decide +kernel
theorem dX3_lendCells_5 : decode cX3_lendCells 5 = .ok (.getfield 12, 3) := by decide +kernel
theorem dX3_lendCells_8 : decode cX3_lendCells 8 = .ok (.areturn, 1) := by decide +kernel
set_option maxRecDepth 20000 in
theorem ggX3_find_X2_copy : GoodIn wsX3_find wsX2_copy := goodIn_r _ [9, 10, 11, 12, 13, 14, 128, 129] (by decide +kernel) (by decide +kernel)
set_option maxRecDepth 20000 in
theorem gX3_find_X2_copy : GoodIn wsX3_find (wsV RX3 34 RX2 yX2_copy wsX2_copy) := goodIn_app (goodIn_of _ (by decide +kernel)) ggX3_find_X2_copy
set_option maxRecDepth 20000 in
theorem ggX3_find_X0_clear : GoodIn wsX3_find wsX0_clear := goodIn_r _ [19, 20, 130, 131] (by decide +kernel) (by decide +kernel)
set_option maxRecDepth 20000 in
theorem gX3_find_X0_clear : GoodIn wsX3_find (wsV RX3 38 RX0 yX0_clear wsX0_clear) := goodIn_app (goodIn_of _ (by decide +kernel)) ggX3_find_X0_clear
set_option maxRecDepth 20000 in
theorem ggX3_find_X2_at : GoodIn wsX3_find wsX2_at := goodIn_r _ [24, 10, 128, 129] (by decide +kernel) (by decide +kernel)
set_option maxRecDepth 20000 in
theorem gX3_find_X2_at : GoodIn wsX3_find (wsV RX3 41 RX2 yX2_at wsX2_at) := goodIn_app (goodIn_of _ (by decide +kernel)) ggX3_find_X2_at
set_option maxRecDepth 20000 in
theorem ggX3_find_X4_make : GoodIn wsX3_find wsX4_make := goodIn_r _ [29, 30, 31, 32, 33, 34, 35, 36, 37, 38, 39, 28, 40, 41, 42, 43, 44, 45, 46, 47, 48, 49, 50, 51, 52, 53, 54, 55, 56, 8, 57, 10, 58, 59, 60, 61, 62, 63, 64, 65, 66, 67, 68, 69, 70, 71, 72, 73, 74, 75, 76, 77, 78, 79, 80, 81, 82, 83, 84, 85, 86, 87, 88, 89, 22, 23, 24, 90, 91, 92, 93, 124, 125, 126, 127, 128, 129] (by decide +kernel) (by decide +kernel)
set_option maxRecDepth 20000 in
theorem gX3_find_X4_make : GoodIn wsX3_find (wsV RX3 45 RX4 yX4_make wsX4_make) := goodIn_app (goodIn_of _ (by decide +kernel)) ggX3_find_X4_make
set_option maxRecDepth 20000 in
theorem ggX3_find_X2_addTimes : GoodIn wsX3_find wsX2_addTimes := goodIn_r _ [97, 10, 128, 129] (by decide +kernel) (by decide +kernel)
set_option maxRecDepth 20000 in
theorem gX3_find_X2_addTimes : GoodIn wsX3_find (wsV RX3 53 RX2 yX2_addTimes wsX2_addTimes) := goodIn_app (goodIn_of _ (by decide +kernel)) ggX3_find_X2_addTimes
set_option maxRecDepth 20000 in
theorem ggX3_find_X1_becomeOfCode : GoodIn wsX3_find wsX1_becomeOfCode := goodIn_r _ [102, 103, 34, 35, 36, 104, 105, 101, 106, 132] (by decide +kernel) (by decide +kernel)
set_option maxRecDepth 20000 in
theorem gX3_find_X1_becomeOfCode : GoodIn wsX3_find (wsV RX3 57 RX1 yX1_becomeOfCode wsX1_becomeOfCode) := goodIn_app (goodIn_of _ (by decide +kernel)) ggX3_find_X1_becomeOfCode
set_option maxRecDepth 20000 in
theorem ggX3_find_X1_plainNumber : GoodIn wsX3_find wsX1_plainNumber := goodIn_r _ [110, 103, 111, 112, 113, 101, 114, 132] (by decide +kernel) (by decide +kernel)
set_option maxRecDepth 20000 in
theorem gX3_find_X1_plainNumber : GoodIn wsX3_find (wsV RX3 62 RX1 yX1_plainNumber wsX1_plainNumber) := goodIn_app (goodIn_of _ (by decide +kernel)) ggX3_find_X1_plainNumber
set_option maxRecDepth 20000 in
theorem ggX3_find_X0_put : GoodIn wsX3_find wsX0_put := goodIn_r _ [118, 20, 119, 120, 12, 13, 14, 130, 131] (by decide +kernel) (by decide +kernel)
set_option maxRecDepth 20000 in
theorem gX3_find_X0_put : GoodIn wsX3_find (wsV RX3 66 RX0 yX0_put wsX0_put) := goodIn_app (goodIn_of _ (by decide +kernel)) ggX3_find_X0_put
theorem dX3_find_0 : decode cX3_find 0 = .ok (.aload_n 0, 1) := by decide +kernel
theorem dX3_find_1 : decode cX3_find 1 = .ok (.getfield 27, 3) := by decide +kernel
theorem dX3_find_4 : decode cX3_find 4 = .ok (.ifCond .eq 4, 3) := by decide +kernel
theorem dX3_find_7 : decode cX3_find 7 = .ok (.return_, 1) := by decide +kernel
theorem dX3_find_8 : decode cX3_find 8 = .ok (.aload_n 0, 1) := by decide +kernel
theorem dX3_find_9 : decode cX3_find 9 = .ok (.getfield 12, 3) := by decide +kernel
theorem dX3_find_12 : decode cX3_find 12 = .ok (.aload_n 1, 1) := by decide +kernel
theorem dX3_find_13 : decode cX3_find 13 = .ok (.invokevirtual 34, 3) := by decide +kernel
theorem dX3_find_16 : decode cX3_find 16 = .ok (.aload_n 0, 1) := by decide +kernel
theorem dX3_find_17 : decode cX3_find 17 = .ok (.getfield 23, 3) := by decide +kernel
theorem dX3_find_20 : decode cX3_find 20 = .ok (.invokevirtual 38, 3) := by decide +kernel
theorem dX3_find_23 : decode cX3_find 23 = .ok (.sipush 3023, 3) := by decide +kernel
theorem dX3_find_26 : decode cX3_find 26 = .ok (.istore 4, 2) := by decide +kernel
theorem dX3_find_28 : decode cX3_find 28 = .ok (.iload 4, 2) := by decide +kernel
theorem dX3_find_30 : decode cX3_find 30 = .ok (.ifCond .lt 66, 3) := by decide +kernel
theorem dX3_find_33 : decode cX3_find 33 = .ok (.aload_n 0, 1) := by decide +kernel
theorem dX3_find_34 : decode cX3_find 34 = .ok (.getfield 12, 3) := by decide +kernel
theorem dX3_find_37 : decode cX3_find 37 = .ok (.iload 4, 2) := by decide +kernel
theorem dX3_find_39 : decode cX3_find 39 = .ok (.invokevirtual 41, 3) := by decide +kernel
theorem dX3_find_42 : decode cX3_find 42 = .ok (.lstore 5, 2) := by decide +kernel
theorem dX3_find_44 : decode cX3_find 44 = .ok (.lload 5, 2) := by decide +kernel
theorem dX3_find_46 : decode cX3_find 46 = .ok (.lconst 0, 1) := by decide +kernel
theorem dX3_find_47 : decode cX3_find 47 = .ok (.lcmp, 1) := by decide +kernel
theorem dX3_find_48 : decode cX3_find 48 = .ok (.ifCond .eq 42, 3) := by decide +kernel
theorem dX3_find_51 : decode cX3_find 51 = .ok (.aload_n 2, 1) := by decide +kernel
theorem dX3_find_52 : decode cX3_find 52 = .ok (.iload 4, 2) := by decide +kernel
theorem dX3_find_54 : decode cX3_find 54 = .ok (.invokevirtual 45, 3) := by decide +kernel
theorem dX3_find_57 : decode cX3_find 57 = .ok (.aload_n 0, 1) := by decide +kernel
theorem dX3_find_58 : decode cX3_find 58 = .ok (.getfield 12, 3) := by decide +kernel
theorem dX3_find_61 : decode cX3_find 61 = .ok (.lload 5, 2) := by decide +kernel
theorem dX3_find_63 : decode cX3_find 63 = .ok (.lneg, 1) := by decide +kernel
theorem dX3_find_64 : decode cX3_find 64 = .ok (.aload_n 2, 1) := by decide +kernel
theorem dX3_find_65 : decode cX3_find 65 = .ok (.getfield 50, 3) := by decide +kernel
theorem dX3_find_68 : decode cX3_find 68 = .ok (.iload 4, 2) := by decide +kernel
theorem dX3_find_70 : decode cX3_find 70 = .ok (.invokevirtual 53, 3) := by decide +kernel
theorem dX3_find_73 : decode cX3_find 73 = .ok (.aload_n 3, 1) := by decide +kernel
theorem dX3_find_74 : decode cX3_find 74 = .ok (.iload 4, 2) := by decide +kernel
theorem dX3_find_76 : decode cX3_find 76 = .ok (.invokevirtual 57, 3) := by decide +kernel
theorem dX3_find_79 : decode cX3_find 79 = .ok (.aload_n 0, 1) := by decide +kernel
theorem dX3_find_80 : decode cX3_find 80 = .ok (.getfield 23, 3) := by decide +kernel
theorem dX3_find_83 : decode cX3_find 83 = .ok (.aload_n 3, 1) := by decide +kernel
theorem dX3_find_84 : decode cX3_find 84 = .ok (.invokevirtual 62, 3) := by decide +kernel
theorem dX3_find_87 : decode cX3_find 87 = .ok (.invokevirtual 66, 3) := by decide +kernel
theorem dX3_find_90 : decode cX3_find 90 = .ok (.iinc 4 (-1), 3) := by decide +kernel
theorem dX3_find_93 : decode cX3_find 93 = .ok (.goto (-65), 3) := by decide +kernel
theorem dX3_find_96 : decode cX3_find 96 = .ok (.aload_n 0, 1) := by decide +kernel
theorem dX3_find_97 : decode cX3_find 97 = .ok (.iconst 1, 1) := by decide +kernel
theorem dX3_find_98 : decode cX3_find 98 = .ok (.putfield 27, 3) := by decide +kernel
theorem dX3_find_101 : decode cX3_find 101 = .ok (.return_, 1) := by decide +kernel
set_option maxRecDepth 20000 in
theorem ggX4_init_X2_init : GoodIn wsX4_init wsX2_init := goodIn_r _ [13, 14, 2, 3, 15, 16, 8, 17, 18, 19] (by decide +kernel) (by decide +kernel)
set_option maxRecDepth 20000 in
theorem gX4_init_X2_init_n11 : GoodIn wsX4_init (wsX2_init) := ggX4_init_X2_init
theorem dX4_init_0 : decode cX4_init 0 = .ok (.aload_n 0, 1) := by decide +kernel
theorem dX4_init_1 : decode cX4_init 1 = .ok (.invokespecial 3, 3) := by decide +kernel
theorem dX4_init_4 : decode cX4_init 4 = .ok (.aload_n 0, 1) := by decide +kernel
theorem dX4_init_5 : decode cX4_init 5 = .ok (.new 9, 3) := by decide +kernel
theorem dX4_init_8 : decode cX4_init 8 = .ok (.dup, 1) := by decide +kernel
theorem dX4_init_9 : decode cX4_init 9 = .ok (.invokespecial 11, 3) := by decide +kernel
theorem dX4_init_12 : decode cX4_init 12 = .ok (.putfield 12, 3) := by decide +kernel
theorem dX4_init_15 : decode cX4_init 15 = .ok (.aload_n 0, 1) := by decide +kernel
theorem dX4_init_16 : decode cX4_init 16 = .ok (.iconst 5, 1) := by decide +kernel
theorem dX4_init_17 : decode cX4_init 17 = .ok (.newarray .int, 2) := by decide +kernel
theorem dX4_init_19 : decode cX4_init 19 = .ok (.putfield 18, 3) := by decide +kernel
theorem dX4_init_22 : decode cX4_init 22 = .ok (.aload_n 0, 1) := by decide +kernel
theorem dX4_init_23 : decode cX4_init 23 = .ok (.bipush 6, 2) := by decide +kernel
theorem dX4_init_25 : decode cX4_init 25 = .ok (.newarray .int, 2) := by decide +kernel
theorem dX4_init_27 : decode cX4_init 27 = .ok (.putfield 22, 3) := by decide +kernel
theorem dX4_init_30 : decode cX4_init 30 = .ok (.aload_n 0, 1) := by decide +kernel
theorem dX4_init_31 : decode cX4_init 31 = .ok (.iconst (-1), 1) := by decide +kernel
theorem dX4_init_32 : decode cX4_init 32 = .ok (.putfield 25, 3) := by decide +kernel
theorem dX4_init_35 : decode cX4_init 35 = .ok (.return_, 1) := by decide +kernel
set_option maxRecDepth 20000 in
theorem ggX4_make_X5_exponentAt : GoodIn wsX4_make wsX5_exponentAt := goodIn_r _ [7] (by decide +kernel) (by decide +kernel)
set_option maxRecDepth 20000 in
theorem gX4_make_X5_exponentAt_n29 : GoodIn wsX4_make (wsX5_exponentAt) := ggX4_make_X5_exponentAt
set_option maxRecDepth 20000 in
theorem ggX4_make_X4_climb : GoodIn wsX4_make wsX4_climb := goodIn_r _ [12, 4, 13, 14, 15, 11, 16, 2, 17, 18, 19, 20, 71, 72, 73, 74] (by decide +kernel) (by decide +kernel)
set_option maxRecDepth 20000 in
theorem gX4_make_X4_climb : GoodIn wsX4_make (wsV RX4 33 RX4 yX4_climb wsX4_climb) := goodIn_app (goodIn_of _ (by decide +kernel)) ggX4_make_X4_climb
set_option maxRecDepth 20000 in
theorem ggX4_make_X5_cellOf : GoodIn wsX4_make wsX5_cellOf := goodIn_r _ [22, 23, 24, 6, 25] (by decide +kernel) (by decide +kernel)
set_option maxRecDepth 20000 in
theorem gX4_make_X5_cellOf_n37 : GoodIn wsX4_make (wsX5_cellOf) := ggX4_make_X5_cellOf
set_option maxRecDepth 20000 in
theorem ggX4_make_X2_becomeMonomial : GoodIn wsX4_make wsX2_becomeMonomial := goodIn_r _ [30, 31, 32, 33, 34, 35, 29, 36, 37, 38, 39, 40, 5, 6, 7, 75, 76] (by decide +kernel) (by decide +kernel)
set_option maxRecDepth 20000 in
theorem gX4_make_X2_becomeMonomial : GoodIn wsX4_make (wsV RX4 41 RX2 yX2_becomeMonomial wsX2_becomeMonomial) := goodIn_app (goodIn_of _ (by decide +kernel)) ggX4_make_X2_becomeMonomial
set_option maxRecDepth 20000 in
theorem ggX4_make_X2_differ : GoodIn wsX4_make wsX2_differ := goodIn_r _ [44, 32, 45, 46, 47, 48, 49, 50, 51, 29, 52, 53, 54, 55, 56, 57, 58, 59, 60, 61, 62, 63, 64, 65, 66, 31, 67, 68, 69, 70, 75, 76] (by decide +kernel) (by decide +kernel)
set_option maxRecDepth 20000 in
theorem gX4_make_X2_differ : GoodIn wsX4_make (wsV RX4 45 RX2 yX2_differ wsX2_differ) := goodIn_app (goodIn_of _ (by decide +kernel)) ggX4_make_X2_differ
theorem dX4_make_0 : decode cX4_make 0 = .ok (.iload_n 1, 1) := by decide +kernel
theorem dX4_make_1 : decode cX4_make 1 = .ok (.aload_n 0, 1) := by decide +kernel
theorem dX4_make_2 : decode cX4_make 2 = .ok (.getfield 25, 3) := by decide +kernel
theorem dX4_make_5 : decode cX4_make 5 = .ok (.if_icmp .ne 4, 3) := by decide +kernel
theorem dX4_make_8 : decode cX4_make 8 = .ok (.return_, 1) := by decide +kernel
theorem dX4_make_9 : decode cX4_make 9 = .ok (.aload_n 0, 1) := by decide +kernel
theorem dX4_make_10 : decode cX4_make 10 = .ok (.iload_n 1, 1) := by decide +kernel
theorem dX4_make_11 : decode cX4_make 11 = .ok (.putfield 25, 3) := by decide +kernel
theorem dX4_make_14 : decode cX4_make 14 = .ok (.iconst 1, 1) := by decide +kernel
theorem dX4_make_15 : decode cX4_make 15 = .ok (.istore_n 2, 1) := by decide +kernel
theorem dX4_make_16 : decode cX4_make 16 = .ok (.iload_n 2, 1) := by decide +kernel
theorem dX4_make_17 : decode cX4_make 17 = .ok (.iconst 4, 1) := by decide +kernel
theorem dX4_make_18 : decode cX4_make 18 = .ok (.if_icmp .gt 20, 3) := by decide +kernel
theorem dX4_make_21 : decode cX4_make 21 = .ok (.aload_n 0, 1) := by decide +kernel
theorem dX4_make_22 : decode cX4_make 22 = .ok (.getfield 18, 3) := by decide +kernel
theorem dX4_make_25 : decode cX4_make 25 = .ok (.iload_n 2, 1) := by decide +kernel
theorem dX4_make_26 : decode cX4_make 26 = .ok (.iload_n 1, 1) := by decide +kernel
theorem dX4_make_27 : decode cX4_make 27 = .ok (.iload_n 2, 1) := by decide +kernel
theorem dX4_make_28 : decode cX4_make 28 = .ok (.invokestatic 29, 3) := by decide +kernel
theorem dX4_make_31 : decode cX4_make 31 = .ok (.iastore, 1) := by decide +kernel
theorem dX4_make_32 : decode cX4_make 32 = .ok (.iinc 2 1, 3) := by decide +kernel
theorem dX4_make_35 : decode cX4_make 35 = .ok (.goto (-19), 3) := by decide +kernel
theorem dX4_make_38 : decode cX4_make 38 = .ok (.aload_n 0, 1) := by decide +kernel
theorem dX4_make_39 : decode cX4_make 39 = .ok (.invokevirtual 33, 3) := by decide +kernel
theorem dX4_make_42 : decode cX4_make 42 = .ok (.istore_n 2, 1) := by decide +kernel
theorem dX4_make_43 : decode cX4_make 43 = .ok (.aload_n 0, 1) := by decide +kernel
theorem dX4_make_44 : decode cX4_make 44 = .ok (.getfield 12, 3) := by decide +kernel
theorem dX4_make_47 : decode cX4_make 47 = .ok (.aload_n 0, 1) := by decide +kernel
theorem dX4_make_48 : decode cX4_make 48 = .ok (.getfield 18, 3) := by decide +kernel
theorem dX4_make_51 : decode cX4_make 51 = .ok (.iconst 1, 1) := by decide +kernel
theorem dX4_make_52 : decode cX4_make 52 = .ok (.iaload, 1) := by decide +kernel
theorem dX4_make_53 : decode cX4_make 53 = .ok (.aload_n 0, 1) := by decide +kernel
theorem dX4_make_54 : decode cX4_make 54 = .ok (.getfield 18, 3) := by decide +kernel
theorem dX4_make_57 : decode cX4_make 57 = .ok (.iconst 2, 1) := by decide +kernel
theorem dX4_make_58 : decode cX4_make 58 = .ok (.iaload, 1) := by decide +kernel
theorem dX4_make_59 : decode cX4_make 59 = .ok (.aload_n 0, 1) := by decide +kernel
theorem dX4_make_60 : decode cX4_make 60 = .ok (.getfield 18, 3) := by decide +kernel
theorem dX4_make_63 : decode cX4_make 63 = .ok (.iconst 3, 1) := by decide +kernel
theorem dX4_make_64 : decode cX4_make 64 = .ok (.iaload, 1) := by decide +kernel
theorem dX4_make_65 : decode cX4_make 65 = .ok (.aload_n 0, 1) := by decide +kernel
theorem dX4_make_66 : decode cX4_make 66 = .ok (.getfield 18, 3) := by decide +kernel
theorem dX4_make_69 : decode cX4_make 69 = .ok (.iconst 4, 1) := by decide +kernel
theorem dX4_make_70 : decode cX4_make 70 = .ok (.iaload, 1) := by decide +kernel
theorem dX4_make_71 : decode cX4_make 71 = .ok (.invokestatic 37, 3) := by decide +kernel
theorem dX4_make_74 : decode cX4_make 74 = .ok (.invokevirtual 41, 3) := by decide +kernel
theorem dX4_make_77 : decode cX4_make 77 = .ok (.aload_n 0, 1) := by decide +kernel
theorem dX4_make_78 : decode cX4_make 78 = .ok (.getfield 18, 3) := by decide +kernel
theorem dX4_make_81 : decode cX4_make 81 = .ok (.iconst 1, 1) := by decide +kernel
theorem dX4_make_82 : decode cX4_make 82 = .ok (.iaload, 1) := by decide +kernel
theorem dX4_make_83 : decode cX4_make 83 = .ok (.aload_n 0, 1) := by decide +kernel
theorem dX4_make_84 : decode cX4_make 84 = .ok (.getfield 18, 3) := by decide +kernel
theorem dX4_make_87 : decode cX4_make 87 = .ok (.iconst 2, 1) := by decide +kernel
theorem dX4_make_88 : decode cX4_make 88 = .ok (.iaload, 1) := by decide +kernel
theorem dX4_make_89 : decode cX4_make 89 = .ok (.iadd, 1) := by decide +kernel
theorem dX4_make_90 : decode cX4_make 90 = .ok (.aload_n 0, 1) := by decide +kernel
theorem dX4_make_91 : decode cX4_make 91 = .ok (.getfield 18, 3) := by decide +kernel
theorem dX4_make_94 : decode cX4_make 94 = .ok (.iconst 3, 1) := by decide +kernel
theorem dX4_make_95 : decode cX4_make 95 = .ok (.iaload, 1) := by decide +kernel
theorem dX4_make_96 : decode cX4_make 96 = .ok (.iadd, 1) := by decide +kernel
theorem dX4_make_97 : decode cX4_make 97 = .ok (.aload_n 0, 1) := by decide +kernel
theorem dX4_make_98 : decode cX4_make 98 = .ok (.getfield 18, 3) := by decide +kernel
theorem dX4_make_101 : decode cX4_make 101 = .ok (.iconst 4, 1) := by decide +kernel
theorem dX4_make_102 : decode cX4_make 102 = .ok (.iaload, 1) := by decide +kernel
theorem dX4_make_103 : decode cX4_make 103 = .ok (.iadd, 1) := by decide +kernel
theorem dX4_make_104 : decode cX4_make 104 = .ok (.istore_n 3, 1) := by decide +kernel
theorem dX4_make_105 : decode cX4_make 105 = .ok (.iload_n 2, 1) := by decide +kernel
theorem dX4_make_106 : decode cX4_make 106 = .ok (.iconst 1, 1) := by decide +kernel
theorem dX4_make_107 : decode cX4_make 107 = .ok (.isub, 1) := by decide +kernel
theorem dX4_make_108 : decode cX4_make 108 = .ok (.istore 4, 2) := by decide +kernel
theorem dX4_make_110 : decode cX4_make 110 = .ok (.iload 4, 2) := by decide +kernel
theorem dX4_make_112 : decode cX4_make 112 = .ok (.ifCond .lt 38, 3) := by decide +kernel
theorem dX4_make_115 : decode cX4_make 115 = .ok (.iload 4, 2) := by decide +kernel
theorem dX4_make_117 : decode cX4_make 117 = .ok (.aload_n 0, 1) := by decide +kernel
theorem dX4_make_118 : decode cX4_make 118 = .ok (.getfield 22, 3) := by decide +kernel
theorem dX4_make_121 : decode cX4_make 121 = .ok (.arraylength, 1) := by decide +kernel
theorem dX4_make_122 : decode cX4_make 122 = .ok (.if_icmp .ge 28, 3) := by decide +kernel
theorem dX4_make_125 : decode cX4_make 125 = .ok (.aload_n 0, 1) := by decide +kernel
theorem dX4_make_126 : decode cX4_make 126 = .ok (.getfield 12, 3) := by decide +kernel
theorem dX4_make_129 : decode cX4_make 129 = .ok (.aload_n 0, 1) := by decide +kernel
theorem dX4_make_130 : decode cX4_make 130 = .ok (.getfield 22, 3) := by decide +kernel
theorem dX4_make_133 : decode cX4_make 133 = .ok (.iload 4, 2) := by decide +kernel
theorem dX4_make_135 : decode cX4_make 135 = .ok (.iaload, 1) := by decide +kernel
theorem dX4_make_136 : decode cX4_make 136 = .ok (.iload_n 3, 1) := by decide +kernel
theorem dX4_make_137 : decode cX4_make 137 = .ok (.iload_n 3, 1) := by decide +kernel
theorem dX4_make_138 : decode cX4_make 138 = .ok (.invokevirtual 45, 3) := by decide +kernel
theorem dX4_make_141 : decode cX4_make 141 = .ok (.iinc 3 (-1), 3) := by decide +kernel
theorem dX4_make_144 : decode cX4_make 144 = .ok (.iinc 4 (-1), 3) := by decide +kernel
theorem dX4_make_147 : decode cX4_make 147 = .ok (.goto (-37), 3) := by decide +kernel
theorem dX4_make_150 : decode cX4_make 150 = .ok (.return_, 1) := by decide +kernel
set_option maxRecDepth 20000 in
theorem ggX4_climb_X4_firstRise : GoodIn wsX4_climb wsX4_firstRise := goodIn_r _ [6, 7, 12, 13, 14, 15] (by decide +kernel) (by decide +kernel)
set_option maxRecDepth 20000 in
theorem gX4_climb_X4_firstRise : GoodIn wsX4_climb (wsV RX4 49 RX4 yX4_firstRise wsX4_firstRise) := goodIn_app (goodIn_of _ (by decide +kernel)) ggX4_climb_X4_firstRise
set_option maxRecDepth 20000 in
theorem ggX4_climb_X4_exchangeAt : GoodIn wsX4_climb wsX4_exchangeAt := goodIn_r _ [11, 7, 12, 13, 14, 15] (by decide +kernel) (by decide +kernel)
set_option maxRecDepth 20000 in
theorem gX4_climb_X4_exchangeAt : GoodIn wsX4_climb (wsV RX4 52 RX4 yX4_exchangeAt wsX4_exchangeAt) := goodIn_app (goodIn_of _ (by decide +kernel)) ggX4_climb_X4_exchangeAt
theorem dX4_climb_0 : decode cX4_climb 0 = .ok (.iconst 0, 1) := by decide +kernel
theorem dX4_climb_1 : decode cX4_climb 1 = .ok (.istore_n 1, 1) := by decide +kernel
theorem dX4_climb_2 : decode cX4_climb 2 = .ok (.aload_n 0, 1) := by decide +kernel
theorem dX4_climb_3 : decode cX4_climb 3 = .ok (.invokevirtual 49, 3) := by decide +kernel
theorem dX4_climb_6 : decode cX4_climb 6 = .ok (.istore_n 2, 1) := by decide +kernel
theorem dX4_climb_7 : decode cX4_climb 7 = .ok (.iload_n 2, 1) := by decide +kernel
theorem dX4_climb_8 : decode cX4_climb 8 = .ok (.ifCond .le 35, 3) := by decide +kernel
theorem dX4_climb_11 : decode cX4_climb 11 = .ok (.iload_n 1, 1) := by decide +kernel
theorem dX4_climb_12 : decode cX4_climb 12 = .ok (.aload_n 0, 1) := by decide +kernel
theorem dX4_climb_13 : decode cX4_climb 13 = .ok (.getfield 22, 3) := by decide +kernel
theorem dX4_climb_16 : decode cX4_climb 16 = .ok (.arraylength, 1) := by decide +kernel
theorem dX4_climb_17 : decode cX4_climb 17 = .ok (.if_icmp .ge 26, 3) := by decide +kernel
theorem dX4_climb_20 : decode cX4_climb 20 = .ok (.aload_n 0, 1) := by decide +kernel
theorem dX4_climb_21 : decode cX4_climb 21 = .ok (.getfield 22, 3) := by decide +kernel
theorem dX4_climb_24 : decode cX4_climb 24 = .ok (.iload_n 1, 1) := by decide +kernel
theorem dX4_climb_25 : decode cX4_climb 25 = .ok (.iload_n 2, 1) := by decide +kernel
theorem dX4_climb_26 : decode cX4_climb 26 = .ok (.iastore, 1) := by decide +kernel
theorem dX4_climb_27 : decode cX4_climb 27 = .ok (.iinc 1 1, 3) := by decide +kernel
theorem dX4_climb_30 : decode cX4_climb 30 = .ok (.aload_n 0, 1) := by decide +kernel
theorem dX4_climb_31 : decode cX4_climb 31 = .ok (.iload_n 2, 1) := by decide +kernel
theorem dX4_climb_32 : decode cX4_climb 32 = .ok (.invokevirtual 52, 3) := by decide +kernel
theorem dX4_climb_35 : decode cX4_climb 35 = .ok (.aload_n 0, 1) := by decide +kernel
theorem dX4_climb_36 : decode cX4_climb 36 = .ok (.invokevirtual 49, 3) := by decide +kernel
theorem dX4_climb_39 : decode cX4_climb 39 = .ok (.istore_n 2, 1) := by decide +kernel
theorem dX4_climb_40 : decode cX4_climb 40 = .ok (.goto (-33), 3) := by decide +kernel
theorem dX4_climb_43 : decode cX4_climb 43 = .ok (.iload_n 1, 1) := by decide +kernel
theorem dX4_climb_44 : decode cX4_climb 44 = .ok (.ireturn, 1) := by decide +kernel
theorem dX4_firstRise_0 : decode cX4_firstRise 0 = .ok (.iconst 1, 1) := by decide +kernel
theorem dX4_firstRise_1 : decode cX4_firstRise 1 = .ok (.istore_n 1, 1) := by decide +kernel
theorem dX4_firstRise_2 : decode cX4_firstRise 2 = .ok (.iload_n 1, 1) := by decide +kernel
theorem dX4_firstRise_3 : decode cX4_firstRise 3 = .ok (.iconst 4, 1) := by decide +kernel
theorem dX4_firstRise_4 : decode cX4_firstRise 4 = .ok (.if_icmp .ge 28, 3) := by decide +kernel
theorem dX4_firstRise_7 : decode cX4_firstRise 7 = .ok (.aload_n 0, 1) := by decide +kernel
theorem dX4_firstRise_8 : decode cX4_firstRise 8 = .ok (.getfield 18, 3) := by decide +kernel
theorem dX4_firstRise_11 : decode cX4_firstRise 11 = .ok (.iload_n 1, 1) := by decide +kernel
theorem dX4_firstRise_12 : decode cX4_firstRise 12 = .ok (.iaload, 1) := by decide +kernel
theorem dX4_firstRise_13 : decode cX4_firstRise 13 = .ok (.aload_n 0, 1) := by decide +kernel
theorem dX4_firstRise_14 : decode cX4_firstRise 14 = .ok (.getfield 18, 3) := by decide +kernel
theorem dX4_firstRise_17 : decode cX4_firstRise 17 = .ok (.iload_n 1, 1) := by decide +kernel
theorem dX4_firstRise_18 : decode cX4_firstRise 18 = .ok (.iconst 1, 1) := by decide +kernel
theorem dX4_firstRise_19 : decode cX4_firstRise 19 = .ok (.iadd, 1) := by decide +kernel
theorem dX4_firstRise_20 : decode cX4_firstRise 20 = .ok (.iaload, 1) := by decide +kernel
theorem dX4_firstRise_21 : decode cX4_firstRise 21 = .ok (.if_icmp .ge 5, 3) := by decide +kernel
theorem dX4_firstRise_24 : decode cX4_firstRise 24 = .ok (.iload_n 1, 1) := by decide +kernel
theorem dX4_firstRise_25 : decode cX4_firstRise 25 = .ok (.ireturn, 1) := by decide +kernel
theorem dX4_firstRise_26 : decode cX4_firstRise 26 = .ok (.iinc 1 1, 3) := by decide +kernel
theorem dX4_firstRise_29 : decode cX4_firstRise 29 = .ok (.goto (-27), 3) := by decide +kernel
theorem dX4_firstRise_32 : decode cX4_firstRise 32 = .ok (.iconst 0, 1) := by decide +kernel
theorem dX4_firstRise_33 : decode cX4_firstRise 33 = .ok (.ireturn, 1) := by decide +kernel
theorem dX4_exchangeAt_0 : decode cX4_exchangeAt 0 = .ok (.iload_n 1, 1) := by decide +kernel
theorem dX4_exchangeAt_1 : decode cX4_exchangeAt 1 = .ok (.iconst 1, 1) := by decide +kernel
theorem dX4_exchangeAt_2 : decode cX4_exchangeAt 2 = .ok (.if_icmp .lt 8, 3) := by decide +kernel
theorem dX4_exchangeAt_5 : decode cX4_exchangeAt 5 = .ok (.iload_n 1, 1) := by decide +kernel
theorem dX4_exchangeAt_6 : decode cX4_exchangeAt 6 = .ok (.iconst 4, 1) := by decide +kernel
theorem dX4_exchangeAt_7 : decode cX4_exchangeAt 7 = .ok (.if_icmp .lt 4, 3) := by decide +kernel
theorem dX4_exchangeAt_10 : decode cX4_exchangeAt 10 = .ok (.return_, 1) := by decide +kernel
theorem dX4_exchangeAt_11 : decode cX4_exchangeAt 11 = .ok (.aload_n 0, 1) := by decide +kernel
theorem dX4_exchangeAt_12 : decode cX4_exchangeAt 12 = .ok (.getfield 18, 3) := by decide +kernel
theorem dX4_exchangeAt_15 : decode cX4_exchangeAt 15 = .ok (.iload_n 1, 1) := by decide +kernel
theorem dX4_exchangeAt_16 : decode cX4_exchangeAt 16 = .ok (.iaload, 1) := by decide +kernel
theorem dX4_exchangeAt_17 : decode cX4_exchangeAt 17 = .ok (.istore_n 2, 1) := by decide +kernel
theorem dX4_exchangeAt_18 : decode cX4_exchangeAt 18 = .ok (.aload_n 0, 1) := by decide +kernel
theorem dX4_exchangeAt_19 : decode cX4_exchangeAt 19 = .ok (.getfield 18, 3) := by decide +kernel
theorem dX4_exchangeAt_22 : decode cX4_exchangeAt 22 = .ok (.iload_n 1, 1) := by decide +kernel
theorem dX4_exchangeAt_23 : decode cX4_exchangeAt 23 = .ok (.aload_n 0, 1) := by decide +kernel
theorem dX4_exchangeAt_24 : decode cX4_exchangeAt 24 = .ok (.getfield 18, 3) := by decide +kernel
theorem dX4_exchangeAt_27 : decode cX4_exchangeAt 27 = .ok (.iload_n 1, 1) := by decide +kernel
theorem dX4_exchangeAt_28 : decode cX4_exchangeAt 28 = .ok (.iconst 1, 1) := by decide +kernel
theorem dX4_exchangeAt_29 : decode cX4_exchangeAt 29 = .ok (.iadd, 1) := by decide +kernel
theorem dX4_exchangeAt_30 : decode cX4_exchangeAt 30 = .ok (.iaload, 1) := by decide +kernel
theorem dX4_exchangeAt_31 : decode cX4_exchangeAt 31 = .ok (.iconst 1, 1) := by decide +kernel
theorem dX4_exchangeAt_32 : decode cX4_exchangeAt 32 = .ok (.iadd, 1) := by decide +kernel
theorem dX4_exchangeAt_33 : decode cX4_exchangeAt 33 = .ok (.iastore, 1) := by decide +kernel
theorem dX4_exchangeAt_34 : decode cX4_exchangeAt 34 = .ok (.aload_n 0, 1) := by decide +kernel
theorem dX4_exchangeAt_35 : decode cX4_exchangeAt 35 = .ok (.getfield 18, 3) := by decide +kernel
theorem dX4_exchangeAt_38 : decode cX4_exchangeAt 38 = .ok (.iload_n 1, 1) := by decide +kernel
theorem dX4_exchangeAt_39 : decode cX4_exchangeAt 39 = .ok (.iconst 1, 1) := by decide +kernel
theorem dX4_exchangeAt_40 : decode cX4_exchangeAt 40 = .ok (.iadd, 1) := by decide +kernel
theorem dX4_exchangeAt_41 : decode cX4_exchangeAt 41 = .ok (.iload_n 2, 1) := by decide +kernel
theorem dX4_exchangeAt_42 : decode cX4_exchangeAt 42 = .ok (.iastore, 1) := by decide +kernel
theorem dX4_exchangeAt_43 : decode cX4_exchangeAt 43 = .ok (.return_, 1) := by decide +kernel
