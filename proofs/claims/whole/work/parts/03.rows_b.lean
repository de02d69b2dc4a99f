set_option maxRecDepth 20000 in
theorem ggX5_init_X1_init : GoodIn wsX5_init wsX1_init := goodIn_r _ [27, 28, 2, 3, 29, 30, 64] (by decide +kernel) (by decide +kernel)
set_option maxRecDepth 20000 in
theorem gX5_init_X1_init_n11 : GoodIn wsX5_init (wsX1_init) := ggX5_init_X1_init
set_option maxRecDepth 20000 in
theorem ggX5_init_X0_init : GoodIn wsX5_init wsX0_init := goodIn_r _ [33, 34, 2, 3, 35, 36, 37, 38, 39, 29, 40, 72, 73] (by decide +kernel) (by decide +kernel)
set_option maxRecDepth 20000 in
theorem gX5_init_X0_init : GoodIn wsX5_init (wsX0_init) := ggX5_init_X0_init
set_option maxRecDepth 20000 in
theorem ggX5_init_X2_init : GoodIn wsX5_init wsX2_init := goodIn_r _ [42, 43, 2, 3, 44, 45, 29, 46, 74, 75] (by decide +kernel) (by decide +kernel)
set_option maxRecDepth 20000 in
theorem gX5_init_X2_init_n35 : GoodIn wsX5_init (wsX2_init) := ggX5_init_X2_init
set_option maxRecDepth 20000 in
theorem ggX5_init_X4_init : GoodIn wsX5_init wsX4_init := goodIn_r _ [48, 49, 2, 3, 50, 15, 16, 51, 29, 52, 53, 54, 41, 42, 43, 44, 45, 46, 74, 75, 76, 77, 78, 79] (by decide +kernel) (by decide +kernel)
set_option maxRecDepth 20000 in
theorem gX5_init_X4_init_n42 : GoodIn wsX5_init (wsX4_init) := ggX5_init_X4_init
set_option maxRecDepth 20000 in
theorem ggX5_init_X3_init : GoodIn wsX5_init wsX3_init := goodIn_r _ [56, 57, 2, 3, 58, 15, 16, 59, 60, 11, 12, 61, 62, 41, 42, 43, 44, 45, 29, 46, 63, 32, 33, 34, 35, 36, 37, 38, 39, 40, 74, 75, 80, 81, 82, 72, 73] (by decide +kernel) (by decide +kernel)
set_option maxRecDepth 20000 in
theorem gX5_init_X3_init_n49 : GoodIn wsX5_init (wsX3_init) := ggX5_init_X3_init
theorem dX5_init_0 : decode cX5_init 0 = .ok (.aload_n 0, 1) := by decide +kernel
theorem dX5_init_1 : decode cX5_init 1 = .ok (.invokespecial 3, 3) := by decide +kernel
theorem dX5_init_4 : decode cX5_init 4 = .ok (.aload_n 0, 1) := by decide +kernel
theorem dX5_init_5 : decode cX5_init 5 = .ok (.new 9, 3) := by decide +kernel
theorem dX5_init_8 : decode cX5_init 8 = .ok (.dup, 1) := by decide +kernel
theorem dX5_init_9 : decode cX5_init 9 = .ok (.invokespecial 11, 3) := by decide +kernel
theorem dX5_init_12 : decode cX5_init 12 = .ok (.putfield 12, 3) := by decide +kernel
theorem dX5_init_15 : decode cX5_init 15 = .ok (.aload_n 0, 1) := by decide +kernel
theorem dX5_init_16 : decode cX5_init 16 = .ok (.new 9, 3) := by decide +kernel
theorem dX5_init_19 : decode cX5_init 19 = .ok (.dup, 1) := by decide +kernel
theorem dX5_init_20 : decode cX5_init 20 = .ok (.invokespecial 11, 3) := by decide +kernel
theorem dX5_init_23 : decode cX5_init 23 = .ok (.putfield 18, 3) := by decide +kernel
theorem dX5_init_26 : decode cX5_init 26 = .ok (.aload_n 0, 1) := by decide +kernel
theorem dX5_init_27 : decode cX5_init 27 = .ok (.new 9, 3) := by decide +kernel
theorem dX5_init_30 : decode cX5_init 30 = .ok (.dup, 1) := by decide +kernel
theorem dX5_init_31 : decode cX5_init 31 = .ok (.invokespecial 11, 3) := by decide +kernel
theorem dX5_init_34 : decode cX5_init 34 = .ok (.putfield 21, 3) := by decide +kernel
theorem dX5_init_37 : decode cX5_init 37 = .ok (.aload_n 0, 1) := by decide +kernel
theorem dX5_init_38 : decode cX5_init 38 = .ok (.new 24, 3) := by decide +kernel
theorem dX5_init_41 : decode cX5_init 41 = .ok (.dup, 1) := by decide +kernel
theorem dX5_init_42 : decode cX5_init 42 = .ok (.bipush 32, 2) := by decide +kernel
theorem dX5_init_44 : decode cX5_init 44 = .ok (.invokespecial 26, 3) := by decide +kernel
theorem dX5_init_47 : decode cX5_init 47 = .ok (.putfield 29, 3) := by decide +kernel
theorem dX5_init_50 : decode cX5_init 50 = .ok (.aload_n 0, 1) := by decide +kernel
theorem dX5_init_51 : decode cX5_init 51 = .ok (.new 33, 3) := by decide +kernel
theorem dX5_init_54 : decode cX5_init 54 = .ok (.dup, 1) := by decide +kernel
theorem dX5_init_55 : decode cX5_init 55 = .ok (.invokespecial 35, 3) := by decide +kernel
theorem dX5_init_58 : decode cX5_init 58 = .ok (.putfield 36, 3) := by decide +kernel
theorem dX5_init_61 : decode cX5_init 61 = .ok (.aload_n 0, 1) := by decide +kernel
theorem dX5_init_62 : decode cX5_init 62 = .ok (.new 40, 3) := by decide +kernel
theorem dX5_init_65 : decode cX5_init 65 = .ok (.dup, 1) := by decide +kernel
theorem dX5_init_66 : decode cX5_init 66 = .ok (.invokespecial 42, 3) := by decide +kernel
theorem dX5_init_69 : decode cX5_init 69 = .ok (.putfield 43, 3) := by decide +kernel
theorem dX5_init_72 : decode cX5_init 72 = .ok (.aload_n 0, 1) := by decide +kernel
theorem dX5_init_73 : decode cX5_init 73 = .ok (.new 47, 3) := by decide +kernel
theorem dX5_init_76 : decode cX5_init 76 = .ok (.dup, 1) := by decide +kernel
theorem dX5_init_77 : decode cX5_init 77 = .ok (.invokespecial 49, 3) := by decide +kernel
theorem dX5_init_80 : decode cX5_init 80 = .ok (.putfield 50, 3) := by decide +kernel
theorem dX5_init_83 : decode cX5_init 83 = .ok (.return_, 1) := by decide +kernel
set_option maxRecDepth 20000 in
theorem ggX5_plain_X1_read : GoodIn wsX5_plain wsX1_read := goodIn_r _ [6, 7, 8, 9, 10, 11, 5, 12, 28] (by decide +kernel) (by decide +kernel)
set_option maxRecDepth 20000 in
theorem gX5_plain_X1_read : GoodIn wsX5_plain (wsV RX5 54 RX1 yX1_read wsX1_read) := goodIn_app (goodIn_of _ (by decide +kernel)) ggX5_plain_X1_read
set_option maxRecDepth 20000 in
theorem ggX5_plain_X1_plainNumber : GoodIn wsX5_plain wsX1_plainNumber := goodIn_r _ [16, 8, 17, 18, 19, 5, 20, 28] (by decide +kernel) (by decide +kernel)
set_option maxRecDepth 20000 in
theorem gX5_plain_X1_plainNumber : GoodIn wsX5_plain (wsV RX5 58 RX1 yX1_plainNumber wsX1_plainNumber) := goodIn_app (goodIn_of _ (by decide +kernel)) ggX5_plain_X1_plainNumber
theorem dX5_plain_0 : decode cX5_plain 0 = .ok (.aload_n 0, 1) := by decide +kernel
theorem dX5_plain_1 : decode cX5_plain 1 = .ok (.getfield 12, 3) := by decide +kernel
theorem dX5_plain_4 : decode cX5_plain 4 = .ok (.iload_n 1, 1) := by decide +kernel
theorem dX5_plain_5 : decode cX5_plain 5 = .ok (.invokevirtual 54, 3) := by decide +kernel
theorem dX5_plain_8 : decode cX5_plain 8 = .ok (.ifCond .eq 13, 3) := by decide +kernel
theorem dX5_plain_11 : decode cX5_plain 11 = .ok (.aload_n 0, 1) := by decide +kernel
theorem dX5_plain_12 : decode cX5_plain 12 = .ok (.getfield 12, 3) := by decide +kernel
theorem dX5_plain_15 : decode cX5_plain 15 = .ok (.invokevirtual 58, 3) := by decide +kernel
theorem dX5_plain_18 : decode cX5_plain 18 = .ok (.goto 5, 3) := by decide +kernel
theorem dX5_plain_21 : decode cX5_plain 21 = .ok (.bipush (-2), 2) := by decide +kernel
theorem dX5_plain_23 : decode cX5_plain 23 = .ok (.ireturn, 1) := by decide +kernel
set_option maxRecDepth 20000 in
theorem ggX5_length_X1_read : GoodIn wsX5_length wsX1_read := goodIn_r _ [6, 7, 8, 9, 10, 11, 5, 12, 32] (by decide +kernel) (by decide +kernel)
set_option maxRecDepth 20000 in
theorem gX5_length_X1_read : GoodIn wsX5_length (wsV RX5 54 RX1 yX1_read wsX1_read) := goodIn_app (goodIn_of _ (by decide +kernel)) ggX5_length_X1_read
set_option maxRecDepth 20000 in
theorem ggX5_length_X1_inversions : GoodIn wsX5_length wsX1_inversions := goodIn_r _ [16, 17, 18, 19, 5, 20, 21, 22, 23, 24, 8, 32] (by decide +kernel) (by decide +kernel)
set_option maxRecDepth 20000 in
theorem gX5_length_X1_inversions : GoodIn wsX5_length (wsV RX5 62 RX1 yX1_inversions wsX1_inversions) := goodIn_app (goodIn_of _ (by decide +kernel)) ggX5_length_X1_inversions
theorem dX5_length_0 : decode cX5_length 0 = .ok (.aload_n 0, 1) := by decide +kernel
theorem dX5_length_1 : decode cX5_length 1 = .ok (.getfield 12, 3) := by decide +kernel
theorem dX5_length_4 : decode cX5_length 4 = .ok (.iload_n 1, 1) := by decide +kernel
theorem dX5_length_5 : decode cX5_length 5 = .ok (.invokevirtual 54, 3) := by decide +kernel
theorem dX5_length_8 : decode cX5_length 8 = .ok (.ifCond .eq 13, 3) := by decide +kernel
theorem dX5_length_11 : decode cX5_length 11 = .ok (.aload_n 0, 1) := by decide +kernel
theorem dX5_length_12 : decode cX5_length 12 = .ok (.getfield 12, 3) := by decide +kernel
theorem dX5_length_15 : decode cX5_length 15 = .ok (.invokevirtual 62, 3) := by decide +kernel
theorem dX5_length_18 : decode cX5_length 18 = .ok (.goto 5, 3) := by decide +kernel
theorem dX5_length_21 : decode cX5_length 21 = .ok (.bipush (-2), 2) := by decide +kernel
theorem dX5_length_23 : decode cX5_length 23 = .ok (.ireturn, 1) := by decide +kernel
set_option maxRecDepth 20000 in
theorem ggX5_code_X1_read : GoodIn wsX5_code wsX1_read := goodIn_r _ [6, 7, 8, 9, 10, 11, 5, 12, 28] (by decide +kernel) (by decide +kernel)
set_option maxRecDepth 20000 in
theorem gX5_code_X1_read : GoodIn wsX5_code (wsV RX5 54 RX1 yX1_read wsX1_read) := goodIn_app (goodIn_of _ (by decide +kernel)) ggX5_code_X1_read
set_option maxRecDepth 20000 in
theorem ggX5_code_X1_codeAt : GoodIn wsX5_code wsX1_codeAt := goodIn_r _ [16, 17, 18, 19, 5, 20, 8, 28] (by decide +kernel) (by decide +kernel)
set_option maxRecDepth 20000 in
theorem gX5_code_X1_codeAt : GoodIn wsX5_code (wsV RX5 65 RX1 yX1_codeAt wsX1_codeAt) := goodIn_app (goodIn_of _ (by decide +kernel)) ggX5_code_X1_codeAt
theorem dX5_code_0 : decode cX5_code 0 = .ok (.aload_n 0, 1) := by decide +kernel
theorem dX5_code_1 : decode cX5_code 1 = .ok (.getfield 12, 3) := by decide +kernel
theorem dX5_code_4 : decode cX5_code 4 = .ok (.iload_n 1, 1) := by decide +kernel
theorem dX5_code_5 : decode cX5_code 5 = .ok (.invokevirtual 54, 3) := by decide +kernel
theorem dX5_code_8 : decode cX5_code 8 = .ok (.ifCond .eq 14, 3) := by decide +kernel
theorem dX5_code_11 : decode cX5_code 11 = .ok (.iload_n 2, 1) := by decide +kernel
theorem dX5_code_12 : decode cX5_code 12 = .ok (.iconst 1, 1) := by decide +kernel
theorem dX5_code_13 : decode cX5_code 13 = .ok (.if_icmp .lt 9, 3) := by decide +kernel
theorem dX5_code_16 : decode cX5_code 16 = .ok (.iload_n 2, 1) := by decide +kernel
theorem dX5_code_17 : decode cX5_code 17 = .ok (.bipush 9, 2) := by decide +kernel
theorem dX5_code_19 : decode cX5_code 19 = .ok (.if_icmp .le 6, 3) := by decide +kernel
theorem dX5_code_22 : decode cX5_code 22 = .ok (.bipush (-2), 2) := by decide +kernel
theorem dX5_code_24 : decode cX5_code 24 = .ok (.ireturn, 1) := by decide +kernel
theorem dX5_code_25 : decode cX5_code 25 = .ok (.aload_n 0, 1) := by decide +kernel
theorem dX5_code_26 : decode cX5_code 26 = .ok (.getfield 12, 3) := by decide +kernel
theorem dX5_code_29 : decode cX5_code 29 = .ok (.iload_n 2, 1) := by decide +kernel
theorem dX5_code_30 : decode cX5_code 30 = .ok (.invokevirtual 65, 3) := by decide +kernel
theorem dX5_code_33 : decode cX5_code 33 = .ok (.ireturn, 1) := by decide +kernel
set_option maxRecDepth 20000 in
theorem ggX5_descents_X1_read : GoodIn wsX5_descents wsX1_read := goodIn_r _ [6, 7, 8, 9, 10, 11, 5, 12, 24] (by decide +kernel) (by decide +kernel)
set_option maxRecDepth 20000 in
theorem gX5_descents_X1_read : GoodIn wsX5_descents (wsV RX5 54 RX1 yX1_read wsX1_read) := goodIn_app (goodIn_of _ (by decide +kernel)) ggX5_descents_X1_read
set_option maxRecDepth 20000 in
theorem ggX5_descents_X1_descentSet : GoodIn wsX5_descents wsX1_descentSet := goodIn_r _ [16, 8, 24] (by decide +kernel) (by decide +kernel)
set_option maxRecDepth 20000 in
theorem gX5_descents_X1_descentSet : GoodIn wsX5_descents (wsV RX5 69 RX1 yX1_descentSet wsX1_descentSet) := goodIn_app (goodIn_of _ (by decide +kernel)) ggX5_descents_X1_descentSet
theorem dX5_descents_0 : decode cX5_descents 0 = .ok (.aload_n 0, 1) := by decide +kernel
theorem dX5_descents_1 : decode cX5_descents 1 = .ok (.getfield 12, 3) := by decide +kernel
theorem dX5_descents_4 : decode cX5_descents 4 = .ok (.iload_n 1, 1) := by decide +kernel
theorem dX5_descents_5 : decode cX5_descents 5 = .ok (.invokevirtual 54, 3) := by decide +kernel
theorem dX5_descents_8 : decode cX5_descents 8 = .ok (.ifCond .eq 13, 3) := by decide +kernel
theorem dX5_descents_11 : decode cX5_descents 11 = .ok (.aload_n 0, 1) := by decide +kernel
theorem dX5_descents_12 : decode cX5_descents 12 = .ok (.getfield 12, 3) := by decide +kernel
theorem dX5_descents_15 : decode cX5_descents 15 = .ok (.invokevirtual 69, 3) := by decide +kernel
theorem dX5_descents_18 : decode cX5_descents 18 = .ok (.goto 5, 3) := by decide +kernel
theorem dX5_descents_21 : decode cX5_descents 21 = .ok (.bipush (-2), 2) := by decide +kernel
theorem dX5_descents_23 : decode cX5_descents 23 = .ok (.ireturn, 1) := by decide +kernel
set_option maxRecDepth 20000 in
theorem ggX5_inverse_X1_read : GoodIn wsX5_inverse wsX1_read := goodIn_r _ [7, 8, 9, 10, 11, 12, 6, 13, 41] (by decide +kernel) (by decide +kernel)
set_option maxRecDepth 20000 in
theorem gX5_inverse_X1_read : GoodIn wsX5_inverse (wsV RX5 54 RX1 yX1_read wsX1_read) := goodIn_app (goodIn_of _ (by decide +kernel)) ggX5_inverse_X1_read
set_option maxRecDepth 20000 in
theorem ggX5_inverse_X1_becomeInverse : GoodIn wsX5_inverse wsX1_becomeInverse := goodIn_r _ [17, 18, 19, 20, 6, 21, 9, 22, 23, 24, 25, 41] (by decide +kernel) (by decide +kernel)
set_option maxRecDepth 20000 in
theorem gX5_inverse_X1_becomeInverse : GoodIn wsX5_inverse (wsV RX5 72 RX1 yX1_becomeInverse wsX1_becomeInverse) := goodIn_app (goodIn_of _ (by decide +kernel)) ggX5_inverse_X1_becomeInverse
set_option maxRecDepth 20000 in
theorem ggX5_inverse_X1_plainNumber : GoodIn wsX5_inverse wsX1_plainNumber := goodIn_r _ [29, 9, 30, 31, 32, 6, 33, 41] (by decide +kernel) (by decide +kernel)
set_option maxRecDepth 20000 in
theorem gX5_inverse_X1_plainNumber : GoodIn wsX5_inverse (wsV RX5 58 RX1 yX1_plainNumber wsX1_plainNumber) := goodIn_app (goodIn_of _ (by decide +kernel)) ggX5_inverse_X1_plainNumber
theorem dX5_inverse_0 : decode cX5_inverse 0 = .ok (.aload_n 0, 1) := by decide +kernel
theorem dX5_inverse_1 : decode cX5_inverse 1 = .ok (.getfield 12, 3) := by decide +kernel
theorem dX5_inverse_4 : decode cX5_inverse 4 = .ok (.iload_n 1, 1) := by decide +kernel
theorem dX5_inverse_5 : decode cX5_inverse 5 = .ok (.invokevirtual 54, 3) := by decide +kernel
theorem dX5_inverse_8 : decode cX5_inverse 8 = .ok (.ifCond .ne 6, 3) := by decide +kernel
theorem dX5_inverse_11 : decode cX5_inverse 11 = .ok (.bipush (-2), 2) := by decide +kernel
theorem dX5_inverse_13 : decode cX5_inverse 13 = .ok (.ireturn, 1) := by decide +kernel
theorem dX5_inverse_14 : decode cX5_inverse 14 = .ok (.aload_n 0, 1) := by decide +kernel
theorem dX5_inverse_15 : decode cX5_inverse 15 = .ok (.getfield 18, 3) := by decide +kernel
theorem dX5_inverse_18 : decode cX5_inverse 18 = .ok (.aload_n 0, 1) := by decide +kernel
theorem dX5_inverse_19 : decode cX5_inverse 19 = .ok (.getfield 12, 3) := by decide +kernel
theorem dX5_inverse_22 : decode cX5_inverse 22 = .ok (.invokevirtual 72, 3) := by decide +kernel
theorem dX5_inverse_25 : decode cX5_inverse 25 = .ok (.aload_n 0, 1) := by decide +kernel
theorem dX5_inverse_26 : decode cX5_inverse 26 = .ok (.getfield 18, 3) := by decide +kernel
theorem dX5_inverse_29 : decode cX5_inverse 29 = .ok (.invokevirtual 58, 3) := by decide +kernel
theorem dX5_inverse_32 : decode cX5_inverse 32 = .ok (.ireturn, 1) := by decide +kernel
set_option maxRecDepth 20000 in
theorem ggX5_after_X1_read : GoodIn wsX5_after wsX1_read := goodIn_r _ [8, 9, 10, 11, 12, 13, 7, 14, 38] (by decide +kernel) (by decide +kernel)
set_option maxRecDepth 20000 in
theorem gX5_after_X1_read : GoodIn wsX5_after (wsV RX5 54 RX1 yX1_read wsX1_read) := goodIn_app (goodIn_of _ (by decide +kernel)) ggX5_after_X1_read
set_option maxRecDepth 20000 in
theorem ggX5_after_X1_becomeProduct : GoodIn wsX5_after wsX1_becomeProduct := goodIn_r _ [18, 10, 19, 20, 21, 7, 22, 38] (by decide +kernel) (by decide +kernel)
set_option maxRecDepth 20000 in
theorem gX5_after_X1_becomeProduct : GoodIn wsX5_after (wsV RX5 76 RX1 yX1_becomeProduct wsX1_becomeProduct) := goodIn_app (goodIn_of _ (by decide +kernel)) ggX5_after_X1_becomeProduct
set_option maxRecDepth 20000 in
theorem ggX5_after_X1_plainNumber : GoodIn wsX5_after wsX1_plainNumber := goodIn_r _ [26, 10, 27, 28, 29, 7, 30, 38] (by decide +kernel) (by decide +kernel)
set_option maxRecDepth 20000 in
theorem gX5_after_X1_plainNumber : GoodIn wsX5_after (wsV RX5 58 RX1 yX1_plainNumber wsX1_plainNumber) := goodIn_app (goodIn_of _ (by decide +kernel)) ggX5_after_X1_plainNumber
theorem dX5_after_0 : decode cX5_after 0 = .ok (.aload_n 0, 1) := by decide +kernel
theorem dX5_after_1 : decode cX5_after 1 = .ok (.getfield 12, 3) := by decide +kernel
theorem dX5_after_4 : decode cX5_after 4 = .ok (.iload_n 1, 1) := by decide +kernel
theorem dX5_after_5 : decode cX5_after 5 = .ok (.invokevirtual 54, 3) := by decide +kernel
theorem dX5_after_8 : decode cX5_after 8 = .ok (.ifCond .eq 14, 3) := by decide +kernel
theorem dX5_after_11 : decode cX5_after 11 = .ok (.aload_n 0, 1) := by decide +kernel
theorem dX5_after_12 : decode cX5_after 12 = .ok (.getfield 18, 3) := by decide +kernel
theorem dX5_after_15 : decode cX5_after 15 = .ok (.iload_n 2, 1) := by decide +kernel
theorem dX5_after_16 : decode cX5_after 16 = .ok (.invokevirtual 54, 3) := by decide +kernel
theorem dX5_after_19 : decode cX5_after 19 = .ok (.ifCond .ne 6, 3) := by decide +kernel
theorem dX5_after_22 : decode cX5_after 22 = .ok (.bipush (-2), 2) := by decide +kernel
theorem dX5_after_24 : decode cX5_after 24 = .ok (.ireturn, 1) := by decide +kernel
theorem dX5_after_25 : decode cX5_after 25 = .ok (.aload_n 0, 1) := by decide +kernel
theorem dX5_after_26 : decode cX5_after 26 = .ok (.getfield 21, 3) := by decide +kernel
theorem dX5_after_29 : decode cX5_after 29 = .ok (.aload_n 0, 1) := by decide +kernel
theorem dX5_after_30 : decode cX5_after 30 = .ok (.getfield 12, 3) := by decide +kernel
theorem dX5_after_33 : decode cX5_after 33 = .ok (.aload_n 0, 1) := by decide +kernel
theorem dX5_after_34 : decode cX5_after 34 = .ok (.getfield 18, 3) := by decide +kernel
theorem dX5_after_37 : decode cX5_after 37 = .ok (.invokevirtual 76, 3) := by decide +kernel
theorem dX5_after_40 : decode cX5_after 40 = .ok (.aload_n 0, 1) := by decide +kernel
theorem dX5_after_41 : decode cX5_after 41 = .ok (.getfield 21, 3) := by decide +kernel
theorem dX5_after_44 : decode cX5_after 44 = .ok (.invokevirtual 58, 3) := by decide +kernel
theorem dX5_after_47 : decode cX5_after 47 = .ok (.ireturn, 1) := by decide +kernel
set_option maxRecDepth 20000 in
theorem ggX5_ofCode_X5_cellOf : GoodIn wsX5_ofCode wsX5_cellOf := goodIn_r _ [5, 6, 7, 4, 8] (by decide +kernel) (by decide +kernel)
set_option maxRecDepth 20000 in
theorem gX5_ofCode_X5_cellOf : GoodIn wsX5_ofCode (va_wsS RX5 80 yX5_cellOf wsX5_cellOf) := goodIn_app (goodIn_of _ (by decide +kernel)) ggX5_ofCode_X5_cellOf
set_option maxRecDepth 20000 in
theorem ggX5_ofCode_X1_becomeOfCode : GoodIn wsX5_ofCode wsX1_becomeOfCode := goodIn_r _ [13, 14, 15, 4, 16, 17, 18, 12, 19, 35] (by decide +kernel) (by decide +kernel)
set_option maxRecDepth 20000 in
theorem gX5_ofCode_X1_becomeOfCode : GoodIn wsX5_ofCode (wsV RX5 84 RX1 yX1_becomeOfCode wsX1_becomeOfCode) := goodIn_app (goodIn_of _ (by decide +kernel)) ggX5_ofCode_X1_becomeOfCode
set_option maxRecDepth 20000 in
theorem ggX5_ofCode_X1_plainNumber : GoodIn wsX5_ofCode wsX1_plainNumber := goodIn_r _ [23, 14, 24, 25, 26, 12, 27, 35] (by decide +kernel) (by decide +kernel)
set_option maxRecDepth 20000 in
theorem gX5_ofCode_X1_plainNumber : GoodIn wsX5_ofCode (wsV RX5 58 RX1 yX1_plainNumber wsX1_plainNumber) := goodIn_app (goodIn_of _ (by decide +kernel)) ggX5_ofCode_X1_plainNumber
theorem dX5_ofCode_0 : decode cX5_ofCode 0 = .ok (.iload_n 1, 1) := by decide +kernel
theorem dX5_ofCode_1 : decode cX5_ofCode 1 = .ok (.iload_n 2, 1) := by decide +kernel
theorem dX5_ofCode_2 : decode cX5_ofCode 2 = .ok (.iload_n 3, 1) := by decide +kernel
theorem dX5_ofCode_3 : decode cX5_ofCode 3 = .ok (.iload 4, 2) := by decide +kernel
theorem dX5_ofCode_5 : decode cX5_ofCode 5 = .ok (.invokestatic 80, 3) := by decide +kernel
theorem dX5_ofCode_8 : decode cX5_ofCode 8 = .ok (.istore 5, 2) := by decide +kernel
theorem dX5_ofCode_10 : decode cX5_ofCode 10 = .ok (.iload 5, 2) := by decide +kernel
theorem dX5_ofCode_12 : decode cX5_ofCode 12 = .ok (.ifCond .ge 6, 3) := by decide +kernel
theorem dX5_ofCode_15 : decode cX5_ofCode 15 = .ok (.bipush (-2), 2) := by decide +kernel
theorem dX5_ofCode_17 : decode cX5_ofCode 17 = .ok (.ireturn, 1) := by decide +kernel
theorem dX5_ofCode_18 : decode cX5_ofCode 18 = .ok (.aload_n 0, 1) := by decide +kernel
theorem dX5_ofCode_19 : decode cX5_ofCode 19 = .ok (.getfield 12, 3) := by decide +kernel
theorem dX5_ofCode_22 : decode cX5_ofCode 22 = .ok (.iload 5, 2) := by decide +kernel
theorem dX5_ofCode_24 : decode cX5_ofCode 24 = .ok (.invokevirtual 84, 3) := by decide +kernel
theorem dX5_ofCode_27 : decode cX5_ofCode 27 = .ok (.aload_n 0, 1) := by decide +kernel
theorem dX5_ofCode_28 : decode cX5_ofCode 28 = .ok (.getfield 12, 3) := by decide +kernel
theorem dX5_ofCode_31 : decode cX5_ofCode 31 = .ok (.invokevirtual 58, 3) := by decide +kernel
theorem dX5_ofCode_34 : decode cX5_ofCode 34 = .ok (.ireturn, 1) := by decide +kernel
set_option maxRecDepth 20000 in
theorem ggX5_below_X1_read : GoodIn wsX5_below wsX1_read := goodIn_r _ [7, 8, 9, 10, 11, 12, 6, 13, 25] (by decide +kernel) (by decide +kernel)
set_option maxRecDepth 20000 in
theorem gX5_below_X1_read : GoodIn wsX5_below (wsV RX5 54 RX1 yX1_read wsX1_read) := goodIn_app (goodIn_of _ (by decide +kernel)) ggX5_below_X1_read
set_option maxRecDepth 20000 in
theorem ggX5_below_X1_isBelow : GoodIn wsX5_below wsX1_isBelow := goodIn_r _ [17, 9, 25] (by decide +kernel) (by decide +kernel)
set_option maxRecDepth 20000 in
theorem gX5_below_X1_isBelow : GoodIn wsX5_below (wsV RX5 87 RX1 yX1_isBelow wsX1_isBelow) := goodIn_app (goodIn_of _ (by decide +kernel)) ggX5_below_X1_isBelow
theorem dX5_below_0 : decode cX5_below 0 = .ok (.aload_n 0, 1) := by decide +kernel
theorem dX5_below_1 : decode cX5_below 1 = .ok (.getfield 12, 3) := by decide +kernel
theorem dX5_below_4 : decode cX5_below 4 = .ok (.iload_n 1, 1) := by decide +kernel
theorem dX5_below_5 : decode cX5_below 5 = .ok (.invokevirtual 54, 3) := by decide +kernel
theorem dX5_below_8 : decode cX5_below 8 = .ok (.ifCond .eq 14, 3) := by decide +kernel
theorem dX5_below_11 : decode cX5_below 11 = .ok (.aload_n 0, 1) := by decide +kernel
theorem dX5_below_12 : decode cX5_below 12 = .ok (.getfield 18, 3) := by decide +kernel
theorem dX5_below_15 : decode cX5_below 15 = .ok (.iload_n 2, 1) := by decide +kernel
theorem dX5_below_16 : decode cX5_below 16 = .ok (.invokevirtual 54, 3) := by decide +kernel
theorem dX5_below_19 : decode cX5_below 19 = .ok (.ifCond .ne 6, 3) := by decide +kernel
theorem dX5_below_22 : decode cX5_below 22 = .ok (.bipush (-2), 2) := by decide +kernel
theorem dX5_below_24 : decode cX5_below 24 = .ok (.ireturn, 1) := by decide +kernel
theorem dX5_below_25 : decode cX5_below 25 = .ok (.aload_n 0, 1) := by decide +kernel
theorem dX5_below_26 : decode cX5_below 26 = .ok (.getfield 12, 3) := by decide +kernel
theorem dX5_below_29 : decode cX5_below 29 = .ok (.aload_n 0, 1) := by decide +kernel
theorem dX5_below_30 : decode cX5_below 30 = .ok (.getfield 18, 3) := by decide +kernel
theorem dX5_below_33 : decode cX5_below 33 = .ok (.invokevirtual 87, 3) := by decide +kernel
theorem dX5_below_36 : decode cX5_below 36 = .ok (.ifCond .eq 7, 3) := by decide +kernel
theorem dX5_below_39 : decode cX5_below 39 = .ok (.iconst 1, 1) := by decide +kernel
theorem dX5_below_40 : decode cX5_below 40 = .ok (.goto 4, 3) := by decide +kernel
theorem dX5_below_43 : decode cX5_below 43 = .ok (.iconst 0, 1) := by decide +kernel
theorem dX5_below_44 : decode cX5_below 44 = .ok (.ireturn, 1) := by decide +kernel
set_option maxRecDepth 20000 in
theorem ggX5_words_X1_read : GoodIn wsX5_words wsX1_read := goodIn_r _ [6, 7, 8, 9, 10, 11, 5, 12, 45] (by decide +kernel) (by decide +kernel)
set_option maxRecDepth 20000 in
theorem gX5_words_X1_read : GoodIn wsX5_words (wsV RX5 54 RX1 yX1_read wsX1_read) := goodIn_app (goodIn_of _ (by decide +kernel)) ggX5_words_X1_read
set_option maxRecDepth 20000 in
theorem ggX5_words_X1_isSmall : GoodIn wsX5_words wsX1_isSmall := goodIn_r _ [16, 17, 18, 19, 5, 20, 8, 45] (by decide +kernel) (by decide +kernel)
set_option maxRecDepth 20000 in
theorem gX5_words_X1_isSmall : GoodIn wsX5_words (wsV RX5 91 RX1 yX1_isSmall wsX1_isSmall) := goodIn_app (goodIn_of _ (by decide +kernel)) ggX5_words_X1_isSmall
set_option maxRecDepth 20000 in
theorem ggX5_words_X5_waysDown : GoodIn wsX5_words wsX5_waysDown := goodIn_r _ [24, 25, 26, 27, 5, 28, 8, 29, 30, 31, 32, 33, 34, 35, 36, 37, 21, 22, 23, 45] (by decide +kernel) (by decide +kernel)
set_option maxRecDepth 20000 in
theorem gX5_words_X5_waysDown : GoodIn wsX5_words (va_wsS RX5 95 yX5_waysDown wsX5_waysDown) := goodIn_app (goodIn_of _ (by decide +kernel)) ggX5_words_X5_waysDown
theorem dX5_words_0 : decode cX5_words 0 = .ok (.aload_n 0, 1) := by decide +kernel
theorem dX5_words_1 : decode cX5_words 1 = .ok (.getfield 12, 3) := by decide +kernel
theorem dX5_words_4 : decode cX5_words 4 = .ok (.iload_n 1, 1) := by decide +kernel
theorem dX5_words_5 : decode cX5_words 5 = .ok (.invokevirtual 54, 3) := by decide +kernel
theorem dX5_words_8 : decode cX5_words 8 = .ok (.ifCond .ne 6, 3) := by decide +kernel
theorem dX5_words_11 : decode cX5_words 11 = .ok (.bipush (-2), 2) := by decide +kernel
theorem dX5_words_13 : decode cX5_words 13 = .ok (.ireturn, 1) := by decide +kernel
theorem dX5_words_14 : decode cX5_words 14 = .ok (.aload_n 0, 1) := by decide +kernel
theorem dX5_words_15 : decode cX5_words 15 = .ok (.getfield 12, 3) := by decide +kernel
theorem dX5_words_18 : decode cX5_words 18 = .ok (.invokevirtual 91, 3) := by decide +kernel
theorem dX5_words_21 : decode cX5_words 21 = .ok (.ifCond .eq 14, 3) := by decide +kernel
theorem dX5_words_24 : decode cX5_words 24 = .ok (.aload_n 0, 1) := by decide +kernel
theorem dX5_words_25 : decode cX5_words 25 = .ok (.getfield 12, 3) := by decide +kernel
theorem dX5_words_28 : decode cX5_words 28 = .ok (.iconst 0, 1) := by decide +kernel
theorem dX5_words_29 : decode cX5_words 29 = .ok (.invokestatic 95, 3) := by decide +kernel
theorem dX5_words_32 : decode cX5_words 32 = .ok (.goto 5, 3) := by decide +kernel
theorem dX5_words_35 : decode cX5_words 35 = .ok (.bipush (-3), 2) := by decide +kernel
theorem dX5_words_37 : decode cX5_words 37 = .ok (.ireturn, 1) := by decide +kernel
set_option maxRecDepth 20000 in
theorem ggX5_number_X5_fitCell : GoodIn wsX5_number wsX5_fitCell := goodIn_r _ [7, 8, 9, 10, 11, 12, 13, 14, 15, 16, 17, 18, 19, 20, 21, 22, 23, 24, 25, 26, 27, 28, 29, 30, 31, 32, 33, 34, 35, 36, 37, 38, 39, 40, 6, 41, 42, 43, 44, 115, 116, 117, 118, 119, 120, 121, 126] (by decide +kernel) (by decide +kernel)
set_option maxRecDepth 20000 in
theorem gX5_number_X5_fitCell : GoodIn wsX5_number (wsV RX5 99 RX5 yX5_fitCell wsX5_fitCell) := goodIn_app (goodIn_of _ (by decide +kernel)) ggX5_number_X5_fitCell
set_option maxRecDepth 20000 in
theorem ggX5_number_X5_isAnyNegative : GoodIn wsX5_number wsX5_isAnyNegative := goodIn_r _ [44] (by decide +kernel) (by decide +kernel)
set_option maxRecDepth 20000 in
theorem gX5_number_X5_isAnyNegative : GoodIn wsX5_number (va_wsS RX5 102 yX5_isAnyNegative wsX5_isAnyNegative) := goodIn_app (goodIn_of _ (by decide +kernel)) ggX5_number_X5_isAnyNegative
set_option maxRecDepth 20000 in
theorem ggX5_number_X4_make : GoodIn wsX5_number wsX4_make := goodIn_r _ [49, 50, 51, 52, 53, 54, 6, 55, 56, 57, 58, 48, 59, 60, 61, 62, 63, 64, 65, 66, 67, 40, 41, 42, 43, 44, 68, 69, 70, 71, 72, 73, 74, 75, 76, 77, 78, 79, 80, 81, 82, 83, 84, 85, 86, 87, 88, 89, 90, 91, 92, 93, 94, 95, 96, 97, 98, 99, 100, 101, 102, 103, 104, 105, 106, 107, 108, 109, 110, 111, 112, 122, 123, 124, 125, 127, 128] (by decide +kernel) (by decide +kernel)
set_option maxRecDepth 20000 in
theorem gX5_number_X4_make : GoodIn wsX5_number (wsV RX5 106 RX4 yX4_make wsX4_make) := goodIn_app (goodIn_of _ (by decide +kernel)) ggX5_number_X4_make
set_option maxRecDepth 20000 in
theorem ggX5_number_X5_cellOf : GoodIn wsX5_number wsX5_cellOf := goodIn_r _ [41, 42, 43, 6, 44] (by decide +kernel) (by decide +kernel)
set_option maxRecDepth 20000 in
theorem gX5_number_X5_cellOf : GoodIn wsX5_number (va_wsS RX5 80 yX5_cellOf wsX5_cellOf) := goodIn_app (goodIn_of _ (by decide +kernel)) ggX5_number_X5_cellOf
set_option maxRecDepth 20000 in
theorem ggX5_number_X2_at : GoodIn wsX5_number wsX2_at := goodIn_r _ [108, 73, 127, 128] (by decide +kernel) (by decide +kernel)
set_option maxRecDepth 20000 in
theorem gX5_number_X2_at : GoodIn wsX5_number (wsV RX5 112 RX2 yX2_at wsX2_at) := goodIn_app (goodIn_of _ (by decide +kernel)) ggX5_number_X2_at
theorem dX5_number_0 : decode cX5_number 0 = .ok (.aload_n 0, 1) := by decide +kernel
theorem dX5_number_1 : decode cX5_number 1 = .ok (.iload_n 1, 1) := by decide +kernel
theorem dX5_number_2 : decode cX5_number 2 = .ok (.invokevirtual 99, 3) := by decide +kernel
theorem dX5_number_5 : decode cX5_number 5 = .ok (.istore 6, 2) := by decide +kernel
theorem dX5_number_7 : decode cX5_number 7 = .ok (.iload 6, 2) := by decide +kernel
theorem dX5_number_9 : decode cX5_number 9 = .ok (.bipush (-2), 2) := by decide +kernel
theorem dX5_number_11 : decode cX5_number 11 = .ok (.if_icmp .eq 15, 3) := by decide +kernel
theorem dX5_number_14 : decode cX5_number 14 = .ok (.iload_n 2, 1) := by decide +kernel
theorem dX5_number_15 : decode cX5_number 15 = .ok (.iload_n 3, 1) := by decide +kernel
theorem dX5_number_16 : decode cX5_number 16 = .ok (.iload 4, 2) := by decide +kernel
theorem dX5_number_18 : decode cX5_number 18 = .ok (.iload 5, 2) := by decide +kernel
theorem dX5_number_20 : decode cX5_number 20 = .ok (.invokestatic 102, 3) := by decide +kernel
theorem dX5_number_23 : decode cX5_number 23 = .ok (.ifCond .eq 6, 3) := by decide +kernel
theorem dX5_number_26 : decode cX5_number 26 = .ok (.bipush (-2), 2) := by decide +kernel
theorem dX5_number_28 : decode cX5_number 28 = .ok (.ireturn, 1) := by decide +kernel
theorem dX5_number_29 : decode cX5_number 29 = .ok (.iload 6, 2) := by decide +kernel
theorem dX5_number_31 : decode cX5_number 31 = .ok (.ifCond .ge 6, 3) := by decide +kernel
theorem dX5_number_34 : decode cX5_number 34 = .ok (.iload 6, 2) := by decide +kernel
theorem dX5_number_36 : decode cX5_number 36 = .ok (.ireturn, 1) := by decide +kernel
theorem dX5_number_37 : decode cX5_number 37 = .ok (.aload_n 0, 1) := by decide +kernel
theorem dX5_number_38 : decode cX5_number 38 = .ok (.getfield 43, 3) := by decide +kernel
theorem dX5_number_41 : decode cX5_number 41 = .ok (.iload 6, 2) := by decide +kernel
theorem dX5_number_43 : decode cX5_number 43 = .ok (.invokevirtual 106, 3) := by decide +kernel
theorem dX5_number_46 : decode cX5_number 46 = .ok (.aload_n 0, 1) := by decide +kernel
theorem dX5_number_47 : decode cX5_number 47 = .ok (.getfield 43, 3) := by decide +kernel
theorem dX5_number_50 : decode cX5_number 50 = .ok (.getfield 109, 3) := by decide +kernel
theorem dX5_number_53 : decode cX5_number 53 = .ok (.iload_n 2, 1) := by decide +kernel
theorem dX5_number_54 : decode cX5_number 54 = .ok (.iload_n 3, 1) := by decide +kernel
theorem dX5_number_55 : decode cX5_number 55 = .ok (.iload 4, 2) := by decide +kernel
theorem dX5_number_57 : decode cX5_number 57 = .ok (.iload 5, 2) := by decide +kernel
theorem dX5_number_59 : decode cX5_number 59 = .ok (.invokestatic 80, 3) := by decide +kernel
theorem dX5_number_62 : decode cX5_number 62 = .ok (.invokevirtual 112, 3) := by decide +kernel
theorem dX5_number_65 : decode cX5_number 65 = .ok (.l2i, 1) := by decide +kernel
theorem dX5_number_66 : decode cX5_number 66 = .ok (.ireturn, 1) := by decide +kernel
set_option maxRecDepth 20000 in
theorem ggX5_terms_X5_fitCell : GoodIn wsX5_terms wsX5_fitCell := goodIn_r _ [7, 8, 9, 10, 11, 12, 13, 14, 15, 16, 17, 18, 19, 20, 21, 22, 23, 24, 25, 26, 27, 28, 29, 30, 31, 32, 33, 34, 35, 36, 37, 38, 39, 40, 6, 41, 42, 43, 44, 117, 118, 119, 120, 121, 122, 123, 128] (by decide +kernel) (by decide +kernel)
set_option maxRecDepth 20000 in
theorem gX5_terms_X5_fitCell : GoodIn wsX5_terms (wsV RX5 99 RX5 yX5_fitCell wsX5_fitCell) := goodIn_app (goodIn_of _ (by decide +kernel)) ggX5_terms_X5_fitCell
set_option maxRecDepth 20000 in
theorem ggX5_terms_X4_make : GoodIn wsX5_terms wsX4_make := goodIn_r _ [49, 50, 51, 52, 53, 54, 6, 55, 56, 57, 58, 48, 59, 60, 61, 62, 63, 64, 65, 66, 67, 40, 41, 42, 43, 44, 68, 69, 70, 71, 72, 73, 74, 75, 76, 77, 78, 79, 80, 81, 82, 83, 84, 85, 86, 87, 88, 89, 90, 91, 92, 93, 94, 95, 96, 97, 98, 99, 100, 101, 102, 103, 104, 105, 106, 107, 108, 109, 110, 111, 112, 124, 125, 126, 127, 129, 130] (by decide +kernel) (by decide +kernel)
set_option maxRecDepth 20000 in
theorem gX5_terms_X4_make : GoodIn wsX5_terms (wsV RX5 106 RX4 yX4_make wsX4_make) := goodIn_app (goodIn_of _ (by decide +kernel)) ggX5_terms_X4_make
set_option maxRecDepth 20000 in
theorem ggX5_terms_X2_filled : GoodIn wsX5_terms wsX2_filled := goodIn_r _ [116, 73, 129, 130] (by decide +kernel) (by decide +kernel)
set_option maxRecDepth 20000 in
theorem gX5_terms_X2_filled : GoodIn wsX5_terms (wsV RX5 116 RX2 yX2_filled wsX2_filled) := goodIn_app (goodIn_of _ (by decide +kernel)) ggX5_terms_X2_filled
theorem dX5_terms_0 : decode cX5_terms 0 = .ok (.aload_n 0, 1) := by decide +kernel
theorem dX5_terms_1 : decode cX5_terms 1 = .ok (.iload_n 1, 1) := by decide +kernel
theorem dX5_terms_2 : decode cX5_terms 2 = .ok (.invokevirtual 99, 3) := by decide +kernel
theorem dX5_terms_5 : decode cX5_terms 5 = .ok (.istore_n 2, 1) := by decide +kernel
theorem dX5_terms_6 : decode cX5_terms 6 = .ok (.iload_n 2, 1) := by decide +kernel
theorem dX5_terms_7 : decode cX5_terms 7 = .ok (.ifCond .ge 5, 3) := by decide +kernel
theorem dX5_terms_10 : decode cX5_terms 10 = .ok (.iload_n 2, 1) := by decide +kernel
theorem dX5_terms_11 : decode cX5_terms 11 = .ok (.ireturn, 1) := by decide +kernel
theorem dX5_terms_12 : decode cX5_terms 12 = .ok (.aload_n 0, 1) := by decide +kernel
theorem dX5_terms_13 : decode cX5_terms 13 = .ok (.getfield 43, 3) := by decide +kernel
theorem dX5_terms_16 : decode cX5_terms 16 = .ok (.iload_n 2, 1) := by decide +kernel
theorem dX5_terms_17 : decode cX5_terms 17 = .ok (.invokevirtual 106, 3) := by decide +kernel
theorem dX5_terms_20 : decode cX5_terms 20 = .ok (.aload_n 0, 1) := by decide +kernel
theorem dX5_terms_21 : decode cX5_terms 21 = .ok (.getfield 43, 3) := by decide +kernel
theorem dX5_terms_24 : decode cX5_terms 24 = .ok (.getfield 109, 3) := by decide +kernel
theorem dX5_terms_27 : decode cX5_terms 27 = .ok (.invokevirtual 116, 3) := by decide +kernel
theorem dX5_terms_30 : decode cX5_terms 30 = .ok (.ireturn, 1) := by decide +kernel
set_option maxRecDepth 20000 in
theorem ggX5_value_X5_fitCell : GoodIn wsX5_value wsX5_fitCell := goodIn_r _ [8, 9, 10, 11, 12, 13, 14, 15, 16, 17, 18, 19, 20, 21, 22, 23, 24, 25, 26, 27, 28, 29, 30, 31, 32, 33, 34, 35, 36, 37, 38, 39, 40, 41, 7, 42, 43, 44, 45, 125, 126, 127, 128, 129, 130, 131, 136] (by decide +kernel) (by decide +kernel)
set_option maxRecDepth 20000 in
theorem gX5_value_X5_fitCell : GoodIn wsX5_value (wsV RX5 99 RX5 yX5_fitCell wsX5_fitCell) := goodIn_app (goodIn_of _ (by decide +kernel)) ggX5_value_X5_fitCell
set_option maxRecDepth 20000 in
theorem ggX5_value_X5_isPoint : GoodIn wsX5_value wsX5_isPoint := goodIn_r _ [48] (by decide +kernel) (by decide +kernel)
set_option maxRecDepth 20000 in
theorem gX5_value_X5_isPoint : GoodIn wsX5_value (va_wsS RX5 119 yX5_isPoint wsX5_isPoint) := goodIn_app (goodIn_of _ (by decide +kernel)) ggX5_value_X5_isPoint
set_option maxRecDepth 20000 in
theorem ggX5_value_X4_make : GoodIn wsX5_value wsX4_make := goodIn_r _ [53, 54, 55, 56, 57, 58, 7, 59, 60, 61, 62, 52, 63, 64, 65, 66, 67, 68, 69, 70, 71, 41, 42, 43, 44, 45, 72, 73, 74, 75, 76, 77, 78, 79, 80, 81, 82, 83, 84, 85, 86, 87, 88, 89, 90, 91, 92, 93, 94, 95, 96, 97, 98, 99, 100, 101, 102, 103, 104, 105, 106, 107, 108, 109, 110, 111, 112, 113, 114, 115, 116, 132, 133, 134, 135, 137, 138] (by decide +kernel) (by decide +kernel)
set_option maxRecDepth 20000 in
theorem gX5_value_X4_make : GoodIn wsX5_value (wsV RX5 106 RX4 yX4_make wsX4_make) := goodIn_app (goodIn_of _ (by decide +kernel)) ggX5_value_X4_make
set_option maxRecDepth 20000 in
theorem ggX5_value_X2_valueAt : GoodIn wsX5_value wsX2_valueAt := goodIn_r _ [120, 41, 7, 42, 43, 44, 45, 121, 122, 123, 75, 124, 109, 110, 111, 112, 77, 137, 138] (by decide +kernel) (by decide +kernel)
set_option maxRecDepth 20000 in
theorem gX5_value_X2_valueAt : GoodIn wsX5_value (wsV RX5 124 RX2 yX2_valueAt wsX2_valueAt) := goodIn_app (goodIn_of _ (by decide +kernel)) ggX5_value_X2_valueAt
theorem dX5_value_0 : decode cX5_value 0 = .ok (.aload_n 0, 1) := by decide +kernel
theorem dX5_value_1 : decode cX5_value 1 = .ok (.iload_n 1, 1) := by decide +kernel
theorem dX5_value_2 : decode cX5_value 2 = .ok (.invokevirtual 99, 3) := by decide +kernel
theorem dX5_value_5 : decode cX5_value 5 = .ok (.istore 6, 2) := by decide +kernel
theorem dX5_value_7 : decode cX5_value 7 = .ok (.iload 6, 2) := by decide +kernel
theorem dX5_value_9 : decode cX5_value 9 = .ok (.ifCond .lt 33, 3) := by decide +kernel
theorem dX5_value_12 : decode cX5_value 12 = .ok (.iload_n 2, 1) := by decide +kernel
theorem dX5_value_13 : decode cX5_value 13 = .ok (.invokestatic 119, 3) := by decide +kernel
theorem dX5_value_16 : decode cX5_value 16 = .ok (.ifCond .eq 26, 3) := by decide +kernel
theorem dX5_value_19 : decode cX5_value 19 = .ok (.iload_n 3, 1) := by decide +kernel
theorem dX5_value_20 : decode cX5_value 20 = .ok (.invokestatic 119, 3) := by decide +kernel
theorem dX5_value_23 : decode cX5_value 23 = .ok (.ifCond .eq 19, 3) := by decide +kernel
theorem dX5_value_26 : decode cX5_value 26 = .ok (.iload 4, 2) := by decide +kernel
theorem dX5_value_28 : decode cX5_value 28 = .ok (.invokestatic 119, 3) := by decide +kernel
theorem dX5_value_31 : decode cX5_value 31 = .ok (.ifCond .eq 11, 3) := by decide +kernel
theorem dX5_value_34 : decode cX5_value 34 = .ok (.iload 5, 2) := by decide +kernel
theorem dX5_value_36 : decode cX5_value 36 = .ok (.invokestatic 119, 3) := by decide +kernel
theorem dX5_value_39 : decode cX5_value 39 = .ok (.ifCond .ne 7, 3) := by decide +kernel
theorem dX5_value_42 : decode cX5_value 42 = .ok (.ldc2_w 122, 3) := by decide +kernel
theorem dX5_value_45 : decode cX5_value 45 = .ok (.lreturn, 1) := by decide +kernel
theorem dX5_value_46 : decode cX5_value 46 = .ok (.aload_n 0, 1) := by decide +kernel
theorem dX5_value_47 : decode cX5_value 47 = .ok (.getfield 43, 3) := by decide +kernel
theorem dX5_value_50 : decode cX5_value 50 = .ok (.iload 6, 2) := by decide +kernel
theorem dX5_value_52 : decode cX5_value 52 = .ok (.invokevirtual 106, 3) := by decide +kernel
theorem dX5_value_55 : decode cX5_value 55 = .ok (.aload_n 0, 1) := by decide +kernel
theorem dX5_value_56 : decode cX5_value 56 = .ok (.getfield 43, 3) := by decide +kernel
theorem dX5_value_59 : decode cX5_value 59 = .ok (.getfield 109, 3) := by decide +kernel
theorem dX5_value_62 : decode cX5_value 62 = .ok (.iload_n 2, 1) := by decide +kernel
theorem dX5_value_63 : decode cX5_value 63 = .ok (.iload_n 3, 1) := by decide +kernel
theorem dX5_value_64 : decode cX5_value 64 = .ok (.iload 4, 2) := by decide +kernel
theorem dX5_value_66 : decode cX5_value 66 = .ok (.iload 5, 2) := by decide +kernel
theorem dX5_value_68 : decode cX5_value 68 = .ok (.invokevirtual 124, 3) := by decide +kernel
theorem dX5_value_71 : decode cX5_value 71 = .ok (.lreturn, 1) := by decide +kernel
set_option maxRecDepth 20000 in
theorem ggX5_wipe_X2_filled : GoodIn wsX5_wipe wsX2_filled := goodIn_r _ [7, 8, 30, 31] (by decide +kernel) (by decide +kernel)
set_option maxRecDepth 20000 in
theorem gX5_wipe_X2_filled : GoodIn wsX5_wipe (wsV RX5 116 RX2 yX2_filled wsX2_filled) := goodIn_app (goodIn_of _ (by decide +kernel)) ggX5_wipe_X2_filled
set_option maxRecDepth 20000 in
theorem ggX5_wipe_X2_clear : GoodIn wsX5_wipe wsX2_clear := goodIn_r _ [12, 8, 13, 14, 15, 16, 30, 31] (by decide +kernel) (by decide +kernel)
set_option maxRecDepth 20000 in
theorem gX5_wipe_X2_clear : GoodIn wsX5_wipe (wsV RX5 128 RX2 yX2_clear wsX2_clear) := goodIn_app (goodIn_of _ (by decide +kernel)) ggX5_wipe_X2_clear
set_option maxRecDepth 20000 in
theorem ggX5_wipe_X3_forget : GoodIn wsX5_wipe wsX3_forget := goodIn_r _ [21, 22, 32, 33, 34] (by decide +kernel) (by decide +kernel)
set_option maxRecDepth 20000 in
theorem gX5_wipe_X3_forget : GoodIn wsX5_wipe (wsV RX5 131 RX3 yX3_forget wsX3_forget) := goodIn_app (goodIn_of _ (by decide +kernel)) ggX5_wipe_X3_forget
theorem dX5_wipe_0 : decode cX5_wipe 0 = .ok (.aload_n 0, 1) := by decide +kernel
theorem dX5_wipe_1 : decode cX5_wipe 1 = .ok (.getfield 36, 3) := by decide +kernel
theorem dX5_wipe_4 : decode cX5_wipe 4 = .ok (.invokevirtual 116, 3) := by decide +kernel
theorem dX5_wipe_7 : decode cX5_wipe 7 = .ok (.istore_n 1, 1) := by decide +kernel
theorem dX5_wipe_8 : decode cX5_wipe 8 = .ok (.aload_n 0, 1) := by decide +kernel
theorem dX5_wipe_9 : decode cX5_wipe 9 = .ok (.getfield 36, 3) := by decide +kernel
theorem dX5_wipe_12 : decode cX5_wipe 12 = .ok (.invokevirtual 128, 3) := by decide +kernel
theorem dX5_wipe_15 : decode cX5_wipe 15 = .ok (.aload_n 0, 1) := by decide +kernel
theorem dX5_wipe_16 : decode cX5_wipe 16 = .ok (.getfield 50, 3) := by decide +kernel
theorem dX5_wipe_19 : decode cX5_wipe 19 = .ok (.invokevirtual 131, 3) := by decide +kernel
theorem dX5_wipe_22 : decode cX5_wipe 22 = .ok (.iload_n 1, 1) := by decide +kernel
theorem dX5_wipe_23 : decode cX5_wipe 23 = .ok (.ireturn, 1) := by decide +kernel
set_option maxRecDepth 20000 in
theorem ggX5_add_X5_fitCell : GoodIn wsX5_add wsX5_fitCell := goodIn_r _ [9, 10, 11, 12, 13, 14, 15, 16, 17, 18, 19, 20, 21, 22, 23, 24, 25, 26, 27, 28, 29, 30, 31, 32, 33, 34, 35, 36, 37, 38, 39, 40, 41, 42, 8, 43, 44, 45, 46, 152, 153, 154, 155, 156, 157, 158, 163] (by decide +kernel) (by decide +kernel)
set_option maxRecDepth 20000 in
theorem gX5_add_X5_fitCell : GoodIn wsX5_add (wsV RX5 99 RX5 yX5_fitCell wsX5_fitCell) := goodIn_app (goodIn_of _ (by decide +kernel)) ggX5_add_X5_fitCell
set_option maxRecDepth 20000 in
theorem ggX5_add_X4_make : GoodIn wsX5_add wsX4_make := goodIn_r _ [51, 52, 53, 54, 55, 56, 8, 57, 58, 59, 60, 50, 61, 62, 63, 64, 65, 66, 67, 68, 69, 42, 43, 44, 45, 46, 70, 71, 72, 73, 74, 75, 76, 77, 78, 79, 80, 81, 82, 83, 84, 85, 86, 87, 88, 89, 90, 91, 92, 93, 94, 95, 96, 97, 98, 99, 100, 101, 102, 103, 104, 105, 106, 107, 108, 109, 110, 111, 112, 113, 114, 159, 160, 161, 162, 164, 165] (by decide +kernel) (by decide +kernel)
set_option maxRecDepth 20000 in
theorem gX5_add_X4_make : GoodIn wsX5_add (wsV RX5 106 RX4 yX4_make wsX4_make) := goodIn_app (goodIn_of _ (by decide +kernel)) ggX5_add_X4_make
set_option maxRecDepth 20000 in
theorem ggX5_add_X3_lendCells : GoodIn wsX5_add wsX3_lendCells := goodIn_r _ [119, 120, 121, 122, 123, 118, 124, 125, 166, 167, 168] (by decide +kernel) (by decide +kernel)
set_option maxRecDepth 20000 in
theorem gX5_add_X3_lendCells : GoodIn wsX5_add (wsV RX5 134 RX3 yX3_lendCells wsX3_lendCells) := goodIn_app (goodIn_of _ (by decide +kernel)) ggX5_add_X3_lendCells
set_option maxRecDepth 20000 in
theorem ggX5_add_X2_copy : GoodIn wsX5_add wsX2_copy := goodIn_r _ [129, 75, 130, 131, 132, 133, 164, 165] (by decide +kernel) (by decide +kernel)
set_option maxRecDepth 20000 in
theorem gX5_add_X2_copy : GoodIn wsX5_add (wsV RX5 138 RX2 yX2_copy wsX2_copy) := goodIn_app (goodIn_of _ (by decide +kernel)) ggX5_add_X2_copy
set_option maxRecDepth 20000 in
theorem ggX5_add_X2_addTimes : GoodIn wsX5_add wsX2_addTimes := goodIn_r _ [137, 75, 164, 165] (by decide +kernel) (by decide +kernel)
set_option maxRecDepth 20000 in
theorem gX5_add_X2_addTimes : GoodIn wsX5_add (wsV RX5 142 RX2 yX2_addTimes wsX2_addTimes) := goodIn_app (goodIn_of _ (by decide +kernel)) ggX5_add_X2_addTimes
set_option maxRecDepth 20000 in
theorem ggX5_add_X5_takeDraft : GoodIn wsX5_add wsX5_takeDraft := goodIn_r _ [141, 3, 142, 143, 144, 73, 145, 75, 146, 147, 126, 127, 128, 129, 130, 131, 132, 133, 148, 149, 150, 151, 152, 153, 154, 155, 156, 157, 158, 164, 165] (by decide +kernel) (by decide +kernel)
set_option maxRecDepth 20000 in
theorem gX5_add_X5_takeDraft : GoodIn wsX5_add (wsV RX5 146 RX5 yX5_takeDraft wsX5_takeDraft) := goodIn_app (goodIn_of _ (by decide +kernel)) ggX5_add_X5_takeDraft
theorem dX5_add_0 : decode cX5_add 0 = .ok (.aload_n 0, 1) := by decide +kernel
theorem dX5_add_1 : decode cX5_add 1 = .ok (.iload_n 2, 1) := by decide +kernel
theorem dX5_add_2 : decode cX5_add 2 = .ok (.invokevirtual 99, 3) := by decide +kernel
theorem dX5_add_5 : decode cX5_add 5 = .ok (.istore_n 3, 1) := by decide +kernel
theorem dX5_add_6 : decode cX5_add 6 = .ok (.iload_n 3, 1) := by decide +kernel
theorem dX5_add_7 : decode cX5_add 7 = .ok (.bipush (-2), 2) := by decide +kernel
theorem dX5_add_9 : decode cX5_add 9 = .ok (.if_icmp .eq 17, 3) := by decide +kernel
theorem dX5_add_12 : decode cX5_add 12 = .ok (.iload_n 1, 1) := by decide +kernel
theorem dX5_add_13 : decode cX5_add 13 = .ok (.sipush (-1000), 3) := by decide +kernel
theorem dX5_add_16 : decode cX5_add 16 = .ok (.if_icmp .lt 10, 3) := by decide +kernel
theorem dX5_add_19 : decode cX5_add 19 = .ok (.iload_n 1, 1) := by decide +kernel
theorem dX5_add_20 : decode cX5_add 20 = .ok (.sipush 1000, 3) := by decide +kernel
theorem dX5_add_23 : decode cX5_add 23 = .ok (.if_icmp .le 6, 3) := by decide +kernel
theorem dX5_add_26 : decode cX5_add 26 = .ok (.bipush (-2), 2) := by decide +kernel
theorem dX5_add_28 : decode cX5_add 28 = .ok (.ireturn, 1) := by decide +kernel
theorem dX5_add_29 : decode cX5_add 29 = .ok (.iload_n 3, 1) := by decide +kernel
theorem dX5_add_30 : decode cX5_add 30 = .ok (.ifCond .ge 5, 3) := by decide +kernel
theorem dX5_add_33 : decode cX5_add 33 = .ok (.iload_n 3, 1) := by decide +kernel
theorem dX5_add_34 : decode cX5_add 34 = .ok (.ireturn, 1) := by decide +kernel
theorem dX5_add_35 : decode cX5_add 35 = .ok (.aload_n 0, 1) := by decide +kernel
theorem dX5_add_36 : decode cX5_add 36 = .ok (.getfield 43, 3) := by decide +kernel
theorem dX5_add_39 : decode cX5_add 39 = .ok (.iload_n 3, 1) := by decide +kernel
theorem dX5_add_40 : decode cX5_add 40 = .ok (.invokevirtual 106, 3) := by decide +kernel
theorem dX5_add_43 : decode cX5_add 43 = .ok (.aload_n 0, 1) := by decide +kernel
theorem dX5_add_44 : decode cX5_add 44 = .ok (.getfield 50, 3) := by decide +kernel
theorem dX5_add_47 : decode cX5_add 47 = .ok (.invokevirtual 134, 3) := by decide +kernel
theorem dX5_add_50 : decode cX5_add 50 = .ok (.astore 4, 2) := by decide +kernel
theorem dX5_add_52 : decode cX5_add 52 = .ok (.aload 4, 2) := by decide +kernel
theorem dX5_add_54 : decode cX5_add 54 = .ok (.aload_n 0, 1) := by decide +kernel
theorem dX5_add_55 : decode cX5_add 55 = .ok (.getfield 36, 3) := by decide +kernel
theorem dX5_add_58 : decode cX5_add 58 = .ok (.invokevirtual 138, 3) := by decide +kernel
theorem dX5_add_61 : decode cX5_add 61 = .ok (.aload 4, 2) := by decide +kernel
theorem dX5_add_63 : decode cX5_add 63 = .ok (.iload_n 1, 1) := by decide +kernel
theorem dX5_add_64 : decode cX5_add 64 = .ok (.i2l, 1) := by decide +kernel
theorem dX5_add_65 : decode cX5_add 65 = .ok (.aload_n 0, 1) := by decide +kernel
theorem dX5_add_66 : decode cX5_add 66 = .ok (.getfield 43, 3) := by decide +kernel
theorem dX5_add_69 : decode cX5_add 69 = .ok (.getfield 109, 3) := by decide +kernel
theorem dX5_add_72 : decode cX5_add 72 = .ok (.sipush 3024, 3) := by decide +kernel
theorem dX5_add_75 : decode cX5_add 75 = .ok (.invokevirtual 142, 3) := by decide +kernel
theorem dX5_add_78 : decode cX5_add 78 = .ok (.aload_n 0, 1) := by decide +kernel
theorem dX5_add_79 : decode cX5_add 79 = .ok (.aload 4, 2) := by decide +kernel
theorem dX5_add_81 : decode cX5_add 81 = .ok (.invokevirtual 146, 3) := by decide +kernel
theorem dX5_add_84 : decode cX5_add 84 = .ok (.ireturn, 1) := by decide +kernel
set_option maxRecDepth 20000 in
theorem ggX5_multiply_X5_fitCell : GoodIn wsX5_multiply wsX5_fitCell := goodIn_r _ [9, 10, 11, 12, 13, 14, 15, 16, 17, 18, 19, 20, 21, 22, 23, 24, 25, 26, 27, 28, 29, 30, 31, 32, 33, 34, 35, 36, 37, 38, 39, 40, 41, 42, 8, 43, 44, 45, 46, 163, 164, 165, 166, 167, 168, 169, 174] (by decide +kernel) (by decide +kernel)
set_option maxRecDepth 20000 in
theorem gX5_multiply_X5_fitCell : GoodIn wsX5_multiply (wsV RX5 99 RX5 yX5_fitCell wsX5_fitCell) := goodIn_app (goodIn_of _ (by decide +kernel)) ggX5_multiply_X5_fitCell
set_option maxRecDepth 20000 in
theorem ggX5_multiply_X4_make : GoodIn wsX5_multiply wsX4_make := goodIn_r _ [51, 52, 53, 54, 55, 56, 8, 57, 58, 59, 60, 50, 61, 62, 63, 64, 65, 66, 67, 68, 69, 42, 43, 44, 45, 46, 70, 71, 72, 73, 74, 75, 76, 77, 78, 79, 80, 81, 82, 83, 84, 85, 86, 87, 88, 89, 90, 91, 92, 93, 94, 95, 96, 97, 98, 99, 100, 101, 102, 103, 104, 105, 106, 107, 108, 109, 110, 111, 112, 113, 114, 170, 171, 172, 173, 175, 176] (by decide +kernel) (by decide +kernel)
set_option maxRecDepth 20000 in
theorem gX5_multiply_X4_make : GoodIn wsX5_multiply (wsV RX5 106 RX4 yX4_make wsX4_make) := goodIn_app (goodIn_of _ (by decide +kernel)) ggX5_multiply_X4_make
set_option maxRecDepth 20000 in
theorem ggX5_multiply_X2_measure : GoodIn wsX5_multiply wsX2_measure := goodIn_r _ [118, 76, 75, 89, 90, 91, 92, 119, 120, 83, 121, 56, 8, 57, 175, 176] (by decide +kernel) (by decide +kernel)
set_option maxRecDepth 20000 in
theorem gX5_multiply_X2_measure : GoodIn wsX5_multiply (wsV RX5 150 RX2 yX2_measure wsX2_measure) := goodIn_app (goodIn_of _ (by decide +kernel)) ggX5_multiply_X2_measure
set_option maxRecDepth 20000 in
theorem ggX5_multiply_X2_filled : GoodIn wsX5_multiply wsX2_filled := goodIn_r _ [125, 75, 175, 176] (by decide +kernel) (by decide +kernel)
set_option maxRecDepth 20000 in
theorem gX5_multiply_X2_filled : GoodIn wsX5_multiply (wsV RX5 116 RX2 yX2_filled wsX2_filled) := goodIn_app (goodIn_of _ (by decide +kernel)) ggX5_multiply_X2_filled
set_option maxRecDepth 20000 in
theorem ggX5_multiply_X2_hasRoomFor : GoodIn wsX5_multiply wsX2_hasRoomFor := goodIn_r _ [129, 76, 175, 176] (by decide +kernel) (by decide +kernel)
set_option maxRecDepth 20000 in
theorem gX5_multiply_X2_hasRoomFor : GoodIn wsX5_multiply (wsV RX5 153 RX2 yX2_hasRoomFor wsX2_hasRoomFor) := goodIn_app (goodIn_of _ (by decide +kernel)) ggX5_multiply_X2_hasRoomFor
set_option maxRecDepth 20000 in
theorem ggX5_multiply_X3_lendCells : GoodIn wsX5_multiply wsX3_lendCells := goodIn_r _ [134, 135, 136, 137, 138, 133, 139, 140, 177, 178, 179] (by decide +kernel) (by decide +kernel)
set_option maxRecDepth 20000 in
theorem gX5_multiply_X3_lendCells : GoodIn wsX5_multiply (wsV RX5 134 RX3 yX3_lendCells wsX3_lendCells) := goodIn_app (goodIn_of _ (by decide +kernel)) ggX5_multiply_X3_lendCells
set_option maxRecDepth 20000 in
theorem ggX5_multiply_X2_becomeProduct : GoodIn wsX5_multiply wsX2_becomeProduct := goodIn_r _ [144, 75, 77, 78, 79, 73, 80, 81, 82, 83, 84, 175, 176] (by decide +kernel) (by decide +kernel)
set_option maxRecDepth 20000 in
theorem gX5_multiply_X2_becomeProduct : GoodIn wsX5_multiply (wsV RX5 157 RX2 yX2_becomeProduct wsX2_becomeProduct) := goodIn_app (goodIn_of _ (by decide +kernel)) ggX5_multiply_X2_becomeProduct
set_option maxRecDepth 20000 in
theorem ggX5_multiply_X5_takeDraft : GoodIn wsX5_multiply wsX5_takeDraft := goodIn_r _ [148, 2, 149, 150, 151, 73, 152, 75, 153, 154, 155, 156, 157, 158, 159, 160, 161, 162, 122, 123, 124, 125, 163, 164, 165, 166, 167, 168, 169, 175, 176] (by decide +kernel) (by decide +kernel)
set_option maxRecDepth 20000 in
theorem gX5_multiply_X5_takeDraft : GoodIn wsX5_multiply (wsV RX5 146 RX5 yX5_takeDraft wsX5_takeDraft) := goodIn_app (goodIn_of _ (by decide +kernel)) ggX5_multiply_X5_takeDraft
theorem dX5_multiply_0 : decode cX5_multiply 0 = .ok (.aload_n 0, 1) := by decide +kernel
theorem dX5_multiply_1 : decode cX5_multiply 1 = .ok (.iload_n 1, 1) := by decide +kernel
theorem dX5_multiply_2 : decode cX5_multiply 2 = .ok (.invokevirtual 99, 3) := by decide +kernel
theorem dX5_multiply_5 : decode cX5_multiply 5 = .ok (.istore_n 2, 1) := by decide +kernel
theorem dX5_multiply_6 : decode cX5_multiply 6 = .ok (.iload_n 2, 1) := by decide +kernel
theorem dX5_multiply_7 : decode cX5_multiply 7 = .ok (.ifCond .ge 5, 3) := by decide +kernel
theorem dX5_multiply_10 : decode cX5_multiply 10 = .ok (.iload_n 2, 1) := by decide +kernel
theorem dX5_multiply_11 : decode cX5_multiply 11 = .ok (.ireturn, 1) := by decide +kernel
theorem dX5_multiply_12 : decode cX5_multiply 12 = .ok (.aload_n 0, 1) := by decide +kernel
theorem dX5_multiply_13 : decode cX5_multiply 13 = .ok (.getfield 43, 3) := by decide +kernel
theorem dX5_multiply_16 : decode cX5_multiply 16 = .ok (.iload_n 2, 1) := by decide +kernel
theorem dX5_multiply_17 : decode cX5_multiply 17 = .ok (.invokevirtual 106, 3) := by decide +kernel
theorem dX5_multiply_20 : decode cX5_multiply 20 = .ok (.aload_n 0, 1) := by decide +kernel
theorem dX5_multiply_21 : decode cX5_multiply 21 = .ok (.getfield 36, 3) := by decide +kernel
theorem dX5_multiply_24 : decode cX5_multiply 24 = .ok (.invokevirtual 150, 3) := by decide +kernel
theorem dX5_multiply_27 : decode cX5_multiply 27 = .ok (.aload_n 0, 1) := by decide +kernel
theorem dX5_multiply_28 : decode cX5_multiply 28 = .ok (.getfield 43, 3) := by decide +kernel
theorem dX5_multiply_31 : decode cX5_multiply 31 = .ok (.getfield 109, 3) := by decide +kernel
theorem dX5_multiply_34 : decode cX5_multiply 34 = .ok (.invokevirtual 150, 3) := by decide +kernel
theorem dX5_multiply_37 : decode cX5_multiply 37 = .ok (.aload_n 0, 1) := by decide +kernel
theorem dX5_multiply_38 : decode cX5_multiply 38 = .ok (.getfield 36, 3) := by decide +kernel
theorem dX5_multiply_41 : decode cX5_multiply 41 = .ok (.invokevirtual 116, 3) := by decide +kernel
theorem dX5_multiply_44 : decode cX5_multiply 44 = .ok (.ifCond .ne 5, 3) := by decide +kernel
theorem dX5_multiply_47 : decode cX5_multiply 47 = .ok (.iconst 0, 1) := by decide +kernel
theorem dX5_multiply_48 : decode cX5_multiply 48 = .ok (.ireturn, 1) := by decide +kernel
theorem dX5_multiply_49 : decode cX5_multiply 49 = .ok (.aload_n 0, 1) := by decide +kernel
theorem dX5_multiply_50 : decode cX5_multiply 50 = .ok (.getfield 36, 3) := by decide +kernel
theorem dX5_multiply_53 : decode cX5_multiply 53 = .ok (.aload_n 0, 1) := by decide +kernel
theorem dX5_multiply_54 : decode cX5_multiply 54 = .ok (.getfield 43, 3) := by decide +kernel
theorem dX5_multiply_57 : decode cX5_multiply 57 = .ok (.getfield 109, 3) := by decide +kernel
theorem dX5_multiply_60 : decode cX5_multiply 60 = .ok (.invokevirtual 153, 3) := by decide +kernel
theorem dX5_multiply_63 : decode cX5_multiply 63 = .ok (.ifCond .ne 6, 3) := by decide +kernel
theorem dX5_multiply_66 : decode cX5_multiply 66 = .ok (.bipush (-5), 2) := by decide +kernel
theorem dX5_multiply_68 : decode cX5_multiply 68 = .ok (.ireturn, 1) := by decide +kernel
theorem dX5_multiply_69 : decode cX5_multiply 69 = .ok (.aload_n 0, 1) := by decide +kernel
theorem dX5_multiply_70 : decode cX5_multiply 70 = .ok (.getfield 50, 3) := by decide +kernel
theorem dX5_multiply_73 : decode cX5_multiply 73 = .ok (.invokevirtual 134, 3) := by decide +kernel
theorem dX5_multiply_76 : decode cX5_multiply 76 = .ok (.astore_n 3, 1) := by decide +kernel
theorem dX5_multiply_77 : decode cX5_multiply 77 = .ok (.aload_n 3, 1) := by decide +kernel
theorem dX5_multiply_78 : decode cX5_multiply 78 = .ok (.aload_n 0, 1) := by decide +kernel
theorem dX5_multiply_79 : decode cX5_multiply 79 = .ok (.getfield 36, 3) := by decide +kernel
theorem dX5_multiply_82 : decode cX5_multiply 82 = .ok (.aload_n 0, 1) := by decide +kernel
theorem dX5_multiply_83 : decode cX5_multiply 83 = .ok (.getfield 43, 3) := by decide +kernel
theorem dX5_multiply_86 : decode cX5_multiply 86 = .ok (.getfield 109, 3) := by decide +kernel
theorem dX5_multiply_89 : decode cX5_multiply 89 = .ok (.invokevirtual 157, 3) := by decide +kernel
theorem dX5_multiply_92 : decode cX5_multiply 92 = .ok (.aload_n 0, 1) := by decide +kernel
theorem dX5_multiply_93 : decode cX5_multiply 93 = .ok (.aload_n 3, 1) := by decide +kernel
theorem dX5_multiply_94 : decode cX5_multiply 94 = .ok (.invokevirtual 146, 3) := by decide +kernel
theorem dX5_multiply_97 : decode cX5_multiply 97 = .ok (.ireturn, 1) := by decide +kernel
set_option maxRecDepth 20000 in
theorem ggX5_difference_X3_lendCells : GoodIn wsX5_difference wsX3_lendCells := goodIn_r _ [7, 8, 9, 10, 11, 6, 12, 13, 91, 92, 93] (by decide +kernel) (by decide +kernel)
set_option maxRecDepth 20000 in
theorem gX5_difference_X3_lendCells : GoodIn wsX5_difference (wsV RX5 134 RX3 yX3_lendCells wsX3_lendCells) := goodIn_app (goodIn_of _ (by decide +kernel)) ggX5_difference_X3_lendCells
set_option maxRecDepth 20000 in
theorem ggX5_difference_X2_copy : GoodIn wsX5_difference wsX2_copy := goodIn_r _ [18, 19, 20, 21, 22, 23, 94, 95] (by decide +kernel) (by decide +kernel)
set_option maxRecDepth 20000 in
theorem gX5_difference_X2_copy : GoodIn wsX5_difference (wsV RX5 138 RX2 yX2_copy wsX2_copy) := goodIn_app (goodIn_of _ (by decide +kernel)) ggX5_difference_X2_copy
set_option maxRecDepth 20000 in
theorem ggX5_difference_X2_measure : GoodIn wsX5_difference wsX2_measure := goodIn_r _ [27, 28, 19, 29, 30, 31, 32, 33, 34, 35, 36, 37, 38, 39, 94, 95] (by decide +kernel) (by decide +kernel)
set_option maxRecDepth 20000 in
theorem gX5_difference_X2_measure : GoodIn wsX5_difference (wsV RX5 150 RX2 yX2_measure wsX2_measure) := goodIn_app (goodIn_of _ (by decide +kernel)) ggX5_difference_X2_measure
set_option maxRecDepth 20000 in
theorem ggX5_difference_X2_degreeBound : GoodIn wsX5_difference wsX2_degreeBound := goodIn_r _ [43, 28, 94, 95] (by decide +kernel) (by decide +kernel)
set_option maxRecDepth 20000 in
theorem gX5_difference_X2_degreeBound : GoodIn wsX5_difference (wsV RX5 160 RX2 yX2_degreeBound wsX2_degreeBound) := goodIn_app (goodIn_of _ (by decide +kernel)) ggX5_difference_X2_degreeBound
set_option maxRecDepth 20000 in
theorem ggX5_difference_X2_differ : GoodIn wsX5_difference wsX2_differ := goodIn_r _ [47, 28, 29, 30, 31, 32, 48, 49, 50, 17, 51, 52, 53, 54, 55, 56, 57, 58, 59, 60, 61, 62, 63, 64, 65, 19, 66, 67, 68, 69, 94, 95] (by decide +kernel) (by decide +kernel)
set_option maxRecDepth 20000 in
theorem gX5_difference_X2_differ : GoodIn wsX5_difference (wsV RX5 163 RX2 yX2_differ wsX2_differ) := goodIn_app (goodIn_of _ (by decide +kernel)) ggX5_difference_X2_differ
set_option maxRecDepth 20000 in
theorem ggX5_difference_X5_takeDraft : GoodIn wsX5_difference wsX5_takeDraft := goodIn_r _ [73, 2, 74, 75, 76, 17, 77, 19, 78, 79, 14, 15, 16, 18, 20, 21, 22, 23, 80, 81, 82, 83, 84, 85, 86, 87, 88, 89, 90, 94, 95] (by decide +kernel) (by decide +kernel)
set_option maxRecDepth 20000 in
theorem gX5_difference_X5_takeDraft : GoodIn wsX5_difference (wsV RX5 146 RX5 yX5_takeDraft wsX5_takeDraft) := goodIn_app (goodIn_of _ (by decide +kernel)) ggX5_difference_X5_takeDraft
theorem dX5_difference_0 : decode cX5_difference 0 = .ok (.iload_n 1, 1) := by decide +kernel
theorem dX5_difference_1 : decode cX5_difference 1 = .ok (.iconst 1, 1) := by decide +kernel
theorem dX5_difference_2 : decode cX5_difference 2 = .ok (.if_icmp .lt 8, 3) := by decide +kernel
theorem dX5_difference_5 : decode cX5_difference 5 = .ok (.iload_n 1, 1) := by decide +kernel
theorem dX5_difference_6 : decode cX5_difference 6 = .ok (.iconst 4, 1) := by decide +kernel
theorem dX5_difference_7 : decode cX5_difference 7 = .ok (.if_icmp .lt 6, 3) := by decide +kernel
theorem dX5_difference_10 : decode cX5_difference 10 = .ok (.bipush (-2), 2) := by decide +kernel
theorem dX5_difference_12 : decode cX5_difference 12 = .ok (.ireturn, 1) := by decide +kernel
theorem dX5_difference_13 : decode cX5_difference 13 = .ok (.aload_n 0, 1) := by decide +kernel
theorem dX5_difference_14 : decode cX5_difference 14 = .ok (.getfield 50, 3) := by decide +kernel
theorem dX5_difference_17 : decode cX5_difference 17 = .ok (.invokevirtual 134, 3) := by decide +kernel
theorem dX5_difference_20 : decode cX5_difference 20 = .ok (.astore_n 2, 1) := by decide +kernel
theorem dX5_difference_21 : decode cX5_difference 21 = .ok (.aload_n 2, 1) := by decide +kernel
theorem dX5_difference_22 : decode cX5_difference 22 = .ok (.aload_n 0, 1) := by decide +kernel
theorem dX5_difference_23 : decode cX5_difference 23 = .ok (.getfield 36, 3) := by decide +kernel
theorem dX5_difference_26 : decode cX5_difference 26 = .ok (.invokevirtual 138, 3) := by decide +kernel
theorem dX5_difference_29 : decode cX5_difference 29 = .ok (.aload_n 2, 1) := by decide +kernel
theorem dX5_difference_30 : decode cX5_difference 30 = .ok (.invokevirtual 150, 3) := by decide +kernel
theorem dX5_difference_33 : decode cX5_difference 33 = .ok (.aload_n 2, 1) := by decide +kernel
theorem dX5_difference_34 : decode cX5_difference 34 = .ok (.iload_n 1, 1) := by decide +kernel
theorem dX5_difference_35 : decode cX5_difference 35 = .ok (.iconst 0, 1) := by decide +kernel
theorem dX5_difference_36 : decode cX5_difference 36 = .ok (.aload_n 2, 1) := by decide +kernel
theorem dX5_difference_37 : decode cX5_difference 37 = .ok (.invokevirtual 160, 3) := by decide +kernel
theorem dX5_difference_40 : decode cX5_difference 40 = .ok (.invokevirtual 163, 3) := by decide +kernel
theorem dX5_difference_43 : decode cX5_difference 43 = .ok (.aload_n 0, 1) := by decide +kernel
theorem dX5_difference_44 : decode cX5_difference 44 = .ok (.aload_n 2, 1) := by decide +kernel
theorem dX5_difference_45 : decode cX5_difference 45 = .ok (.invokevirtual 146, 3) := by decide +kernel
theorem dX5_difference_48 : decode cX5_difference 48 = .ok (.ireturn, 1) := by decide +kernel
set_option maxRecDepth 20000 in
theorem ggX5_sheet_X5_isAnyNegative : GoodIn wsX5_sheet wsX5_isAnyNegative := goodIn_r _ [6] (by decide +kernel) (by decide +kernel)
set_option maxRecDepth 20000 in
theorem gX5_sheet_X5_isAnyNegative : GoodIn wsX5_sheet (va_wsS RX5 102 yX5_isAnyNegative wsX5_isAnyNegative) := goodIn_app (goodIn_of _ (by decide +kernel)) ggX5_sheet_X5_isAnyNegative
set_option maxRecDepth 20000 in
theorem ggX5_sheet_X5_cellOf : GoodIn wsX5_sheet wsX5_cellOf := goodIn_r _ [9, 3, 4, 5, 6] (by decide +kernel) (by decide +kernel)
set_option maxRecDepth 20000 in
theorem gX5_sheet_X5_cellOf : GoodIn wsX5_sheet (va_wsS RX5 80 yX5_cellOf wsX5_cellOf) := goodIn_app (goodIn_of _ (by decide +kernel)) ggX5_sheet_X5_cellOf
set_option maxRecDepth 20000 in
theorem ggX5_sheet_X2_at : GoodIn wsX5_sheet wsX2_at := goodIn_r _ [14, 15, 23, 24] (by decide +kernel) (by decide +kernel)
set_option maxRecDepth 20000 in
theorem gX5_sheet_X2_at : GoodIn wsX5_sheet (wsV RX5 112 RX2 yX2_at wsX2_at) := goodIn_app (goodIn_of _ (by decide +kernel)) ggX5_sheet_X2_at
theorem dX5_sheet_0 : decode cX5_sheet 0 = .ok (.iload_n 1, 1) := by decide +kernel
theorem dX5_sheet_1 : decode cX5_sheet 1 = .ok (.iload_n 2, 1) := by decide +kernel
theorem dX5_sheet_2 : decode cX5_sheet 2 = .ok (.iload_n 3, 1) := by decide +kernel
theorem dX5_sheet_3 : decode cX5_sheet 3 = .ok (.iload 4, 2) := by decide +kernel
theorem dX5_sheet_5 : decode cX5_sheet 5 = .ok (.invokestatic 102, 3) := by decide +kernel
theorem dX5_sheet_8 : decode cX5_sheet 8 = .ok (.ifCond .eq 7, 3) := by decide +kernel
theorem dX5_sheet_11 : decode cX5_sheet 11 = .ok (.ldc2_w 122, 3) := by decide +kernel
theorem dX5_sheet_14 : decode cX5_sheet 14 = .ok (.lreturn, 1) := by decide +kernel
theorem dX5_sheet_15 : decode cX5_sheet 15 = .ok (.aload_n 0, 1) := by decide +kernel
theorem dX5_sheet_16 : decode cX5_sheet 16 = .ok (.getfield 36, 3) := by decide +kernel
theorem dX5_sheet_19 : decode cX5_sheet 19 = .ok (.iload_n 1, 1) := by decide +kernel
theorem dX5_sheet_20 : decode cX5_sheet 20 = .ok (.iload_n 2, 1) := by decide +kernel
theorem dX5_sheet_21 : decode cX5_sheet 21 = .ok (.iload_n 3, 1) := by decide +kernel
theorem dX5_sheet_22 : decode cX5_sheet 22 = .ok (.iload 4, 2) := by decide +kernel
theorem dX5_sheet_24 : decode cX5_sheet 24 = .ok (.invokestatic 80, 3) := by decide +kernel
theorem dX5_sheet_27 : decode cX5_sheet 27 = .ok (.invokevirtual 112, 3) := by decide +kernel
theorem dX5_sheet_30 : decode cX5_sheet 30 = .ok (.lreturn, 1) := by decide +kernel
set_option maxRecDepth 20000 in
theorem ggX5_part_X3_find : GoodIn wsX5_part wsX3_find := goodIn_r _ [10, 11, 12, 13, 14, 15, 16, 17, 18, 19, 20, 21, 22, 23, 24, 25, 26, 27, 28, 29, 30, 31, 32, 33, 34, 35, 36, 37, 38, 39, 40, 41, 42, 43, 44, 45, 46, 47, 48, 49, 50, 51, 52, 53, 54, 55, 56, 57, 58, 59, 60, 61, 62, 63, 64, 65, 66, 67, 68, 69, 70, 71, 72, 73, 74, 75, 76, 77, 78, 79, 80, 81, 82, 83, 84, 85, 86, 87, 88, 89, 90, 91, 92, 93, 94, 95, 96, 97, 98, 99, 100, 101, 102, 103, 104, 105, 106, 107, 108, 109, 110, 111, 112, 113, 114, 115, 116, 117, 118, 119, 120, 121, 122, 123, 124, 125, 126, 127, 128, 129, 130, 142, 143, 144, 145, 146, 147, 148, 149, 150, 151, 152, 153] (by decide +kernel) (by decide +kernel)
set_option maxRecDepth 20000 in
theorem gX5_part_X3_find : GoodIn wsX5_part (wsV RX5 167 RX3 yX3_find wsX3_find) := goodIn_app (goodIn_of _ (by decide +kernel)) ggX5_part_X3_find
set_option maxRecDepth 20000 in
theorem ggX5_part_X0_answer : GoodIn wsX5_part wsX0_answer := goodIn_r _ [134, 30, 129, 151, 152] (by decide +kernel) (by decide +kernel)
set_option maxRecDepth 20000 in
theorem gX5_part_X0_answer : GoodIn wsX5_part (wsV RX5 174 RX0 yX0_answer wsX0_answer) := goodIn_app (goodIn_of _ (by decide +kernel)) ggX5_part_X0_answer
theorem dX5_part_0 : decode cX5_part 0 = .ok (.iload_n 1, 1) := by decide +kernel
theorem dX5_part_1 : decode cX5_part 1 = .ok (.iconst (-1), 1) := by decide +kernel
theorem dX5_part_2 : decode cX5_part 2 = .ok (.if_icmp .ge 6, 3) := by decide +kernel
theorem dX5_part_5 : decode cX5_part 5 = .ok (.bipush (-2), 2) := by decide +kernel
theorem dX5_part_7 : decode cX5_part 7 = .ok (.ireturn, 1) := by decide +kernel
theorem dX5_part_8 : decode cX5_part 8 = .ok (.aload_n 0, 1) := by decide +kernel
theorem dX5_part_9 : decode cX5_part 9 = .ok (.getfield 50, 3) := by decide +kernel
theorem dX5_part_12 : decode cX5_part 12 = .ok (.aload_n 0, 1) := by decide +kernel
theorem dX5_part_13 : decode cX5_part 13 = .ok (.getfield 36, 3) := by decide +kernel
theorem dX5_part_16 : decode cX5_part 16 = .ok (.aload_n 0, 1) := by decide +kernel
theorem dX5_part_17 : decode cX5_part 17 = .ok (.getfield 43, 3) := by decide +kernel
theorem dX5_part_20 : decode cX5_part 20 = .ok (.aload_n 0, 1) := by decide +kernel
theorem dX5_part_21 : decode cX5_part 21 = .ok (.getfield 12, 3) := by decide +kernel
theorem dX5_part_24 : decode cX5_part 24 = .ok (.invokevirtual 167, 3) := by decide +kernel
theorem dX5_part_27 : decode cX5_part 27 = .ok (.aload_n 0, 1) := by decide +kernel
theorem dX5_part_28 : decode cX5_part 28 = .ok (.getfield 50, 3) := by decide +kernel
theorem dX5_part_31 : decode cX5_part 31 = .ok (.getfield 171, 3) := by decide +kernel
theorem dX5_part_34 : decode cX5_part 34 = .ok (.iload_n 1, 1) := by decide +kernel
theorem dX5_part_35 : decode cX5_part 35 = .ok (.invokevirtual 174, 3) := by decide +kernel
theorem dX5_part_38 : decode cX5_part 38 = .ok (.ireturn, 1) := by decide +kernel
set_option maxRecDepth 20000 in
theorem ggX5_times_X5_fitCell : GoodIn wsX5_times wsX5_fitCell := goodIn_r _ [11, 5, 12, 13, 14, 15, 16, 17, 18, 19, 20, 21, 22, 23, 24, 25, 26, 27, 28, 29, 30, 31, 32, 33, 34, 35, 36, 37, 38, 39, 40, 41, 42, 43, 10, 44, 45, 46, 47, 166, 167, 168, 169, 170, 171, 172, 176] (by decide +kernel) (by decide +kernel)
set_option maxRecDepth 20000 in
theorem gX5_times_X5_fitCell : GoodIn wsX5_times (wsV RX5 99 RX5 yX5_fitCell wsX5_fitCell) := goodIn_app (goodIn_of _ (by decide +kernel)) ggX5_times_X5_fitCell
set_option maxRecDepth 20000 in
theorem ggX5_times_X3_find : GoodIn wsX5_times wsX3_find := goodIn_r _ [52, 53, 54, 55, 56, 57, 58, 59, 60, 61, 62, 63, 64, 65, 66, 67, 68, 69, 70, 71, 72, 73, 74, 75, 76, 77, 78, 79, 80, 81, 82, 83, 84, 85, 86, 10, 87, 88, 89, 90, 91, 92, 93, 94, 95, 96, 97, 98, 99, 43, 44, 45, 46, 47, 100, 101, 102, 103, 104, 105, 106, 107, 108, 109, 110, 111, 112, 113, 114, 115, 116, 117, 118, 119, 120, 121, 122, 123, 124, 125, 126, 127, 128, 129, 130, 131, 132, 133, 134, 135, 136, 137, 138, 139, 140, 141, 142, 143, 144, 145, 146, 15, 147, 18, 148, 149, 150, 151, 152, 153, 154, 155, 156, 157, 158, 159, 160, 161, 162, 163, 164, 173, 174, 175, 177, 178, 179, 180, 181, 182, 183, 184, 176] (by decide +kernel) (by decide +kernel)
set_option maxRecDepth 20000 in
theorem gX5_times_X3_find : GoodIn wsX5_times (wsV RX5 167 RX3 yX3_find wsX3_find) := goodIn_app (goodIn_of _ (by decide +kernel)) ggX5_times_X3_find
set_option maxRecDepth 20000 in
theorem ggX5_times_X2_at : GoodIn wsX5_times wsX2_at := goodIn_r _ [76, 62, 181, 182] (by decide +kernel) (by decide +kernel)
set_option maxRecDepth 20000 in
theorem gX5_times_X2_at : GoodIn wsX5_times (wsV RX5 112 RX2 yX2_at wsX2_at) := goodIn_app (goodIn_of _ (by decide +kernel)) ggX5_times_X2_at
theorem dX5_times_0 : decode cX5_times 0 = .ok (.aload_n 0, 1) := by decide +kernel
theorem dX5_times_1 : decode cX5_times 1 = .ok (.iload_n 1, 1) := by decide +kernel
theorem dX5_times_2 : decode cX5_times 2 = .ok (.invokevirtual 99, 3) := by decide +kernel
theorem dX5_times_5 : decode cX5_times 5 = .ok (.istore_n 2, 1) := by decide +kernel
theorem dX5_times_6 : decode cX5_times 6 = .ok (.iload_n 2, 1) := by decide +kernel
theorem dX5_times_7 : decode cX5_times 7 = .ok (.ifCond .ge 7, 3) := by decide +kernel
theorem dX5_times_10 : decode cX5_times 10 = .ok (.ldc2_w 122, 3) := by decide +kernel
theorem dX5_times_13 : decode cX5_times 13 = .ok (.lreturn, 1) := by decide +kernel
theorem dX5_times_14 : decode cX5_times 14 = .ok (.aload_n 0, 1) := by decide +kernel
theorem dX5_times_15 : decode cX5_times 15 = .ok (.getfield 50, 3) := by decide +kernel
theorem dX5_times_18 : decode cX5_times 18 = .ok (.aload_n 0, 1) := by decide +kernel
theorem dX5_times_19 : decode cX5_times 19 = .ok (.getfield 36, 3) := by decide +kernel
theorem dX5_times_22 : decode cX5_times 22 = .ok (.aload_n 0, 1) := by decide +kernel
theorem dX5_times_23 : decode cX5_times 23 = .ok (.getfield 43, 3) := by decide +kernel
theorem dX5_times_26 : decode cX5_times 26 = .ok (.aload_n 0, 1) := by decide +kernel
theorem dX5_times_27 : decode cX5_times 27 = .ok (.getfield 12, 3) := by decide +kernel
theorem dX5_times_30 : decode cX5_times 30 = .ok (.invokevirtual 167, 3) := by decide +kernel
theorem dX5_times_33 : decode cX5_times 33 = .ok (.aload_n 0, 1) := by decide +kernel
theorem dX5_times_34 : decode cX5_times 34 = .ok (.getfield 50, 3) := by decide +kernel
theorem dX5_times_37 : decode cX5_times 37 = .ok (.getfield 177, 3) := by decide +kernel
theorem dX5_times_40 : decode cX5_times 40 = .ok (.iload_n 2, 1) := by decide +kernel
theorem dX5_times_41 : decode cX5_times 41 = .ok (.invokevirtual 112, 3) := by decide +kernel
theorem dX5_times_44 : decode cX5_times 44 = .ok (.lreturn, 1) := by decide +kernel
set_option maxRecDepth 20000 in
theorem ggX5_makes_X5_isCrossSet : GoodIn wsX5_makes wsX5_isCrossSet := goodIn_r _ [5] (by decide +kernel) (by decide +kernel)
set_option maxRecDepth 20000 in
theorem gX5_makes_X5_isCrossSet : GoodIn wsX5_makes (va_wsS RX5 180 yX5_isCrossSet wsX5_isCrossSet) := goodIn_app (goodIn_of _ (by decide +kernel)) ggX5_makes_X5_isCrossSet
set_option maxRecDepth 20000 in
theorem ggX5_makes_X1_becomeMade : GoodIn wsX5_makes wsX1_becomeMade := goodIn_r _ [10, 11, 12, 13, 9, 14, 15, 16, 17, 18, 19, 20, 21, 22, 23, 24, 25, 26, 27, 58] (by decide +kernel) (by decide +kernel)
set_option maxRecDepth 20000 in
theorem gX5_makes_X1_becomeMade : GoodIn wsX5_makes (wsV RX5 183 RX1 yX1_becomeMade wsX1_becomeMade) := goodIn_app (goodIn_of _ (by decide +kernel)) ggX5_makes_X1_becomeMade
set_option maxRecDepth 20000 in
theorem ggX5_makes_X1_inversions : GoodIn wsX5_makes wsX1_inversions := goodIn_r _ [31, 32, 33, 34, 9, 35, 20, 21, 22, 23, 15, 58] (by decide +kernel) (by decide +kernel)
set_option maxRecDepth 20000 in
theorem gX5_makes_X1_inversions : GoodIn wsX5_makes (wsV RX5 62 RX1 yX1_inversions wsX1_inversions) := goodIn_app (goodIn_of _ (by decide +kernel)) ggX5_makes_X1_inversions
set_option maxRecDepth 20000 in
theorem ggX5_makes_J6_bitCount_0f7a4 : GoodIn wsX5_makes wsJ6_bitCount_0f7a4 := goodIn_r _ [39, 40, 41, 42] (by decide +kernel) (by decide +kernel)
set_option maxRecDepth 20000 in
theorem gX5_makes_J6_bitCount_0f7a4 : GoodIn wsX5_makes (va_wsS RX5 186 yJ6_bitCount_0f7a4 wsJ6_bitCount_0f7a4) := goodIn_app (goodIn_of _ (by decide +kernel)) ggX5_makes_J6_bitCount_0f7a4
set_option maxRecDepth 20000 in
theorem ggX5_makes_X1_plainNumber : GoodIn wsX5_makes wsX1_plainNumber := goodIn_r _ [46, 15, 47, 48, 49, 9, 50, 58] (by decide +kernel) (by decide +kernel)
set_option maxRecDepth 20000 in
theorem gX5_makes_X1_plainNumber : GoodIn wsX5_makes (wsV RX5 58 RX1 yX1_plainNumber wsX1_plainNumber) := goodIn_app (goodIn_of _ (by decide +kernel)) ggX5_makes_X1_plainNumber
theorem dX5_makes_0 : decode cX5_makes 0 = .ok (.iload_n 1, 1) := by decide +kernel
theorem dX5_makes_1 : decode cX5_makes 1 = .ok (.invokestatic 180, 3) := by decide +kernel
theorem dX5_makes_4 : decode cX5_makes 4 = .ok (.ifCond .ne 6, 3) := by decide +kernel
theorem dX5_makes_7 : decode cX5_makes 7 = .ok (.bipush (-2), 2) := by decide +kernel
theorem dX5_makes_9 : decode cX5_makes 9 = .ok (.ireturn, 1) := by decide +kernel
theorem dX5_makes_10 : decode cX5_makes 10 = .ok (.aload_n 0, 1) := by decide +kernel
theorem dX5_makes_11 : decode cX5_makes 11 = .ok (.getfield 12, 3) := by decide +kernel
theorem dX5_makes_14 : decode cX5_makes 14 = .ok (.iload_n 1, 1) := by decide +kernel
theorem dX5_makes_15 : decode cX5_makes 15 = .ok (.invokevirtual 183, 3) := by decide +kernel
theorem dX5_makes_18 : decode cX5_makes 18 = .ok (.aload_n 0, 1) := by decide +kernel
theorem dX5_makes_19 : decode cX5_makes 19 = .ok (.getfield 12, 3) := by decide +kernel
theorem dX5_makes_22 : decode cX5_makes 22 = .ok (.invokevirtual 62, 3) := by decide +kernel
theorem dX5_makes_25 : decode cX5_makes 25 = .ok (.iload_n 1, 1) := by decide +kernel
theorem dX5_makes_26 : decode cX5_makes 26 = .ok (.invokestatic 186, 3) := by decide +kernel
theorem dX5_makes_29 : decode cX5_makes 29 = .ok (.if_icmp .ne 13, 3) := by decide +kernel
theorem dX5_makes_32 : decode cX5_makes 32 = .ok (.aload_n 0, 1) := by decide +kernel
theorem dX5_makes_33 : decode cX5_makes 33 = .ok (.getfield 12, 3) := by decide +kernel
theorem dX5_makes_36 : decode cX5_makes 36 = .ok (.invokevirtual 58, 3) := by decide +kernel
theorem dX5_makes_39 : decode cX5_makes 39 = .ok (.goto 5, 3) := by decide +kernel
theorem dX5_makes_42 : decode cX5_makes 42 = .ok (.bipush (-9), 2) := by decide +kernel
theorem dX5_makes_44 : decode cX5_makes 44 = .ok (.ireturn, 1) := by decide +kernel
set_option maxRecDepth 20000 in
theorem ggX5_dream_X1_read : GoodIn wsX5_dream wsX1_read := goodIn_r _ [6, 7, 8, 9, 10, 11, 5, 12, 69] (by decide +kernel) (by decide +kernel)
set_option maxRecDepth 20000 in
theorem gX5_dream_X1_read : GoodIn wsX5_dream (wsV RX5 54 RX1 yX1_read wsX1_read) := goodIn_app (goodIn_of _ (by decide +kernel)) ggX5_dream_X1_read
set_option maxRecDepth 20000 in
theorem ggX5_dream_X1_isSmall : GoodIn wsX5_dream wsX1_isSmall := goodIn_r _ [16, 17, 18, 19, 5, 20, 8, 69] (by decide +kernel) (by decide +kernel)
set_option maxRecDepth 20000 in
theorem gX5_dream_X1_isSmall : GoodIn wsX5_dream (wsV RX5 91 RX1 yX1_isSmall wsX1_isSmall) := goodIn_app (goodIn_of _ (by decide +kernel)) ggX5_dream_X1_isSmall
set_option maxRecDepth 20000 in
theorem ggX5_dream_X1_inversions : GoodIn wsX5_dream wsX1_inversions := goodIn_r _ [24, 25, 26, 27, 5, 28, 29, 30, 31, 32, 8, 69] (by decide +kernel) (by decide +kernel)
set_option maxRecDepth 20000 in
theorem gX5_dream_X1_inversions : GoodIn wsX5_dream (wsV RX5 62 RX1 yX1_inversions wsX1_inversions) := goodIn_app (goodIn_of _ (by decide +kernel)) ggX5_dream_X1_inversions
set_option maxRecDepth 20000 in
theorem ggX5_dream_J6_bitCount_0f7a4 : GoodIn wsX5_dream wsJ6_bitCount_0f7a4 := goodIn_r _ [36, 37, 38, 39] (by decide +kernel) (by decide +kernel)
set_option maxRecDepth 20000 in
theorem gX5_dream_J6_bitCount_0f7a4 : GoodIn wsX5_dream (va_wsS RX5 186 yJ6_bitCount_0f7a4 wsJ6_bitCount_0f7a4) := goodIn_app (goodIn_of _ (by decide +kernel)) ggX5_dream_J6_bitCount_0f7a4
set_option maxRecDepth 20000 in
theorem ggX5_dream_X5_isMadeBy : GoodIn wsX5_dream wsX5_isMadeBy := goodIn_r _ [44, 45, 46, 47, 48, 5, 49, 9, 10, 11, 12, 8, 50, 51, 52, 53, 29, 30, 31, 32, 54, 55, 56, 57, 58, 59, 60, 61, 62, 63, 64, 65, 66, 67, 68, 69] (by decide +kernel) (by decide +kernel)
set_option maxRecDepth 20000 in
theorem gX5_dream_X5_isMadeBy : GoodIn wsX5_dream (wsV RX5 191 RX5 yX5_isMadeBy wsX5_isMadeBy) := goodIn_app (goodIn_of _ (by decide +kernel)) ggX5_dream_X5_isMadeBy
theorem dX5_dream_0 : decode cX5_dream 0 = .ok (.aload_n 0, 1) := by decide +kernel
theorem dX5_dream_1 : decode cX5_dream 1 = .ok (.getfield 12, 3) := by decide +kernel
theorem dX5_dream_4 : decode cX5_dream 4 = .ok (.iload_n 1, 1) := by decide +kernel
theorem dX5_dream_5 : decode cX5_dream 5 = .ok (.invokevirtual 54, 3) := by decide +kernel
theorem dX5_dream_8 : decode cX5_dream 8 = .ok (.ifCond .eq 8, 3) := by decide +kernel
theorem dX5_dream_11 : decode cX5_dream 11 = .ok (.iload_n 2, 1) := by decide +kernel
theorem dX5_dream_12 : decode cX5_dream 12 = .ok (.iconst (-1), 1) := by decide +kernel
theorem dX5_dream_13 : decode cX5_dream 13 = .ok (.if_icmp .ge 6, 3) := by decide +kernel
theorem dX5_dream_16 : decode cX5_dream 16 = .ok (.bipush (-2), 2) := by decide +kernel
theorem dX5_dream_18 : decode cX5_dream 18 = .ok (.ireturn, 1) := by decide +kernel
theorem dX5_dream_19 : decode cX5_dream 19 = .ok (.aload_n 0, 1) := by decide +kernel
theorem dX5_dream_20 : decode cX5_dream 20 = .ok (.getfield 12, 3) := by decide +kernel
theorem dX5_dream_23 : decode cX5_dream 23 = .ok (.invokevirtual 91, 3) := by decide +kernel
theorem dX5_dream_26 : decode cX5_dream 26 = .ok (.ifCond .ne 6, 3) := by decide +kernel
theorem dX5_dream_29 : decode cX5_dream 29 = .ok (.bipush (-3), 2) := by decide +kernel
theorem dX5_dream_31 : decode cX5_dream 31 = .ok (.ireturn, 1) := by decide +kernel
theorem dX5_dream_32 : decode cX5_dream 32 = .ok (.aload_n 0, 1) := by decide +kernel
theorem dX5_dream_33 : decode cX5_dream 33 = .ok (.getfield 12, 3) := by decide +kernel
theorem dX5_dream_36 : decode cX5_dream 36 = .ok (.invokevirtual 62, 3) := by decide +kernel
theorem dX5_dream_39 : decode cX5_dream 39 = .ok (.istore_n 3, 1) := by decide +kernel
theorem dX5_dream_40 : decode cX5_dream 40 = .ok (.iconst 0, 1) := by decide +kernel
theorem dX5_dream_41 : decode cX5_dream 41 = .ok (.istore 4, 2) := by decide +kernel
theorem dX5_dream_43 : decode cX5_dream 43 = .ok (.iconst 0, 1) := by decide +kernel
theorem dX5_dream_44 : decode cX5_dream 44 = .ok (.istore 5, 2) := by decide +kernel
theorem dX5_dream_46 : decode cX5_dream 46 = .ok (.iload 5, 2) := by decide +kernel
theorem dX5_dream_48 : decode cX5_dream 48 = .ok (.sipush 1024, 3) := by decide +kernel
theorem dX5_dream_51 : decode cX5_dream 51 = .ok (.if_icmp .ge 43, 3) := by decide +kernel
theorem dX5_dream_54 : decode cX5_dream 54 = .ok (.iload 5, 2) := by decide +kernel
theorem dX5_dream_56 : decode cX5_dream 56 = .ok (.invokestatic 186, 3) := by decide +kernel
theorem dX5_dream_59 : decode cX5_dream 59 = .ok (.iload_n 3, 1) := by decide +kernel
theorem dX5_dream_60 : decode cX5_dream 60 = .ok (.if_icmp .ne 28, 3) := by decide +kernel
theorem dX5_dream_63 : decode cX5_dream 63 = .ok (.aload_n 0, 1) := by decide +kernel
theorem dX5_dream_64 : decode cX5_dream 64 = .ok (.aload_n 0, 1) := by decide +kernel
theorem dX5_dream_65 : decode cX5_dream 65 = .ok (.getfield 12, 3) := by decide +kernel
theorem dX5_dream_68 : decode cX5_dream 68 = .ok (.iload 5, 2) := by decide +kernel
theorem dX5_dream_70 : decode cX5_dream 70 = .ok (.invokevirtual 191, 3) := by decide +kernel
theorem dX5_dream_73 : decode cX5_dream 73 = .ok (.ifCond .eq 15, 3) := by decide +kernel
theorem dX5_dream_76 : decode cX5_dream 76 = .ok (.iload 4, 2) := by decide +kernel
theorem dX5_dream_78 : decode cX5_dream 78 = .ok (.iload_n 2, 1) := by decide +kernel
theorem dX5_dream_79 : decode cX5_dream 79 = .ok (.if_icmp .ne 6, 3) := by decide +kernel
theorem dX5_dream_82 : decode cX5_dream 82 = .ok (.iload 5, 2) := by decide +kernel
theorem dX5_dream_84 : decode cX5_dream 84 = .ok (.ireturn, 1) := by decide +kernel
theorem dX5_dream_85 : decode cX5_dream 85 = .ok (.iinc 4 1, 3) := by decide +kernel
theorem dX5_dream_88 : decode cX5_dream 88 = .ok (.iinc 5 1, 3) := by decide +kernel
theorem dX5_dream_91 : decode cX5_dream 91 = .ok (.goto (-45), 3) := by decide +kernel
theorem dX5_dream_94 : decode cX5_dream 94 = .ok (.iload_n 2, 1) := by decide +kernel
theorem dX5_dream_95 : decode cX5_dream 95 = .ok (.iconst (-1), 1) := by decide +kernel
theorem dX5_dream_96 : decode cX5_dream 96 = .ok (.if_icmp .ne 8, 3) := by decide +kernel
theorem dX5_dream_99 : decode cX5_dream 99 = .ok (.iload 4, 2) := by decide +kernel
theorem dX5_dream_101 : decode cX5_dream 101 = .ok (.goto 5, 3) := by decide +kernel
theorem dX5_dream_104 : decode cX5_dream 104 = .ok (.bipush (-9), 2) := by decide +kernel
theorem dX5_dream_106 : decode cX5_dream 106 = .ok (.ireturn, 1) := by decide +kernel
set_option maxRecDepth 20000 in
theorem ggX5_ladder_X5_isCrossSet : GoodIn wsX5_ladder wsX5_isCrossSet := goodIn_r _ [5] (by decide +kernel) (by decide +kernel)
set_option maxRecDepth 20000 in
theorem gX5_ladder_X5_isCrossSet : GoodIn wsX5_ladder (va_wsS RX5 180 yX5_isCrossSet wsX5_isCrossSet) := goodIn_app (goodIn_of _ (by decide +kernel)) ggX5_ladder_X5_isCrossSet
set_option maxRecDepth 20000 in
theorem ggX5_ladder_X0_clear : GoodIn wsX5_ladder wsX0_clear := goodIn_r _ [10, 11, 43, 44] (by decide +kernel) (by decide +kernel)
set_option maxRecDepth 20000 in
theorem gX5_ladder_X0_clear : GoodIn wsX5_ladder (wsV RX5 195 RX0 yX0_clear wsX0_clear) := goodIn_app (goodIn_of _ (by decide +kernel)) ggX5_ladder_X0_clear
set_option maxRecDepth 20000 in
theorem ggX5_ladder_X5_putLadder : GoodIn wsX5_ladder wsX5_putLadder := goodIn_r _ [15, 1, 16, 17, 4, 18, 19, 20, 21, 22, 23, 24, 25, 9, 26, 11, 27, 28, 29, 30, 31, 36, 37, 38, 39, 40, 41, 42, 43, 44] (by decide +kernel) (by decide +kernel)
set_option maxRecDepth 20000 in
theorem gX5_ladder_X5_putLadder : GoodIn wsX5_ladder (wsV RX5 196 RX5 yX5_putLadder wsX5_putLadder) := goodIn_app (goodIn_of _ (by decide +kernel)) ggX5_ladder_X5_putLadder
set_option maxRecDepth 20000 in
theorem ggX5_ladder_X0_answer : GoodIn wsX5_ladder wsX0_answer := goodIn_r _ [35, 11, 27, 43, 44] (by decide +kernel) (by decide +kernel)
set_option maxRecDepth 20000 in
theorem gX5_ladder_X0_answer : GoodIn wsX5_ladder (wsV RX5 174 RX0 yX0_answer wsX0_answer) := goodIn_app (goodIn_of _ (by decide +kernel)) ggX5_ladder_X0_answer
theorem dX5_ladder_0 : decode cX5_ladder 0 = .ok (.iload_n 1, 1) := by decide +kernel
theorem dX5_ladder_1 : decode cX5_ladder 1 = .ok (.invokestatic 180, 3) := by decide +kernel
theorem dX5_ladder_4 : decode cX5_ladder 4 = .ok (.ifCond .eq 8, 3) := by decide +kernel
theorem dX5_ladder_7 : decode cX5_ladder 7 = .ok (.iload_n 2, 1) := by decide +kernel
theorem dX5_ladder_8 : decode cX5_ladder 8 = .ok (.iconst (-1), 1) := by decide +kernel
theorem dX5_ladder_9 : decode cX5_ladder 9 = .ok (.if_icmp .ge 6, 3) := by decide +kernel
theorem dX5_ladder_12 : decode cX5_ladder 12 = .ok (.bipush (-2), 2) := by decide +kernel
theorem dX5_ladder_14 : decode cX5_ladder 14 = .ok (.ireturn, 1) := by decide +kernel
theorem dX5_ladder_15 : decode cX5_ladder 15 = .ok (.aload_n 0, 1) := by decide +kernel
theorem dX5_ladder_16 : decode cX5_ladder 16 = .ok (.getfield 29, 3) := by decide +kernel
theorem dX5_ladder_19 : decode cX5_ladder 19 = .ok (.invokevirtual 195, 3) := by decide +kernel
theorem dX5_ladder_22 : decode cX5_ladder 22 = .ok (.iconst 2, 1) := by decide +kernel
theorem dX5_ladder_23 : decode cX5_ladder 23 = .ok (.istore_n 3, 1) := by decide +kernel
theorem dX5_ladder_24 : decode cX5_ladder 24 = .ok (.iload_n 3, 1) := by decide +kernel
theorem dX5_ladder_25 : decode cX5_ladder 25 = .ok (.iconst 4, 1) := by decide +kernel
theorem dX5_ladder_26 : decode cX5_ladder 26 = .ok (.if_icmp .gt 34, 3) := by decide +kernel
theorem dX5_ladder_29 : decode cX5_ladder 29 = .ok (.iconst 1, 1) := by decide +kernel
theorem dX5_ladder_30 : decode cX5_ladder 30 = .ok (.istore 4, 2) := by decide +kernel
theorem dX5_ladder_32 : decode cX5_ladder 32 = .ok (.iload 4, 2) := by decide +kernel
theorem dX5_ladder_34 : decode cX5_ladder 34 = .ok (.iconst 5, 1) := by decide +kernel
theorem dX5_ladder_35 : decode cX5_ladder 35 = .ok (.iload_n 3, 1) := by decide +kernel
theorem dX5_ladder_36 : decode cX5_ladder 36 = .ok (.isub, 1) := by decide +kernel
theorem dX5_ladder_37 : decode cX5_ladder 37 = .ok (.if_icmp .gt 17, 3) := by decide +kernel
theorem dX5_ladder_40 : decode cX5_ladder 40 = .ok (.aload_n 0, 1) := by decide +kernel
theorem dX5_ladder_41 : decode cX5_ladder 41 = .ok (.iload_n 1, 1) := by decide +kernel
theorem dX5_ladder_42 : decode cX5_ladder 42 = .ok (.iload_n 3, 1) := by decide +kernel
theorem dX5_ladder_43 : decode cX5_ladder 43 = .ok (.iload 4, 2) := by decide +kernel
theorem dX5_ladder_45 : decode cX5_ladder 45 = .ok (.invokevirtual 196, 3) := by decide +kernel
theorem dX5_ladder_48 : decode cX5_ladder 48 = .ok (.iinc 4 1, 3) := by decide +kernel
theorem dX5_ladder_51 : decode cX5_ladder 51 = .ok (.goto (-19), 3) := by decide +kernel
theorem dX5_ladder_54 : decode cX5_ladder 54 = .ok (.iinc 3 1, 3) := by decide +kernel
theorem dX5_ladder_57 : decode cX5_ladder 57 = .ok (.goto (-33), 3) := by decide +kernel
theorem dX5_ladder_60 : decode cX5_ladder 60 = .ok (.aload_n 0, 1) := by decide +kernel
theorem dX5_ladder_61 : decode cX5_ladder 61 = .ok (.getfield 29, 3) := by decide +kernel
theorem dX5_ladder_64 : decode cX5_ladder 64 = .ok (.iload_n 2, 1) := by decide +kernel
theorem dX5_ladder_65 : decode cX5_ladder 65 = .ok (.invokevirtual 174, 3) := by decide +kernel
theorem dX5_ladder_68 : decode cX5_ladder 68 = .ok (.ireturn, 1) := by decide +kernel
set_option maxRecDepth 20000 in
theorem ggX5_rise_X1_read : GoodIn wsX5_rise wsX1_read := goodIn_r _ [8, 9, 10, 11, 12, 13, 7, 14, 74] (by decide +kernel) (by decide +kernel)
set_option maxRecDepth 20000 in
theorem gX5_rise_X1_read : GoodIn wsX5_rise (wsV RX5 54 RX1 yX1_read wsX1_read) := goodIn_app (goodIn_of _ (by decide +kernel)) ggX5_rise_X1_read
set_option maxRecDepth 20000 in
theorem ggX5_rise_X1_inversions : GoodIn wsX5_rise wsX1_inversions := goodIn_r _ [18, 19, 20, 21, 7, 22, 23, 24, 25, 26, 10, 74] (by decide +kernel) (by decide +kernel)
set_option maxRecDepth 20000 in
theorem gX5_rise_X1_inversions : GoodIn wsX5_rise (wsV RX5 62 RX1 yX1_inversions wsX1_inversions) := goodIn_app (goodIn_of _ (by decide +kernel)) ggX5_rise_X1_inversions
set_option maxRecDepth 20000 in
theorem ggX5_rise_X0_clear : GoodIn wsX5_rise wsX0_clear := goodIn_r _ [31, 32, 75, 76] (by decide +kernel) (by decide +kernel)
set_option maxRecDepth 20000 in
theorem gX5_rise_X0_clear : GoodIn wsX5_rise (wsV RX5 195 RX0 yX0_clear wsX0_clear) := goodIn_app (goodIn_of _ (by decide +kernel)) ggX5_rise_X0_clear
set_option maxRecDepth 20000 in
theorem ggX5_rise_X5_putExchanged : GoodIn wsX5_rise wsX5_putExchanged := goodIn_r _ [37, 3, 38, 39, 40, 7, 41, 23, 24, 25, 26, 10, 42, 43, 44, 45, 15, 16, 17, 18, 19, 20, 21, 22, 46, 47, 48, 49, 50, 51, 52, 53, 54, 55, 56, 30, 57, 32, 58, 59, 60, 61, 62, 67, 68, 69, 70, 71, 72, 73, 74, 75, 76] (by decide +kernel) (by decide +kernel)
set_option maxRecDepth 20000 in
theorem gX5_rise_X5_putExchanged : GoodIn wsX5_rise (wsV RX5 200 RX5 yX5_putExchanged wsX5_putExchanged) := goodIn_app (goodIn_of _ (by decide +kernel)) ggX5_rise_X5_putExchanged
set_option maxRecDepth 20000 in
theorem ggX5_rise_X0_answer : GoodIn wsX5_rise wsX0_answer := goodIn_r _ [66, 32, 58, 75, 76] (by decide +kernel) (by decide +kernel)
set_option maxRecDepth 20000 in
theorem gX5_rise_X0_answer : GoodIn wsX5_rise (wsV RX5 174 RX0 yX0_answer wsX0_answer) := goodIn_app (goodIn_of _ (by decide +kernel)) ggX5_rise_X0_answer
theorem dX5_rise_0 : decode cX5_rise 0 = .ok (.iload_n 1, 1) := by decide +kernel
theorem dX5_rise_1 : decode cX5_rise 1 = .ok (.ldc 199, 2) := by decide +kernel
theorem dX5_rise_3 : decode cX5_rise 3 = .ok (.if_icmp .gt 30, 3) := by decide +kernel
theorem dX5_rise_6 : decode cX5_rise 6 = .ok (.aload_n 0, 1) := by decide +kernel
theorem dX5_rise_7 : decode cX5_rise 7 = .ok (.getfield 12, 3) := by decide +kernel
theorem dX5_rise_10 : decode cX5_rise 10 = .ok (.iload_n 1, 1) := by decide +kernel
theorem dX5_rise_11 : decode cX5_rise 11 = .ok (.invokevirtual 54, 3) := by decide +kernel
theorem dX5_rise_14 : decode cX5_rise 14 = .ok (.ifCond .eq 19, 3) := by decide +kernel
theorem dX5_rise_17 : decode cX5_rise 17 = .ok (.iload_n 2, 1) := by decide +kernel
theorem dX5_rise_18 : decode cX5_rise 18 = .ok (.iconst 1, 1) := by decide +kernel
theorem dX5_rise_19 : decode cX5_rise 19 = .ok (.if_icmp .lt 14, 3) := by decide +kernel
theorem dX5_rise_22 : decode cX5_rise 22 = .ok (.iload_n 2, 1) := by decide +kernel
theorem dX5_rise_23 : decode cX5_rise 23 = .ok (.bipush 9, 2) := by decide +kernel
theorem dX5_rise_25 : decode cX5_rise 25 = .ok (.if_icmp .ge 8, 3) := by decide +kernel
theorem dX5_rise_28 : decode cX5_rise 28 = .ok (.iload_n 3, 1) := by decide +kernel
theorem dX5_rise_29 : decode cX5_rise 29 = .ok (.iconst (-1), 1) := by decide +kernel
theorem dX5_rise_30 : decode cX5_rise 30 = .ok (.if_icmp .ge 6, 3) := by decide +kernel
theorem dX5_rise_33 : decode cX5_rise 33 = .ok (.bipush (-2), 2) := by decide +kernel
theorem dX5_rise_35 : decode cX5_rise 35 = .ok (.ireturn, 1) := by decide +kernel
theorem dX5_rise_36 : decode cX5_rise 36 = .ok (.aload_n 0, 1) := by decide +kernel
theorem dX5_rise_37 : decode cX5_rise 37 = .ok (.getfield 12, 3) := by decide +kernel
theorem dX5_rise_40 : decode cX5_rise 40 = .ok (.invokevirtual 62, 3) := by decide +kernel
theorem dX5_rise_43 : decode cX5_rise 43 = .ok (.iconst 1, 1) := by decide +kernel
theorem dX5_rise_44 : decode cX5_rise 44 = .ok (.iadd, 1) := by decide +kernel
theorem dX5_rise_45 : decode cX5_rise 45 = .ok (.istore 4, 2) := by decide +kernel
theorem dX5_rise_47 : decode cX5_rise 47 = .ok (.aload_n 0, 1) := by decide +kernel
theorem dX5_rise_48 : decode cX5_rise 48 = .ok (.getfield 29, 3) := by decide +kernel
theorem dX5_rise_51 : decode cX5_rise 51 = .ok (.invokevirtual 195, 3) := by decide +kernel
theorem dX5_rise_54 : decode cX5_rise 54 = .ok (.iconst 1, 1) := by decide +kernel
theorem dX5_rise_55 : decode cX5_rise 55 = .ok (.istore 5, 2) := by decide +kernel
theorem dX5_rise_57 : decode cX5_rise 57 = .ok (.iload 5, 2) := by decide +kernel
theorem dX5_rise_59 : decode cX5_rise 59 = .ok (.iload_n 2, 1) := by decide +kernel
theorem dX5_rise_60 : decode cX5_rise 60 = .ok (.if_icmp .gt 41, 3) := by decide +kernel
theorem dX5_rise_63 : decode cX5_rise 63 = .ok (.iload_n 2, 1) := by decide +kernel
theorem dX5_rise_64 : decode cX5_rise 64 = .ok (.iconst 1, 1) := by decide +kernel
theorem dX5_rise_65 : decode cX5_rise 65 = .ok (.iadd, 1) := by decide +kernel
theorem dX5_rise_66 : decode cX5_rise 66 = .ok (.istore 6, 2) := by decide +kernel
theorem dX5_rise_68 : decode cX5_rise 68 = .ok (.iload 6, 2) := by decide +kernel
theorem dX5_rise_70 : decode cX5_rise 70 = .ok (.bipush 9, 2) := by decide +kernel
theorem dX5_rise_72 : decode cX5_rise 72 = .ok (.if_icmp .gt 23, 3) := by decide +kernel
theorem dX5_rise_75 : decode cX5_rise 75 = .ok (.aload_n 0, 1) := by decide +kernel
theorem dX5_rise_76 : decode cX5_rise 76 = .ok (.aload_n 0, 1) := by decide +kernel
theorem dX5_rise_77 : decode cX5_rise 77 = .ok (.getfield 12, 3) := by decide +kernel
theorem dX5_rise_80 : decode cX5_rise 80 = .ok (.iload 5, 2) := by decide +kernel
theorem dX5_rise_82 : decode cX5_rise 82 = .ok (.iload 6, 2) := by decide +kernel
theorem dX5_rise_84 : decode cX5_rise 84 = .ok (.iload 4, 2) := by decide +kernel
theorem dX5_rise_86 : decode cX5_rise 86 = .ok (.invokevirtual 200, 3) := by decide +kernel
theorem dX5_rise_89 : decode cX5_rise 89 = .ok (.iinc 6 1, 3) := by decide +kernel
theorem dX5_rise_92 : decode cX5_rise 92 = .ok (.goto (-24), 3) := by decide +kernel
theorem dX5_rise_95 : decode cX5_rise 95 = .ok (.iinc 5 1, 3) := by decide +kernel
theorem dX5_rise_98 : decode cX5_rise 98 = .ok (.goto (-41), 3) := by decide +kernel
theorem dX5_rise_101 : decode cX5_rise 101 = .ok (.aload_n 0, 1) := by decide +kernel
theorem dX5_rise_102 : decode cX5_rise 102 = .ok (.getfield 29, 3) := by decide +kernel
theorem dX5_rise_105 : decode cX5_rise 105 = .ok (.iload_n 3, 1) := by decide +kernel
theorem dX5_rise_106 : decode cX5_rise 106 = .ok (.invokevirtual 174, 3) := by decide +kernel
theorem dX5_rise_109 : decode cX5_rise 109 = .ok (.ireturn, 1) := by decide +kernel
set_option maxRecDepth 20000 in
theorem ggX5_step_X1_read : GoodIn wsX5_step wsX1_read := goodIn_r _ [7, 8, 9, 10, 11, 12, 6, 13, 81] (by decide +kernel) (by decide +kernel)
set_option maxRecDepth 20000 in
theorem gX5_step_X1_read : GoodIn wsX5_step (wsV RX5 54 RX1 yX1_read wsX1_read) := goodIn_app (goodIn_of _ (by decide +kernel)) ggX5_step_X1_read
set_option maxRecDepth 20000 in
theorem ggX5_step_X1_lastDescent : GoodIn wsX5_step wsX1_lastDescent := goodIn_r _ [17, 9, 81] (by decide +kernel) (by decide +kernel)
set_option maxRecDepth 20000 in
theorem gX5_step_X1_lastDescent : GoodIn wsX5_step (wsV RX5 204 RX1 yX1_lastDescent wsX1_lastDescent) := goodIn_app (goodIn_of _ (by decide +kernel)) ggX5_step_X1_lastDescent
set_option maxRecDepth 20000 in
theorem ggX5_step_X1_lastLessThan : GoodIn wsX5_step wsX1_lastLessThan := goodIn_r _ [21, 9, 22, 23, 24, 6, 25, 81] (by decide +kernel) (by decide +kernel)
set_option maxRecDepth 20000 in
theorem gX5_step_X1_lastLessThan : GoodIn wsX5_step (wsV RX5 207 RX1 yX1_lastLessThan wsX1_lastLessThan) := goodIn_app (goodIn_of _ (by decide +kernel)) ggX5_step_X1_lastLessThan
set_option maxRecDepth 20000 in
theorem ggX5_step_X1_inversions : GoodIn wsX5_step wsX1_inversions := goodIn_r _ [29, 30, 31, 32, 6, 33, 22, 23, 24, 25, 9, 81] (by decide +kernel) (by decide +kernel)
set_option maxRecDepth 20000 in
theorem gX5_step_X1_inversions : GoodIn wsX5_step (wsV RX5 62 RX1 yX1_inversions wsX1_inversions) := goodIn_app (goodIn_of _ (by decide +kernel)) ggX5_step_X1_inversions
set_option maxRecDepth 20000 in
theorem ggX5_step_X1_exchange : GoodIn wsX5_step wsX1_exchange := goodIn_r _ [37, 22, 23, 24, 6, 25, 9, 38, 39, 40, 41, 81] (by decide +kernel) (by decide +kernel)
set_option maxRecDepth 20000 in
theorem gX5_step_X1_exchange : GoodIn wsX5_step (wsV RX5 210 RX1 yX1_exchange wsX1_exchange) := goodIn_app (goodIn_of _ (by decide +kernel)) ggX5_step_X1_exchange
set_option maxRecDepth 20000 in
theorem ggX5_step_X1_plainNumber : GoodIn wsX5_step wsX1_plainNumber := goodIn_r _ [45, 9, 46, 47, 48, 6, 49, 81] (by decide +kernel) (by decide +kernel)
set_option maxRecDepth 20000 in
theorem gX5_step_X1_plainNumber : GoodIn wsX5_step (wsV RX5 58 RX1 yX1_plainNumber wsX1_plainNumber) := goodIn_app (goodIn_of _ (by decide +kernel)) ggX5_step_X1_plainNumber
set_option maxRecDepth 20000 in
theorem ggX5_step_X0_clear : GoodIn wsX5_step wsX0_clear := goodIn_r _ [54, 55, 82, 83] (by decide +kernel) (by decide +kernel)
set_option maxRecDepth 20000 in
theorem gX5_step_X0_clear : GoodIn wsX5_step (wsV RX5 195 RX0 yX0_clear wsX0_clear) := goodIn_app (goodIn_of _ (by decide +kernel)) ggX5_step_X0_clear
set_option maxRecDepth 20000 in
theorem ggX5_step_X5_putExchanged : GoodIn wsX5_step wsX5_putExchanged := goodIn_r _ [60, 2, 34, 35, 36, 6, 37, 22, 23, 24, 25, 9, 38, 39, 40, 41, 26, 27, 28, 29, 30, 31, 32, 33, 42, 43, 44, 45, 46, 47, 48, 49, 61, 62, 63, 53, 64, 55, 65, 66, 67, 68, 69, 74, 75, 76, 77, 78, 79, 80, 81, 82, 83] (by decide +kernel) (by decide +kernel)
set_option maxRecDepth 20000 in
theorem gX5_step_X5_putExchanged : GoodIn wsX5_step (wsV RX5 200 RX5 yX5_putExchanged wsX5_putExchanged) := goodIn_app (goodIn_of _ (by decide +kernel)) ggX5_step_X5_putExchanged
set_option maxRecDepth 20000 in
theorem ggX5_step_X0_answer : GoodIn wsX5_step wsX0_answer := goodIn_r _ [73, 55, 65, 82, 83] (by decide +kernel) (by decide +kernel)
set_option maxRecDepth 20000 in
theorem gX5_step_X0_answer : GoodIn wsX5_step (wsV RX5 174 RX0 yX0_answer wsX0_answer) := goodIn_app (goodIn_of _ (by decide +kernel)) ggX5_step_X0_answer
theorem dX5_step_0 : decode cX5_step 0 = .ok (.aload_n 0, 1) := by decide +kernel
theorem dX5_step_1 : decode cX5_step 1 = .ok (.getfield 12, 3) := by decide +kernel
theorem dX5_step_4 : decode cX5_step 4 = .ok (.iload_n 1, 1) := by decide +kernel
theorem dX5_step_5 : decode cX5_step 5 = .ok (.invokevirtual 54, 3) := by decide +kernel
theorem dX5_step_8 : decode cX5_step 8 = .ok (.ifCond .eq 9, 3) := by decide +kernel
theorem dX5_step_11 : decode cX5_step 11 = .ok (.iload_n 2, 1) := by decide +kernel
theorem dX5_step_12 : decode cX5_step 12 = .ok (.bipush (-3), 2) := by decide +kernel
theorem dX5_step_14 : decode cX5_step 14 = .ok (.if_icmp .ge 6, 3) := by decide +kernel
theorem dX5_step_17 : decode cX5_step 17 = .ok (.bipush (-2), 2) := by decide +kernel
theorem dX5_step_19 : decode cX5_step 19 = .ok (.ireturn, 1) := by decide +kernel
theorem dX5_step_20 : decode cX5_step 20 = .ok (.aload_n 0, 1) := by decide +kernel
theorem dX5_step_21 : decode cX5_step 21 = .ok (.getfield 12, 3) := by decide +kernel
theorem dX5_step_24 : decode cX5_step 24 = .ok (.invokevirtual 204, 3) := by decide +kernel
theorem dX5_step_27 : decode cX5_step 27 = .ok (.istore_n 3, 1) := by decide +kernel
theorem dX5_step_28 : decode cX5_step 28 = .ok (.iload_n 3, 1) := by decide +kernel
theorem dX5_step_29 : decode cX5_step 29 = .ok (.ifCond .ne 6, 3) := by decide +kernel
theorem dX5_step_32 : decode cX5_step 32 = .ok (.bipush (-3), 2) := by decide +kernel
theorem dX5_step_34 : decode cX5_step 34 = .ok (.ireturn, 1) := by decide +kernel
theorem dX5_step_35 : decode cX5_step 35 = .ok (.aload_n 0, 1) := by decide +kernel
theorem dX5_step_36 : decode cX5_step 36 = .ok (.getfield 12, 3) := by decide +kernel
theorem dX5_step_39 : decode cX5_step 39 = .ok (.iload_n 3, 1) := by decide +kernel
theorem dX5_step_40 : decode cX5_step 40 = .ok (.invokevirtual 207, 3) := by decide +kernel
theorem dX5_step_43 : decode cX5_step 43 = .ok (.istore 4, 2) := by decide +kernel
theorem dX5_step_45 : decode cX5_step 45 = .ok (.iload_n 2, 1) := by decide +kernel
theorem dX5_step_46 : decode cX5_step 46 = .ok (.bipush (-3), 2) := by decide +kernel
theorem dX5_step_48 : decode cX5_step 48 = .ok (.if_icmp .ne 5, 3) := by decide +kernel
theorem dX5_step_51 : decode cX5_step 51 = .ok (.iload_n 3, 1) := by decide +kernel
theorem dX5_step_52 : decode cX5_step 52 = .ok (.ireturn, 1) := by decide +kernel
theorem dX5_step_53 : decode cX5_step 53 = .ok (.iload_n 2, 1) := by decide +kernel
theorem dX5_step_54 : decode cX5_step 54 = .ok (.bipush (-2), 2) := by decide +kernel
theorem dX5_step_56 : decode cX5_step 56 = .ok (.if_icmp .ne 6, 3) := by decide +kernel
theorem dX5_step_59 : decode cX5_step 59 = .ok (.iload 4, 2) := by decide +kernel
theorem dX5_step_61 : decode cX5_step 61 = .ok (.ireturn, 1) := by decide +kernel
theorem dX5_step_62 : decode cX5_step 62 = .ok (.aload_n 0, 1) := by decide +kernel
theorem dX5_step_63 : decode cX5_step 63 = .ok (.getfield 12, 3) := by decide +kernel
theorem dX5_step_66 : decode cX5_step 66 = .ok (.invokevirtual 62, 3) := by decide +kernel
theorem dX5_step_69 : decode cX5_step 69 = .ok (.istore 5, 2) := by decide +kernel
theorem dX5_step_71 : decode cX5_step 71 = .ok (.aload_n 0, 1) := by decide +kernel
theorem dX5_step_72 : decode cX5_step 72 = .ok (.getfield 12, 3) := by decide +kernel
theorem dX5_step_75 : decode cX5_step 75 = .ok (.iload_n 3, 1) := by decide +kernel
theorem dX5_step_76 : decode cX5_step 76 = .ok (.iload 4, 2) := by decide +kernel
theorem dX5_step_78 : decode cX5_step 78 = .ok (.invokevirtual 210, 3) := by decide +kernel
theorem dX5_step_81 : decode cX5_step 81 = .ok (.iload_n 2, 1) := by decide +kernel
theorem dX5_step_82 : decode cX5_step 82 = .ok (.ifCond .ne 11, 3) := by decide +kernel
theorem dX5_step_85 : decode cX5_step 85 = .ok (.aload_n 0, 1) := by decide +kernel
theorem dX5_step_86 : decode cX5_step 86 = .ok (.getfield 12, 3) := by decide +kernel
theorem dX5_step_89 : decode cX5_step 89 = .ok (.invokevirtual 58, 3) := by decide +kernel
theorem dX5_step_92 : decode cX5_step 92 = .ok (.ireturn, 1) := by decide +kernel
theorem dX5_step_93 : decode cX5_step 93 = .ok (.aload_n 0, 1) := by decide +kernel
theorem dX5_step_94 : decode cX5_step 94 = .ok (.getfield 29, 3) := by decide +kernel
theorem dX5_step_97 : decode cX5_step 97 = .ok (.invokevirtual 195, 3) := by decide +kernel
theorem dX5_step_100 : decode cX5_step 100 = .ok (.iconst 1, 1) := by decide +kernel
theorem dX5_step_101 : decode cX5_step 101 = .ok (.istore 6, 2) := by decide +kernel
theorem dX5_step_103 : decode cX5_step 103 = .ok (.iload 6, 2) := by decide +kernel
theorem dX5_step_105 : decode cX5_step 105 = .ok (.iload_n 3, 1) := by decide +kernel
theorem dX5_step_106 : decode cX5_step 106 = .ok (.if_icmp .ge 22, 3) := by decide +kernel
theorem dX5_step_109 : decode cX5_step 109 = .ok (.aload_n 0, 1) := by decide +kernel
theorem dX5_step_110 : decode cX5_step 110 = .ok (.aload_n 0, 1) := by decide +kernel
theorem dX5_step_111 : decode cX5_step 111 = .ok (.getfield 12, 3) := by decide +kernel
theorem dX5_step_114 : decode cX5_step 114 = .ok (.iload 6, 2) := by decide +kernel
theorem dX5_step_116 : decode cX5_step 116 = .ok (.iload_n 3, 1) := by decide +kernel
theorem dX5_step_117 : decode cX5_step 117 = .ok (.iload 5, 2) := by decide +kernel
theorem dX5_step_119 : decode cX5_step 119 = .ok (.invokevirtual 200, 3) := by decide +kernel
theorem dX5_step_122 : decode cX5_step 122 = .ok (.iinc 6 1, 3) := by decide +kernel
theorem dX5_step_125 : decode cX5_step 125 = .ok (.goto (-22), 3) := by decide +kernel
theorem dX5_step_128 : decode cX5_step 128 = .ok (.aload_n 0, 1) := by decide +kernel
theorem dX5_step_129 : decode cX5_step 129 = .ok (.getfield 29, 3) := by decide +kernel
theorem dX5_step_132 : decode cX5_step 132 = .ok (.iload_n 2, 1) := by decide +kernel
theorem dX5_step_133 : decode cX5_step 133 = .ok (.iconst (-1), 1) := by decide +kernel
theorem dX5_step_134 : decode cX5_step 134 = .ok (.if_icmp .ne 7, 3) := by decide +kernel
theorem dX5_step_137 : decode cX5_step 137 = .ok (.iconst (-1), 1) := by decide +kernel
theorem dX5_step_138 : decode cX5_step 138 = .ok (.goto 6, 3) := by decide +kernel
theorem dX5_step_141 : decode cX5_step 141 = .ok (.iload_n 2, 1) := by decide +kernel
theorem dX5_step_142 : decode cX5_step 142 = .ok (.iconst 1, 1) := by decide +kernel
theorem dX5_step_143 : decode cX5_step 143 = .ok (.isub, 1) := by decide +kernel
theorem dX5_step_144 : decode cX5_step 144 = .ok (.invokevirtual 174, 3) := by decide +kernel
theorem dX5_step_147 : decode cX5_step 147 = .ok (.ireturn, 1) := by decide +kernel
set_option maxRecDepth 20000 in
theorem ggX5_shape_X1_read : GoodIn wsX5_shape wsX1_read := goodIn_r _ [6, 7, 8, 9, 10, 11, 5, 12, 39] (by decide +kernel) (by decide +kernel)
set_option maxRecDepth 20000 in
theorem gX5_shape_X1_read : GoodIn wsX5_shape (wsV RX5 54 RX1 yX1_read wsX1_read) := goodIn_app (goodIn_of _ (by decide +kernel)) ggX5_shape_X1_read
set_option maxRecDepth 20000 in
theorem ggX5_shape_X1_descentSet : GoodIn wsX5_shape wsX1_descentSet := goodIn_r _ [16, 8, 39] (by decide +kernel) (by decide +kernel)
set_option maxRecDepth 20000 in
theorem gX5_shape_X1_descentSet : GoodIn wsX5_shape (wsV RX5 69 RX1 yX1_descentSet wsX1_descentSet) := goodIn_app (goodIn_of _ (by decide +kernel)) ggX5_shape_X1_descentSet
set_option maxRecDepth 20000 in
theorem ggX5_shape_J6_bitCount_0f7a4 : GoodIn wsX5_shape wsJ6_bitCount_0f7a4 := goodIn_r _ [20, 21, 22, 23] (by decide +kernel) (by decide +kernel)
set_option maxRecDepth 20000 in
theorem gX5_shape_J6_bitCount_0f7a4 : GoodIn wsX5_shape (va_wsS RX5 186 yJ6_bitCount_0f7a4 wsJ6_bitCount_0f7a4) := goodIn_app (goodIn_of _ (by decide +kernel)) ggX5_shape_J6_bitCount_0f7a4
set_option maxRecDepth 20000 in
theorem ggX5_shape_X1_lastDescent : GoodIn wsX5_shape wsX1_lastDescent := goodIn_r _ [27, 8, 39] (by decide +kernel) (by decide +kernel)
set_option maxRecDepth 20000 in
theorem gX5_shape_X1_lastDescent : GoodIn wsX5_shape (wsV RX5 204 RX1 yX1_lastDescent wsX1_lastDescent) := goodIn_app (goodIn_of _ (by decide +kernel)) ggX5_shape_X1_lastDescent
set_option maxRecDepth 20000 in
theorem ggX5_shape_X1_digit : GoodIn wsX5_shape wsX1_digit := goodIn_r _ [31, 8, 39] (by decide +kernel) (by decide +kernel)
set_option maxRecDepth 20000 in
theorem gX5_shape_X1_digit : GoodIn wsX5_shape (wsV RX5 214 RX1 yX1_digit wsX1_digit) := goodIn_app (goodIn_of _ (by decide +kernel)) ggX5_shape_X1_digit
theorem dX5_shape_0 : decode cX5_shape 0 = .ok (.aload_n 0, 1) := by decide +kernel
theorem dX5_shape_1 : decode cX5_shape 1 = .ok (.getfield 12, 3) := by decide +kernel
theorem dX5_shape_4 : decode cX5_shape 4 = .ok (.iload_n 1, 1) := by decide +kernel
theorem dX5_shape_5 : decode cX5_shape 5 = .ok (.invokevirtual 54, 3) := by decide +kernel
theorem dX5_shape_8 : decode cX5_shape 8 = .ok (.ifCond .eq 8, 3) := by decide +kernel
theorem dX5_shape_11 : decode cX5_shape 11 = .ok (.iload_n 2, 1) := by decide +kernel
theorem dX5_shape_12 : decode cX5_shape 12 = .ok (.iconst 1, 1) := by decide +kernel
theorem dX5_shape_13 : decode cX5_shape 13 = .ok (.if_icmp .ge 6, 3) := by decide +kernel
theorem dX5_shape_16 : decode cX5_shape 16 = .ok (.bipush (-2), 2) := by decide +kernel
theorem dX5_shape_18 : decode cX5_shape 18 = .ok (.ireturn, 1) := by decide +kernel
theorem dX5_shape_19 : decode cX5_shape 19 = .ok (.aload_n 0, 1) := by decide +kernel
theorem dX5_shape_20 : decode cX5_shape 20 = .ok (.getfield 12, 3) := by decide +kernel
theorem dX5_shape_23 : decode cX5_shape 23 = .ok (.invokevirtual 69, 3) := by decide +kernel
theorem dX5_shape_26 : decode cX5_shape 26 = .ok (.invokestatic 186, 3) := by decide +kernel
theorem dX5_shape_29 : decode cX5_shape 29 = .ok (.iconst 1, 1) := by decide +kernel
theorem dX5_shape_30 : decode cX5_shape 30 = .ok (.if_icmp .eq 6, 3) := by decide +kernel
theorem dX5_shape_33 : decode cX5_shape 33 = .ok (.bipush (-3), 2) := by decide +kernel
theorem dX5_shape_35 : decode cX5_shape 35 = .ok (.ireturn, 1) := by decide +kernel
theorem dX5_shape_36 : decode cX5_shape 36 = .ok (.aload_n 0, 1) := by decide +kernel
theorem dX5_shape_37 : decode cX5_shape 37 = .ok (.getfield 12, 3) := by decide +kernel
theorem dX5_shape_40 : decode cX5_shape 40 = .ok (.invokevirtual 204, 3) := by decide +kernel
theorem dX5_shape_43 : decode cX5_shape 43 = .ok (.istore_n 3, 1) := by decide +kernel
theorem dX5_shape_44 : decode cX5_shape 44 = .ok (.iload_n 2, 1) := by decide +kernel
theorem dX5_shape_45 : decode cX5_shape 45 = .ok (.iload_n 3, 1) := by decide +kernel
theorem dX5_shape_46 : decode cX5_shape 46 = .ok (.if_icmp .le 6, 3) := by decide +kernel
theorem dX5_shape_49 : decode cX5_shape 49 = .ok (.bipush (-9), 2) := by decide +kernel
theorem dX5_shape_51 : decode cX5_shape 51 = .ok (.ireturn, 1) := by decide +kernel
theorem dX5_shape_52 : decode cX5_shape 52 = .ok (.iload_n 3, 1) := by decide +kernel
theorem dX5_shape_53 : decode cX5_shape 53 = .ok (.iconst 1, 1) := by decide +kernel
theorem dX5_shape_54 : decode cX5_shape 54 = .ok (.iadd, 1) := by decide +kernel
theorem dX5_shape_55 : decode cX5_shape 55 = .ok (.iload_n 2, 1) := by decide +kernel
theorem dX5_shape_56 : decode cX5_shape 56 = .ok (.isub, 1) := by decide +kernel
theorem dX5_shape_57 : decode cX5_shape 57 = .ok (.istore 4, 2) := by decide +kernel
theorem dX5_shape_59 : decode cX5_shape 59 = .ok (.aload_n 0, 1) := by decide +kernel
theorem dX5_shape_60 : decode cX5_shape 60 = .ok (.getfield 12, 3) := by decide +kernel
theorem dX5_shape_63 : decode cX5_shape 63 = .ok (.iload 4, 2) := by decide +kernel
theorem dX5_shape_65 : decode cX5_shape 65 = .ok (.invokevirtual 214, 3) := by decide +kernel
theorem dX5_shape_68 : decode cX5_shape 68 = .ok (.iload 4, 2) := by decide +kernel
theorem dX5_shape_70 : decode cX5_shape 70 = .ok (.isub, 1) := by decide +kernel
theorem dX5_shape_71 : decode cX5_shape 71 = .ok (.ireturn, 1) := by decide +kernel
set_option maxRecDepth 20000 in
theorem ggX5_avoids_X1_read : GoodIn wsX5_avoids wsX1_read := goodIn_r _ [6, 7, 8, 9, 10, 11, 5, 12, 47] (by decide +kernel) (by decide +kernel)
set_option maxRecDepth 20000 in
theorem gX5_avoids_X1_read : GoodIn wsX5_avoids (wsV RX5 54 RX1 yX1_read wsX1_read) := goodIn_app (goodIn_of _ (by decide +kernel)) ggX5_avoids_X1_read
set_option maxRecDepth 20000 in
theorem ggX5_avoids_X1_hasLeastGreatestMiddle : GoodIn wsX5_avoids wsX1_hasLeastGreatestMiddle := goodIn_r _ [16, 8, 17, 18, 19, 5, 20, 21, 22, 23, 24, 25, 26, 27, 28, 47] (by decide +kernel) (by decide +kernel)
set_option maxRecDepth 20000 in
theorem gX5_avoids_X1_hasLeastGreatestMiddle : GoodIn wsX5_avoids (wsV RX5 217 RX1 yX1_hasLeastGreatestMiddle wsX1_hasLeastGreatestMiddle) := goodIn_app (goodIn_of _ (by decide +kernel)) ggX5_avoids_X1_hasLeastGreatestMiddle
set_option maxRecDepth 20000 in
theorem ggX5_avoids_X1_hasTwoOneFourThree : GoodIn wsX5_avoids wsX1_hasTwoOneFourThree := goodIn_r _ [32, 8, 33, 34, 35, 5, 36, 37, 38, 23, 39, 25, 26, 27, 28, 47] (by decide +kernel) (by decide +kernel)
set_option maxRecDepth 20000 in
theorem gX5_avoids_X1_hasTwoOneFourThree : GoodIn wsX5_avoids (wsV RX5 220 RX1 yX1_hasTwoOneFourThree wsX1_hasTwoOneFourThree) := goodIn_app (goodIn_of _ (by decide +kernel)) ggX5_avoids_X1_hasTwoOneFourThree
theorem dX5_avoids_0 : decode cX5_avoids 0 = .ok (.aload_n 0, 1) := by decide +kernel
theorem dX5_avoids_1 : decode cX5_avoids 1 = .ok (.getfield 12, 3) := by decide +kernel
theorem dX5_avoids_4 : decode cX5_avoids 4 = .ok (.iload_n 1, 1) := by decide +kernel
theorem dX5_avoids_5 : decode cX5_avoids 5 = .ok (.invokevirtual 54, 3) := by decide +kernel
theorem dX5_avoids_8 : decode cX5_avoids 8 = .ok (.ifCond .eq 13, 3) := by decide +kernel
theorem dX5_avoids_11 : decode cX5_avoids 11 = .ok (.iload_n 2, 1) := by decide +kernel
theorem dX5_avoids_12 : decode cX5_avoids 12 = .ok (.iconst 1, 1) := by decide +kernel
theorem dX5_avoids_13 : decode cX5_avoids 13 = .ok (.if_icmp .lt 8, 3) := by decide +kernel
theorem dX5_avoids_16 : decode cX5_avoids 16 = .ok (.iload_n 2, 1) := by decide +kernel
theorem dX5_avoids_17 : decode cX5_avoids 17 = .ok (.iconst 2, 1) := by decide +kernel
theorem dX5_avoids_18 : decode cX5_avoids 18 = .ok (.if_icmp .le 6, 3) := by decide +kernel
theorem dX5_avoids_21 : decode cX5_avoids 21 = .ok (.bipush (-2), 2) := by decide +kernel
theorem dX5_avoids_23 : decode cX5_avoids 23 = .ok (.ireturn, 1) := by decide +kernel
theorem dX5_avoids_24 : decode cX5_avoids 24 = .ok (.iload_n 2, 1) := by decide +kernel
theorem dX5_avoids_25 : decode cX5_avoids 25 = .ok (.iconst 1, 1) := by decide +kernel
theorem dX5_avoids_26 : decode cX5_avoids 26 = .ok (.if_icmp .ne 13, 3) := by decide +kernel
theorem dX5_avoids_29 : decode cX5_avoids 29 = .ok (.aload_n 0, 1) := by decide +kernel
theorem dX5_avoids_30 : decode cX5_avoids 30 = .ok (.getfield 12, 3) := by decide +kernel
theorem dX5_avoids_33 : decode cX5_avoids 33 = .ok (.invokevirtual 217, 3) := by decide +kernel
theorem dX5_avoids_36 : decode cX5_avoids 36 = .ok (.goto 10, 3) := by decide +kernel
theorem dX5_avoids_39 : decode cX5_avoids 39 = .ok (.aload_n 0, 1) := by decide +kernel
theorem dX5_avoids_40 : decode cX5_avoids 40 = .ok (.getfield 12, 3) := by decide +kernel
theorem dX5_avoids_43 : decode cX5_avoids 43 = .ok (.invokevirtual 220, 3) := by decide +kernel
theorem dX5_avoids_46 : decode cX5_avoids 46 = .ok (.istore_n 3, 1) := by decide +kernel
theorem dX5_avoids_47 : decode cX5_avoids 47 = .ok (.iload_n 3, 1) := by decide +kernel
theorem dX5_avoids_48 : decode cX5_avoids 48 = .ok (.ifCond .eq 7, 3) := by decide +kernel
theorem dX5_avoids_51 : decode cX5_avoids 51 = .ok (.iconst 0, 1) := by decide +kernel
theorem dX5_avoids_52 : decode cX5_avoids 52 = .ok (.goto 4, 3) := by decide +kernel
theorem dX5_avoids_55 : decode cX5_avoids 55 = .ok (.iconst 1, 1) := by decide +kernel
theorem dX5_avoids_56 : decode cX5_avoids 56 = .ok (.ireturn, 1) := by decide +kernel
set_option maxRecDepth 20000 in
theorem ggX5_cellOf_X5_isAnyNegative : GoodIn wsX5_cellOf wsX5_isAnyNegative := goodIn_r _ [4] (by decide +kernel) (by decide +kernel)
set_option maxRecDepth 20000 in
theorem gX5_cellOf_X5_isAnyNegative : GoodIn wsX5_cellOf (va_wsS RX5 102 yX5_isAnyNegative wsX5_isAnyNegative) := goodIn_app (goodIn_of _ (by decide +kernel)) ggX5_cellOf_X5_isAnyNegative
theorem dX5_cellOf_0 : decode cX5_cellOf 0 = .ok (.iload_n 0, 1) := by decide +kernel
theorem dX5_cellOf_1 : decode cX5_cellOf 1 = .ok (.iload_n 1, 1) := by decide +kernel
theorem dX5_cellOf_2 : decode cX5_cellOf 2 = .ok (.iload_n 2, 1) := by decide +kernel
theorem dX5_cellOf_3 : decode cX5_cellOf 3 = .ok (.iload_n 3, 1) := by decide +kernel
theorem dX5_cellOf_4 : decode cX5_cellOf 4 = .ok (.invokestatic 102, 3) := by decide +kernel
theorem dX5_cellOf_7 : decode cX5_cellOf 7 = .ok (.ifCond .ne 26, 3) := by decide +kernel
theorem dX5_cellOf_10 : decode cX5_cellOf 10 = .ok (.iload_n 0, 1) := by decide +kernel
theorem dX5_cellOf_11 : decode cX5_cellOf 11 = .ok (.bipush 8, 2) := by decide +kernel
theorem dX5_cellOf_13 : decode cX5_cellOf 13 = .ok (.if_icmp .gt 20, 3) := by decide +kernel
theorem dX5_cellOf_16 : decode cX5_cellOf 16 = .ok (.iload_n 1, 1) := by decide +kernel
theorem dX5_cellOf_17 : decode cX5_cellOf 17 = .ok (.bipush 7, 2) := by decide +kernel
theorem dX5_cellOf_19 : decode cX5_cellOf 19 = .ok (.if_icmp .gt 14, 3) := by decide +kernel
theorem dX5_cellOf_22 : decode cX5_cellOf 22 = .ok (.iload_n 2, 1) := by decide +kernel
theorem dX5_cellOf_23 : decode cX5_cellOf 23 = .ok (.bipush 6, 2) := by decide +kernel
theorem dX5_cellOf_25 : decode cX5_cellOf 25 = .ok (.if_icmp .gt 8, 3) := by decide +kernel
theorem dX5_cellOf_28 : decode cX5_cellOf 28 = .ok (.iload_n 3, 1) := by decide +kernel
theorem dX5_cellOf_29 : decode cX5_cellOf 29 = .ok (.iconst 5, 1) := by decide +kernel
theorem dX5_cellOf_30 : decode cX5_cellOf 30 = .ok (.if_icmp .le 5, 3) := by decide +kernel
theorem dX5_cellOf_33 : decode cX5_cellOf 33 = .ok (.iconst (-1), 1) := by decide +kernel
theorem dX5_cellOf_34 : decode cX5_cellOf 34 = .ok (.ireturn, 1) := by decide +kernel
theorem dX5_cellOf_35 : decode cX5_cellOf 35 = .ok (.iload_n 0, 1) := by decide +kernel
theorem dX5_cellOf_36 : decode cX5_cellOf 36 = .ok (.bipush 9, 2) := by decide +kernel
theorem dX5_cellOf_38 : decode cX5_cellOf 38 = .ok (.iload_n 1, 1) := by decide +kernel
theorem dX5_cellOf_39 : decode cX5_cellOf 39 = .ok (.imul, 1) := by decide +kernel
theorem dX5_cellOf_40 : decode cX5_cellOf 40 = .ok (.iadd, 1) := by decide +kernel
theorem dX5_cellOf_41 : decode cX5_cellOf 41 = .ok (.bipush 72, 2) := by decide +kernel
theorem dX5_cellOf_43 : decode cX5_cellOf 43 = .ok (.iload_n 2, 1) := by decide +kernel
theorem dX5_cellOf_44 : decode cX5_cellOf 44 = .ok (.imul, 1) := by decide +kernel
theorem dX5_cellOf_45 : decode cX5_cellOf 45 = .ok (.iadd, 1) := by decide +kernel
theorem dX5_cellOf_46 : decode cX5_cellOf 46 = .ok (.sipush 504, 3) := by decide +kernel
theorem dX5_cellOf_49 : decode cX5_cellOf 49 = .ok (.iload_n 3, 1) := by decide +kernel
theorem dX5_cellOf_50 : decode cX5_cellOf 50 = .ok (.imul, 1) := by decide +kernel
theorem dX5_cellOf_51 : decode cX5_cellOf 51 = .ok (.iadd, 1) := by decide +kernel
theorem dX5_cellOf_52 : decode cX5_cellOf 52 = .ok (.ireturn, 1) := by decide +kernel
theorem dX5_exponentAt_0 : decode cX5_exponentAt 0 = .ok (.iload_n 1, 1) := by decide +kernel
theorem dX5_exponentAt_1 : decode cX5_exponentAt 1 = .ok (.tableswitch 58 1 4 #[31, 36, 44, 52], 31) := by decide +kernel
theorem dX5_exponentAt_32 : decode cX5_exponentAt 32 = .ok (.iload_n 0, 1) := by decide +kernel
theorem dX5_exponentAt_33 : decode cX5_exponentAt 33 = .ok (.bipush 9, 2) := by decide +kernel
theorem dX5_exponentAt_35 : decode cX5_exponentAt 35 = .ok (.irem, 1) := by decide +kernel
theorem dX5_exponentAt_36 : decode cX5_exponentAt 36 = .ok (.ireturn, 1) := by decide +kernel
theorem dX5_exponentAt_37 : decode cX5_exponentAt 37 = .ok (.iload_n 0, 1) := by decide +kernel
theorem dX5_exponentAt_38 : decode cX5_exponentAt 38 = .ok (.bipush 9, 2) := by decide +kernel
theorem dX5_exponentAt_40 : decode cX5_exponentAt 40 = .ok (.idiv, 1) := by decide +kernel
theorem dX5_exponentAt_41 : decode cX5_exponentAt 41 = .ok (.bipush 8, 2) := by decide +kernel
theorem dX5_exponentAt_43 : decode cX5_exponentAt 43 = .ok (.irem, 1) := by decide +kernel
theorem dX5_exponentAt_44 : decode cX5_exponentAt 44 = .ok (.ireturn, 1) := by decide +kernel
theorem dX5_exponentAt_45 : decode cX5_exponentAt 45 = .ok (.iload_n 0, 1) := by decide +kernel
theorem dX5_exponentAt_46 : decode cX5_exponentAt 46 = .ok (.bipush 72, 2) := by decide +kernel
theorem dX5_exponentAt_48 : decode cX5_exponentAt 48 = .ok (.idiv, 1) := by decide +kernel
theorem dX5_exponentAt_49 : decode cX5_exponentAt 49 = .ok (.bipush 7, 2) := by decide +kernel
theorem dX5_exponentAt_51 : decode cX5_exponentAt 51 = .ok (.irem, 1) := by decide +kernel
theorem dX5_exponentAt_52 : decode cX5_exponentAt 52 = .ok (.ireturn, 1) := by decide +kernel
theorem dX5_exponentAt_53 : decode cX5_exponentAt 53 = .ok (.iload_n 0, 1) := by decide +kernel
theorem dX5_exponentAt_54 : decode cX5_exponentAt 54 = .ok (.sipush 504, 3) := by decide +kernel
theorem dX5_exponentAt_57 : decode cX5_exponentAt 57 = .ok (.idiv, 1) := by decide +kernel
theorem dX5_exponentAt_58 : decode cX5_exponentAt 58 = .ok (.ireturn, 1) := by decide +kernel
theorem dX5_exponentAt_59 : decode cX5_exponentAt 59 = .ok (.iconst 0, 1) := by decide +kernel
theorem dX5_exponentAt_60 : decode cX5_exponentAt 60 = .ok (.ireturn, 1) := by decide +kernel
theorem dX5_isAnyNegative_0 : decode cX5_isAnyNegative 0 = .ok (.iload_n 0, 1) := by decide +kernel
theorem dX5_isAnyNegative_1 : decode cX5_isAnyNegative 1 = .ok (.ifCond .lt 15, 3) := by decide +kernel
theorem dX5_isAnyNegative_4 : decode cX5_isAnyNegative 4 = .ok (.iload_n 1, 1) := by decide +kernel
theorem dX5_isAnyNegative_5 : decode cX5_isAnyNegative 5 = .ok (.ifCond .lt 11, 3) := by decide +kernel
theorem dX5_isAnyNegative_8 : decode cX5_isAnyNegative 8 = .ok (.iload_n 2, 1) := by decide +kernel
theorem dX5_isAnyNegative_9 : decode cX5_isAnyNegative 9 = .ok (.ifCond .lt 7, 3) := by decide +kernel
theorem dX5_isAnyNegative_12 : decode cX5_isAnyNegative 12 = .ok (.iload_n 3, 1) := by decide +kernel
theorem dX5_isAnyNegative_13 : decode cX5_isAnyNegative 13 = .ok (.ifCond .ge 7, 3) := by decide +kernel
theorem dX5_isAnyNegative_16 : decode cX5_isAnyNegative 16 = .ok (.iconst 1, 1) := by decide +kernel
theorem dX5_isAnyNegative_17 : decode cX5_isAnyNegative 17 = .ok (.goto 4, 3) := by decide +kernel
theorem dX5_isAnyNegative_20 : decode cX5_isAnyNegative 20 = .ok (.iconst 0, 1) := by decide +kernel
theorem dX5_isAnyNegative_21 : decode cX5_isAnyNegative 21 = .ok (.ireturn, 1) := by decide +kernel
theorem dX5_isPoint_0 : decode cX5_isPoint 0 = .ok (.iload_n 0, 1) := by decide +kernel
theorem dX5_isPoint_1 : decode cX5_isPoint 1 = .ok (.bipush (-3), 2) := by decide +kernel
theorem dX5_isPoint_3 : decode cX5_isPoint 3 = .ok (.if_icmp .lt 12, 3) := by decide +kernel
theorem dX5_isPoint_6 : decode cX5_isPoint 6 = .ok (.iload_n 0, 1) := by decide +kernel
theorem dX5_isPoint_7 : decode cX5_isPoint 7 = .ok (.iconst 3, 1) := by decide +kernel
theorem dX5_isPoint_8 : decode cX5_isPoint 8 = .ok (.if_icmp .gt 7, 3) := by decide +kernel
theorem dX5_isPoint_11 : decode cX5_isPoint 11 = .ok (.iconst 1, 1) := by decide +kernel
theorem dX5_isPoint_12 : decode cX5_isPoint 12 = .ok (.goto 4, 3) := by decide +kernel
theorem dX5_isPoint_15 : decode cX5_isPoint 15 = .ok (.iconst 0, 1) := by decide +kernel
theorem dX5_isPoint_16 : decode cX5_isPoint 16 = .ok (.ireturn, 1) := by decide +kernel
theorem dX5_isCrossSet_0 : decode cX5_isCrossSet 0 = .ok (.iload_n 0, 1) := by decide +kernel
theorem dX5_isCrossSet_1 : decode cX5_isCrossSet 1 = .ok (.ifCond .lt 14, 3) := by decide +kernel
theorem dX5_isCrossSet_4 : decode cX5_isCrossSet 4 = .ok (.iload_n 0, 1) := by decide +kernel
theorem dX5_isCrossSet_5 : decode cX5_isCrossSet 5 = .ok (.sipush 1024, 3) := by decide +kernel
theorem dX5_isCrossSet_8 : decode cX5_isCrossSet 8 = .ok (.if_icmp .ge 7, 3) := by decide +kernel
theorem dX5_isCrossSet_11 : decode cX5_isCrossSet 11 = .ok (.iconst 1, 1) := by decide +kernel
theorem dX5_isCrossSet_12 : decode cX5_isCrossSet 12 = .ok (.goto 4, 3) := by decide +kernel
theorem dX5_isCrossSet_15 : decode cX5_isCrossSet 15 = .ok (.iconst 0, 1) := by decide +kernel
theorem dX5_isCrossSet_16 : decode cX5_isCrossSet 16 = .ok (.ireturn, 1) := by decide +kernel
set_option maxRecDepth 20000 in
theorem ggX5_fitCell_X1_read : GoodIn wsX5_fitCell wsX1_read := goodIn_r _ [6, 7, 8, 9, 10, 11, 5, 12, 46] (by decide +kernel) (by decide +kernel)
set_option maxRecDepth 20000 in
theorem gX5_fitCell_X1_read : GoodIn wsX5_fitCell (wsV RX5 54 RX1 yX1_read wsX1_read) := goodIn_app (goodIn_of _ (by decide +kernel)) ggX5_fitCell_X1_read
set_option maxRecDepth 20000 in
theorem ggX5_fitCell_X1_isFit : GoodIn wsX5_fitCell wsX1_isFit := goodIn_r _ [16, 17, 18, 19, 5, 20, 8, 46] (by decide +kernel) (by decide +kernel)
set_option maxRecDepth 20000 in
theorem gX5_fitCell_X1_isFit : GoodIn wsX5_fitCell (wsV RX5 223 RX1 yX1_isFit wsX1_isFit) := goodIn_app (goodIn_of _ (by decide +kernel)) ggX5_fitCell_X1_isFit
set_option maxRecDepth 20000 in
theorem ggX5_fitCell_X1_codeCell : GoodIn wsX5_fitCell wsX1_codeCell := goodIn_r _ [24, 25, 26, 27, 5, 28, 29, 30, 31, 32, 8, 33, 34, 35, 36, 37, 38, 46] (by decide +kernel) (by decide +kernel)
set_option maxRecDepth 20000 in
theorem gX5_fitCell_X1_codeCell : GoodIn wsX5_fitCell (wsV RX5 226 RX1 yX1_codeCell wsX1_codeCell) := goodIn_app (goodIn_of _ (by decide +kernel)) ggX5_fitCell_X1_codeCell
theorem dX5_fitCell_0 : decode cX5_fitCell 0 = .ok (.aload_n 0, 1) := by decide +kernel
theorem dX5_fitCell_1 : decode cX5_fitCell 1 = .ok (.getfield 12, 3) := by decide +kernel
theorem dX5_fitCell_4 : decode cX5_fitCell 4 = .ok (.iload_n 1, 1) := by decide +kernel
theorem dX5_fitCell_5 : decode cX5_fitCell 5 = .ok (.invokevirtual 54, 3) := by decide +kernel
theorem dX5_fitCell_8 : decode cX5_fitCell 8 = .ok (.ifCond .ne 6, 3) := by decide +kernel
theorem dX5_fitCell_11 : decode cX5_fitCell 11 = .ok (.bipush (-2), 2) := by decide +kernel
theorem dX5_fitCell_13 : decode cX5_fitCell 13 = .ok (.ireturn, 1) := by decide +kernel
theorem dX5_fitCell_14 : decode cX5_fitCell 14 = .ok (.aload_n 0, 1) := by decide +kernel
theorem dX5_fitCell_15 : decode cX5_fitCell 15 = .ok (.getfield 12, 3) := by decide +kernel
theorem dX5_fitCell_18 : decode cX5_fitCell 18 = .ok (.invokevirtual 223, 3) := by decide +kernel
theorem dX5_fitCell_21 : decode cX5_fitCell 21 = .ok (.ifCond .eq 13, 3) := by decide +kernel
theorem dX5_fitCell_24 : decode cX5_fitCell 24 = .ok (.aload_n 0, 1) := by decide +kernel
theorem dX5_fitCell_25 : decode cX5_fitCell 25 = .ok (.getfield 12, 3) := by decide +kernel
theorem dX5_fitCell_28 : decode cX5_fitCell 28 = .ok (.invokevirtual 226, 3) := by decide +kernel
theorem dX5_fitCell_31 : decode cX5_fitCell 31 = .ok (.goto 5, 3) := by decide +kernel
theorem dX5_fitCell_34 : decode cX5_fitCell 34 = .ok (.bipush (-3), 2) := by decide +kernel
theorem dX5_fitCell_36 : decode cX5_fitCell 36 = .ok (.ireturn, 1) := by decide +kernel
set_option maxRecDepth 20000 in
theorem ggX5_takeDraft_X2_isWithinLimit : GoodIn wsX5_takeDraft wsX2_isWithinLimit := goodIn_r _ [6, 7, 8, 9, 29, 30] (by decide +kernel) (by decide +kernel)
set_option maxRecDepth 20000 in
theorem gX5_takeDraft_X2_isWithinLimit : GoodIn wsX5_takeDraft (wsV RX5 229 RX2 yX2_isWithinLimit wsX2_isWithinLimit) := goodIn_app (goodIn_of _ (by decide +kernel)) ggX5_takeDraft_X2_isWithinLimit
set_option maxRecDepth 20000 in
theorem ggX5_takeDraft_X2_copy : GoodIn wsX5_takeDraft wsX2_copy := goodIn_r _ [13, 7, 14, 15, 16, 17, 29, 30] (by decide +kernel) (by decide +kernel)
set_option maxRecDepth 20000 in
theorem gX5_takeDraft_X2_copy : GoodIn wsX5_takeDraft (wsV RX5 138 RX2 yX2_copy wsX2_copy) := goodIn_app (goodIn_of _ (by decide +kernel)) ggX5_takeDraft_X2_copy
set_option maxRecDepth 20000 in
theorem ggX5_takeDraft_X2_filled : GoodIn wsX5_takeDraft wsX2_filled := goodIn_r _ [21, 7, 29, 30] (by decide +kernel) (by decide +kernel)
set_option maxRecDepth 20000 in
theorem gX5_takeDraft_X2_filled : GoodIn wsX5_takeDraft (wsV RX5 116 RX2 yX2_filled wsX2_filled) := goodIn_app (goodIn_of _ (by decide +kernel)) ggX5_takeDraft_X2_filled
theorem dX5_takeDraft_0 : decode cX5_takeDraft 0 = .ok (.aload_n 1, 1) := by decide +kernel
theorem dX5_takeDraft_1 : decode cX5_takeDraft 1 = .ok (.invokevirtual 229, 3) := by decide +kernel
theorem dX5_takeDraft_4 : decode cX5_takeDraft 4 = .ok (.ifCond .ne 6, 3) := by decide +kernel
theorem dX5_takeDraft_7 : decode cX5_takeDraft 7 = .ok (.bipush (-5), 2) := by decide +kernel
theorem dX5_takeDraft_9 : decode cX5_takeDraft 9 = .ok (.ireturn, 1) := by decide +kernel
theorem dX5_takeDraft_10 : decode cX5_takeDraft 10 = .ok (.aload_n 0, 1) := by decide +kernel
theorem dX5_takeDraft_11 : decode cX5_takeDraft 11 = .ok (.getfield 36, 3) := by decide +kernel
theorem dX5_takeDraft_14 : decode cX5_takeDraft 14 = .ok (.aload_n 1, 1) := by decide +kernel
theorem dX5_takeDraft_15 : decode cX5_takeDraft 15 = .ok (.invokevirtual 138, 3) := by decide +kernel
theorem dX5_takeDraft_18 : decode cX5_takeDraft 18 = .ok (.aload_n 0, 1) := by decide +kernel
theorem dX5_takeDraft_19 : decode cX5_takeDraft 19 = .ok (.getfield 36, 3) := by decide +kernel
theorem dX5_takeDraft_22 : decode cX5_takeDraft 22 = .ok (.invokevirtual 116, 3) := by decide +kernel
theorem dX5_takeDraft_25 : decode cX5_takeDraft 25 = .ok (.ireturn, 1) := by decide +kernel
set_option maxRecDepth 20000 in
theorem ggX5_waysDown_X1_digit : GoodIn wsX5_waysDown wsX1_digit := goodIn_r _ [5, 6, 19] (by decide +kernel) (by decide +kernel)
set_option maxRecDepth 20000 in
theorem gX5_waysDown_X1_digit : GoodIn wsX5_waysDown (wsV RX5 214 RX1 yX1_digit wsX1_digit) := goodIn_app (goodIn_of _ (by decide +kernel)) ggX5_waysDown_X1_digit
set_option maxRecDepth 20000 in
theorem ggX5_waysDown_X1_exchange : GoodIn wsX5_waysDown wsX1_exchange := goodIn_r _ [10, 11, 2, 3, 4, 5, 6, 12, 13, 14, 15, 19] (by decide +kernel) (by decide +kernel)
set_option maxRecDepth 20000 in
theorem gX5_waysDown_X1_exchange : GoodIn wsX5_waysDown (wsV RX5 210 RX1 yX1_exchange wsX1_exchange) := goodIn_app (goodIn_of _ (by decide +kernel)) ggX5_waysDown_X1_exchange
set_option maxRecDepth 20000 in
theorem ggX5_waysDown_X5_waysDown : GoodIn wsX5_waysDown wsX5_waysDown := goodIn_r _ [0, 1, 2, 3, 4, 5, 6, 7, 8, 9, 10, 11, 12, 13, 14, 15, 16, 17, 18, 19] (by decide +kernel) (by decide +kernel)
set_option maxRecDepth 20000 in
theorem gX5_waysDown_X5_waysDown : GoodIn wsX5_waysDown (va_wsS RX5 95 yX5_waysDown wsX5_waysDown) := goodIn_app (goodIn_of _ (by decide +kernel)) ggX5_waysDown_X5_waysDown
theorem dX5_waysDown_0 : decode cX5_waysDown 0 = .ok (.iload_n 1, 1) := by decide +kernel
theorem dX5_waysDown_1 : decode cX5_waysDown 1 = .ok (.bipush 10, 2) := by decide +kernel
theorem dX5_waysDown_3 : decode cX5_waysDown 3 = .ok (.if_icmp .le 5, 3) := by decide +kernel
theorem dX5_waysDown_6 : decode cX5_waysDown 6 = .ok (.iconst 0, 1) := by decide +kernel
theorem dX5_waysDown_7 : decode cX5_waysDown 7 = .ok (.ireturn, 1) := by decide +kernel
theorem dX5_waysDown_8 : decode cX5_waysDown 8 = .ok (.iconst 0, 1) := by decide +kernel
theorem dX5_waysDown_9 : decode cX5_waysDown 9 = .ok (.istore_n 2, 1) := by decide +kernel
theorem dX5_waysDown_10 : decode cX5_waysDown 10 = .ok (.iconst 1, 1) := by decide +kernel
theorem dX5_waysDown_11 : decode cX5_waysDown 11 = .ok (.istore_n 3, 1) := by decide +kernel
theorem dX5_waysDown_12 : decode cX5_waysDown 12 = .ok (.iconst 1, 1) := by decide +kernel
theorem dX5_waysDown_13 : decode cX5_waysDown 13 = .ok (.istore 4, 2) := by decide +kernel
theorem dX5_waysDown_15 : decode cX5_waysDown 15 = .ok (.iload 4, 2) := by decide +kernel
theorem dX5_waysDown_17 : decode cX5_waysDown 17 = .ok (.iconst 5, 1) := by decide +kernel
theorem dX5_waysDown_18 : decode cX5_waysDown 18 = .ok (.if_icmp .ge 58, 3) := by decide +kernel
theorem dX5_waysDown_21 : decode cX5_waysDown 21 = .ok (.aload_n 0, 1) := by decide +kernel
theorem dX5_waysDown_22 : decode cX5_waysDown 22 = .ok (.iload 4, 2) := by decide +kernel
theorem dX5_waysDown_24 : decode cX5_waysDown 24 = .ok (.invokevirtual 214, 3) := by decide +kernel
theorem dX5_waysDown_27 : decode cX5_waysDown 27 = .ok (.aload_n 0, 1) := by decide +kernel
theorem dX5_waysDown_28 : decode cX5_waysDown 28 = .ok (.iload 4, 2) := by decide +kernel
theorem dX5_waysDown_30 : decode cX5_waysDown 30 = .ok (.iconst 1, 1) := by decide +kernel
theorem dX5_waysDown_31 : decode cX5_waysDown 31 = .ok (.iadd, 1) := by decide +kernel
theorem dX5_waysDown_32 : decode cX5_waysDown 32 = .ok (.invokevirtual 214, 3) := by decide +kernel
theorem dX5_waysDown_35 : decode cX5_waysDown 35 = .ok (.if_icmp .le 35, 3) := by decide +kernel
theorem dX5_waysDown_38 : decode cX5_waysDown 38 = .ok (.iconst 0, 1) := by decide +kernel
theorem dX5_waysDown_39 : decode cX5_waysDown 39 = .ok (.istore_n 3, 1) := by decide +kernel
theorem dX5_waysDown_40 : decode cX5_waysDown 40 = .ok (.aload_n 0, 1) := by decide +kernel
theorem dX5_waysDown_41 : decode cX5_waysDown 41 = .ok (.iload 4, 2) := by decide +kernel
theorem dX5_waysDown_43 : decode cX5_waysDown 43 = .ok (.iload 4, 2) := by decide +kernel
theorem dX5_waysDown_45 : decode cX5_waysDown 45 = .ok (.iconst 1, 1) := by decide +kernel
theorem dX5_waysDown_46 : decode cX5_waysDown 46 = .ok (.iadd, 1) := by decide +kernel
theorem dX5_waysDown_47 : decode cX5_waysDown 47 = .ok (.invokevirtual 210, 3) := by decide +kernel
theorem dX5_waysDown_50 : decode cX5_waysDown 50 = .ok (.iload_n 2, 1) := by decide +kernel
theorem dX5_waysDown_51 : decode cX5_waysDown 51 = .ok (.aload_n 0, 1) := by decide +kernel
theorem dX5_waysDown_52 : decode cX5_waysDown 52 = .ok (.iload_n 1, 1) := by decide +kernel
theorem dX5_waysDown_53 : decode cX5_waysDown 53 = .ok (.iconst 1, 1) := by decide +kernel
theorem dX5_waysDown_54 : decode cX5_waysDown 54 = .ok (.iadd, 1) := by decide +kernel
theorem dX5_waysDown_55 : decode cX5_waysDown 55 = .ok (.invokestatic 95, 3) := by decide +kernel
theorem dX5_waysDown_58 : decode cX5_waysDown 58 = .ok (.iadd, 1) := by decide +kernel
theorem dX5_waysDown_59 : decode cX5_waysDown 59 = .ok (.istore_n 2, 1) := by decide +kernel
theorem dX5_waysDown_60 : decode cX5_waysDown 60 = .ok (.aload_n 0, 1) := by decide +kernel
theorem dX5_waysDown_61 : decode cX5_waysDown 61 = .ok (.iload 4, 2) := by decide +kernel
theorem dX5_waysDown_63 : decode cX5_waysDown 63 = .ok (.iload 4, 2) := by decide +kernel
theorem dX5_waysDown_65 : decode cX5_waysDown 65 = .ok (.iconst 1, 1) := by decide +kernel
theorem dX5_waysDown_66 : decode cX5_waysDown 66 = .ok (.iadd, 1) := by decide +kernel
theorem dX5_waysDown_67 : decode cX5_waysDown 67 = .ok (.invokevirtual 210, 3) := by decide +kernel
theorem dX5_waysDown_70 : decode cX5_waysDown 70 = .ok (.iinc 4 1, 3) := by decide +kernel
theorem dX5_waysDown_73 : decode cX5_waysDown 73 = .ok (.goto (-58), 3) := by decide +kernel
theorem dX5_waysDown_76 : decode cX5_waysDown 76 = .ok (.iload_n 3, 1) := by decide +kernel
theorem dX5_waysDown_77 : decode cX5_waysDown 77 = .ok (.ifCond .eq 7, 3) := by decide +kernel
theorem dX5_waysDown_80 : decode cX5_waysDown 80 = .ok (.iconst 1, 1) := by decide +kernel
theorem dX5_waysDown_81 : decode cX5_waysDown 81 = .ok (.goto 4, 3) := by decide +kernel
theorem dX5_waysDown_84 : decode cX5_waysDown 84 = .ok (.iload_n 2, 1) := by decide +kernel
theorem dX5_waysDown_85 : decode cX5_waysDown 85 = .ok (.ireturn, 1) := by decide +kernel
set_option maxRecDepth 20000 in
theorem ggX5_isMadeBy_X1_becomeMade : GoodIn wsX5_isMadeBy wsX1_becomeMade := goodIn_r _ [6, 7, 8, 9, 5, 10, 11, 12, 13, 14, 15, 16, 17, 18, 19, 20, 21, 22, 23, 35] (by decide +kernel) (by decide +kernel)
set_option maxRecDepth 20000 in
theorem gX5_isMadeBy_X1_becomeMade : GoodIn wsX5_isMadeBy (wsV RX5 183 RX1 yX1_becomeMade wsX1_becomeMade) := goodIn_app (goodIn_of _ (by decide +kernel)) ggX5_isMadeBy_X1_becomeMade
set_option maxRecDepth 20000 in
theorem ggX5_isMadeBy_X1_isSame : GoodIn wsX5_isMadeBy wsX1_isSame := goodIn_r _ [27, 11, 35] (by decide +kernel) (by decide +kernel)
set_option maxRecDepth 20000 in
theorem gX5_isMadeBy_X1_isSame : GoodIn wsX5_isMadeBy (wsV RX5 232 RX1 yX1_isSame wsX1_isSame) := goodIn_app (goodIn_of _ (by decide +kernel)) ggX5_isMadeBy_X1_isSame
theorem dX5_isMadeBy_0 : decode cX5_isMadeBy 0 = .ok (.aload_n 0, 1) := by decide +kernel
theorem dX5_isMadeBy_1 : decode cX5_isMadeBy 1 = .ok (.getfield 18, 3) := by decide +kernel
theorem dX5_isMadeBy_4 : decode cX5_isMadeBy 4 = .ok (.iload_n 2, 1) := by decide +kernel
theorem dX5_isMadeBy_5 : decode cX5_isMadeBy 5 = .ok (.invokevirtual 183, 3) := by decide +kernel
theorem dX5_isMadeBy_8 : decode cX5_isMadeBy 8 = .ok (.aload_n 0, 1) := by decide +kernel
theorem dX5_isMadeBy_9 : decode cX5_isMadeBy 9 = .ok (.getfield 18, 3) := by decide +kernel
theorem dX5_isMadeBy_12 : decode cX5_isMadeBy 12 = .ok (.aload_n 1, 1) := by decide +kernel
theorem dX5_isMadeBy_13 : decode cX5_isMadeBy 13 = .ok (.invokevirtual 232, 3) := by decide +kernel
theorem dX5_isMadeBy_16 : decode cX5_isMadeBy 16 = .ok (.ireturn, 1) := by decide +kernel
set_option maxRecDepth 20000 in
theorem ggX5_isCrossAt_X5_bitOf : GoodIn wsX5_isCrossAt wsX5_bitOf := goodIn_r _ [4, 5] (by decide +kernel) (by decide +kernel)
set_option maxRecDepth 20000 in
theorem gX5_isCrossAt_X5_bitOf : GoodIn wsX5_isCrossAt (va_wsS RX5 235 yX5_bitOf wsX5_bitOf) := goodIn_app (goodIn_of _ (by decide +kernel)) ggX5_isCrossAt_X5_bitOf
theorem dX5_isCrossAt_0 : decode cX5_isCrossAt 0 = .ok (.iload_n 1, 1) := by decide +kernel
theorem dX5_isCrossAt_1 : decode cX5_isCrossAt 1 = .ok (.iconst 1, 1) := by decide +kernel
theorem dX5_isCrossAt_2 : decode cX5_isCrossAt 2 = .ok (.if_icmp .lt 20, 3) := by decide +kernel
theorem dX5_isCrossAt_5 : decode cX5_isCrossAt 5 = .ok (.iload_n 1, 1) := by decide +kernel
theorem dX5_isCrossAt_6 : decode cX5_isCrossAt 6 = .ok (.iconst 4, 1) := by decide +kernel
theorem dX5_isCrossAt_7 : decode cX5_isCrossAt 7 = .ok (.if_icmp .gt 15, 3) := by decide +kernel
theorem dX5_isCrossAt_10 : decode cX5_isCrossAt 10 = .ok (.iload_n 2, 1) := by decide +kernel
theorem dX5_isCrossAt_11 : decode cX5_isCrossAt 11 = .ok (.iconst 1, 1) := by decide +kernel
theorem dX5_isCrossAt_12 : decode cX5_isCrossAt 12 = .ok (.if_icmp .lt 10, 3) := by decide +kernel
theorem dX5_isCrossAt_15 : decode cX5_isCrossAt 15 = .ok (.iload_n 2, 1) := by decide +kernel
theorem dX5_isCrossAt_16 : decode cX5_isCrossAt 16 = .ok (.iconst 5, 1) := by decide +kernel
theorem dX5_isCrossAt_17 : decode cX5_isCrossAt 17 = .ok (.iload_n 1, 1) := by decide +kernel
theorem dX5_isCrossAt_18 : decode cX5_isCrossAt 18 = .ok (.isub, 1) := by decide +kernel
theorem dX5_isCrossAt_19 : decode cX5_isCrossAt 19 = .ok (.if_icmp .le 5, 3) := by decide +kernel
theorem dX5_isCrossAt_22 : decode cX5_isCrossAt 22 = .ok (.iconst 0, 1) := by decide +kernel
theorem dX5_isCrossAt_23 : decode cX5_isCrossAt 23 = .ok (.ireturn, 1) := by decide +kernel
theorem dX5_isCrossAt_24 : decode cX5_isCrossAt 24 = .ok (.iload_n 0, 1) := by decide +kernel
theorem dX5_isCrossAt_25 : decode cX5_isCrossAt 25 = .ok (.iload_n 1, 1) := by decide +kernel
theorem dX5_isCrossAt_26 : decode cX5_isCrossAt 26 = .ok (.iload_n 2, 1) := by decide +kernel
theorem dX5_isCrossAt_27 : decode cX5_isCrossAt 27 = .ok (.invokestatic 235, 3) := by decide +kernel
theorem dX5_isCrossAt_30 : decode cX5_isCrossAt 30 = .ok (.iand, 1) := by decide +kernel
theorem dX5_isCrossAt_31 : decode cX5_isCrossAt 31 = .ok (.ifCond .eq 7, 3) := by decide +kernel
theorem dX5_isCrossAt_34 : decode cX5_isCrossAt 34 = .ok (.iconst 1, 1) := by decide +kernel
theorem dX5_isCrossAt_35 : decode cX5_isCrossAt 35 = .ok (.goto 4, 3) := by decide +kernel
theorem dX5_isCrossAt_38 : decode cX5_isCrossAt 38 = .ok (.iconst 0, 1) := by decide +kernel
theorem dX5_isCrossAt_39 : decode cX5_isCrossAt 39 = .ok (.ireturn, 1) := by decide +kernel
theorem dX5_bitOf_0 : decode cX5_bitOf 0 = .ok (.iload_n 0, 1) := by decide +kernel
theorem dX5_bitOf_1 : decode cX5_bitOf 1 = .ok (.iconst 1, 1) := by decide +kernel
theorem dX5_bitOf_2 : decode cX5_bitOf 2 = .ok (.if_icmp .lt 8, 3) := by decide +kernel
theorem dX5_bitOf_5 : decode cX5_bitOf 5 = .ok (.iload_n 0, 1) := by decide +kernel
theorem dX5_bitOf_6 : decode cX5_bitOf 6 = .ok (.iconst 4, 1) := by decide +kernel
theorem dX5_bitOf_7 : decode cX5_bitOf 7 = .ok (.if_icmp .le 7, 3) := by decide +kernel
theorem dX5_bitOf_10 : decode cX5_bitOf 10 = .ok (.iconst 0, 1) := by decide +kernel
theorem dX5_bitOf_11 : decode cX5_bitOf 11 = .ok (.goto 14, 3) := by decide +kernel
theorem dX5_bitOf_14 : decode cX5_bitOf 14 = .ok (.iconst 1, 1) := by decide +kernel
theorem dX5_bitOf_15 : decode cX5_bitOf 15 = .ok (.getstatic 239, 3) := by decide +kernel
theorem dX5_bitOf_18 : decode cX5_bitOf 18 = .ok (.iload_n 0, 1) := by decide +kernel
theorem dX5_bitOf_19 : decode cX5_bitOf 19 = .ok (.iaload, 1) := by decide +kernel
theorem dX5_bitOf_20 : decode cX5_bitOf 20 = .ok (.iload_n 1, 1) := by decide +kernel
theorem dX5_bitOf_21 : decode cX5_bitOf 21 = .ok (.iadd, 1) := by decide +kernel
theorem dX5_bitOf_22 : decode cX5_bitOf 22 = .ok (.iconst 1, 1) := by decide +kernel
theorem dX5_bitOf_23 : decode cX5_bitOf 23 = .ok (.isub, 1) := by decide +kernel
theorem dX5_bitOf_24 : decode cX5_bitOf 24 = .ok (.ishl, 1) := by decide +kernel
theorem dX5_bitOf_25 : decode cX5_bitOf 25 = .ok (.ireturn, 1) := by decide +kernel
set_option maxRecDepth 20000 in
theorem ggX5_putLadder_X5_isCrossAt : GoodIn wsX5_putLadder wsX5_isCrossAt := goodIn_r _ [5, 6, 7, 4, 8, 9] (by decide +kernel) (by decide +kernel)
set_option maxRecDepth 20000 in
theorem gX5_putLadder_X5_isCrossAt : GoodIn wsX5_putLadder (va_wsS RX5 243 yX5_isCrossAt wsX5_isCrossAt) := goodIn_app (goodIn_of _ (by decide +kernel)) ggX5_putLadder_X5_isCrossAt
set_option maxRecDepth 20000 in
theorem ggX5_putLadder_X5_bitOf : GoodIn wsX5_putLadder wsX5_bitOf := goodIn_r _ [8, 9] (by decide +kernel) (by decide +kernel)
set_option maxRecDepth 20000 in
theorem gX5_putLadder_X5_bitOf : GoodIn wsX5_putLadder (va_wsS RX5 235 yX5_bitOf wsX5_bitOf) := goodIn_app (goodIn_of _ (by decide +kernel)) ggX5_putLadder_X5_bitOf
set_option maxRecDepth 20000 in
theorem ggX5_putLadder_X0_put : GoodIn wsX5_putLadder wsX0_put := goodIn_r _ [14, 15, 16, 17, 18, 19, 20, 28, 29] (by decide +kernel) (by decide +kernel)
set_option maxRecDepth 20000 in
theorem gX5_putLadder_X0_put : GoodIn wsX5_putLadder (wsV RX5 247 RX0 yX0_put wsX0_put) := goodIn_app (goodIn_of _ (by decide +kernel)) ggX5_putLadder_X0_put
theorem dX5_putLadder_0 : decode cX5_putLadder 0 = .ok (.iload_n 1, 1) := by decide +kernel
theorem dX5_putLadder_1 : decode cX5_putLadder 1 = .ok (.iload_n 2, 1) := by decide +kernel
theorem dX5_putLadder_2 : decode cX5_putLadder 2 = .ok (.iload_n 3, 1) := by decide +kernel
theorem dX5_putLadder_3 : decode cX5_putLadder 3 = .ok (.invokestatic 243, 3) := by decide +kernel
theorem dX5_putLadder_6 : decode cX5_putLadder 6 = .ok (.ifCond .eq 14, 3) := by decide +kernel
theorem dX5_putLadder_9 : decode cX5_putLadder 9 = .ok (.iload_n 1, 1) := by decide +kernel
theorem dX5_putLadder_10 : decode cX5_putLadder 10 = .ok (.iload_n 2, 1) := by decide +kernel
theorem dX5_putLadder_11 : decode cX5_putLadder 11 = .ok (.iload_n 3, 1) := by decide +kernel
theorem dX5_putLadder_12 : decode cX5_putLadder 12 = .ok (.iconst 1, 1) := by decide +kernel
theorem dX5_putLadder_13 : decode cX5_putLadder 13 = .ok (.iadd, 1) := by decide +kernel
theorem dX5_putLadder_14 : decode cX5_putLadder 14 = .ok (.invokestatic 243, 3) := by decide +kernel
theorem dX5_putLadder_17 : decode cX5_putLadder 17 = .ok (.ifCond .eq 4, 3) := by decide +kernel
theorem dX5_putLadder_20 : decode cX5_putLadder 20 = .ok (.return_, 1) := by decide +kernel
theorem dX5_putLadder_21 : decode cX5_putLadder 21 = .ok (.iload_n 2, 1) := by decide +kernel
theorem dX5_putLadder_22 : decode cX5_putLadder 22 = .ok (.iconst 1, 1) := by decide +kernel
theorem dX5_putLadder_23 : decode cX5_putLadder 23 = .ok (.isub, 1) := by decide +kernel
theorem dX5_putLadder_24 : decode cX5_putLadder 24 = .ok (.istore 4, 2) := by decide +kernel
theorem dX5_putLadder_26 : decode cX5_putLadder 26 = .ok (.iload 4, 2) := by decide +kernel
theorem dX5_putLadder_28 : decode cX5_putLadder 28 = .ok (.iconst 1, 1) := by decide +kernel
theorem dX5_putLadder_29 : decode cX5_putLadder 29 = .ok (.if_icmp .lt 73, 3) := by decide +kernel
theorem dX5_putLadder_32 : decode cX5_putLadder 32 = .ok (.iload_n 1, 1) := by decide +kernel
theorem dX5_putLadder_33 : decode cX5_putLadder 33 = .ok (.iload 4, 2) := by decide +kernel
theorem dX5_putLadder_35 : decode cX5_putLadder 35 = .ok (.iload_n 3, 1) := by decide +kernel
theorem dX5_putLadder_36 : decode cX5_putLadder 36 = .ok (.invokestatic 243, 3) := by decide +kernel
theorem dX5_putLadder_39 : decode cX5_putLadder 39 = .ok (.istore 5, 2) := by decide +kernel
theorem dX5_putLadder_41 : decode cX5_putLadder 41 = .ok (.iload_n 1, 1) := by decide +kernel
theorem dX5_putLadder_42 : decode cX5_putLadder 42 = .ok (.iload 4, 2) := by decide +kernel
theorem dX5_putLadder_44 : decode cX5_putLadder 44 = .ok (.iload_n 3, 1) := by decide +kernel
theorem dX5_putLadder_45 : decode cX5_putLadder 45 = .ok (.iconst 1, 1) := by decide +kernel
theorem dX5_putLadder_46 : decode cX5_putLadder 46 = .ok (.iadd, 1) := by decide +kernel
theorem dX5_putLadder_47 : decode cX5_putLadder 47 = .ok (.invokestatic 243, 3) := by decide +kernel
theorem dX5_putLadder_50 : decode cX5_putLadder 50 = .ok (.istore 6, 2) := by decide +kernel
theorem dX5_putLadder_52 : decode cX5_putLadder 52 = .ok (.iload 5, 2) := by decide +kernel
theorem dX5_putLadder_54 : decode cX5_putLadder 54 = .ok (.ifCond .ne 31, 3) := by decide +kernel
theorem dX5_putLadder_57 : decode cX5_putLadder 57 = .ok (.iload 6, 2) := by decide +kernel
theorem dX5_putLadder_59 : decode cX5_putLadder 59 = .ok (.ifCond .ne 26, 3) := by decide +kernel
theorem dX5_putLadder_62 : decode cX5_putLadder 62 = .ok (.aload_n 0, 1) := by decide +kernel
theorem dX5_putLadder_63 : decode cX5_putLadder 63 = .ok (.getfield 29, 3) := by decide +kernel
theorem dX5_putLadder_66 : decode cX5_putLadder 66 = .ok (.iload_n 1, 1) := by decide +kernel
theorem dX5_putLadder_67 : decode cX5_putLadder 67 = .ok (.iload_n 2, 1) := by decide +kernel
theorem dX5_putLadder_68 : decode cX5_putLadder 68 = .ok (.iload_n 3, 1) := by decide +kernel
theorem dX5_putLadder_69 : decode cX5_putLadder 69 = .ok (.invokestatic 235, 3) := by decide +kernel
theorem dX5_putLadder_72 : decode cX5_putLadder 72 = .ok (.ixor, 1) := by decide +kernel
theorem dX5_putLadder_73 : decode cX5_putLadder 73 = .ok (.iload 4, 2) := by decide +kernel
theorem dX5_putLadder_75 : decode cX5_putLadder 75 = .ok (.iload_n 3, 1) := by decide +kernel
theorem dX5_putLadder_76 : decode cX5_putLadder 76 = .ok (.iconst 1, 1) := by decide +kernel
theorem dX5_putLadder_77 : decode cX5_putLadder 77 = .ok (.iadd, 1) := by decide +kernel
theorem dX5_putLadder_78 : decode cX5_putLadder 78 = .ok (.invokestatic 235, 3) := by decide +kernel
theorem dX5_putLadder_81 : decode cX5_putLadder 81 = .ok (.ior, 1) := by decide +kernel
theorem dX5_putLadder_82 : decode cX5_putLadder 82 = .ok (.invokevirtual 247, 3) := by decide +kernel
theorem dX5_putLadder_85 : decode cX5_putLadder 85 = .ok (.iload 5, 2) := by decide +kernel
theorem dX5_putLadder_87 : decode cX5_putLadder 87 = .ok (.ifCond .eq 8, 3) := by decide +kernel
theorem dX5_putLadder_90 : decode cX5_putLadder 90 = .ok (.iload 6, 2) := by decide +kernel
theorem dX5_putLadder_92 : decode cX5_putLadder 92 = .ok (.ifCond .ne 4, 3) := by decide +kernel
theorem dX5_putLadder_95 : decode cX5_putLadder 95 = .ok (.return_, 1) := by decide +kernel
theorem dX5_putLadder_96 : decode cX5_putLadder 96 = .ok (.iinc 4 (-1), 3) := by decide +kernel
theorem dX5_putLadder_99 : decode cX5_putLadder 99 = .ok (.goto (-73), 3) := by decide +kernel
theorem dX5_putLadder_102 : decode cX5_putLadder 102 = .ok (.return_, 1) := by decide +kernel
set_option maxRecDepth 20000 in
theorem ggX5_putExchanged_X1_exchange : GoodIn wsX5_putExchanged wsX1_exchange := goodIn_r _ [6, 7, 8, 9, 5, 10, 11, 12, 13, 14, 15, 50] (by decide +kernel) (by decide +kernel)
set_option maxRecDepth 20000 in
theorem gX5_putExchanged_X1_exchange : GoodIn wsX5_putExchanged (wsV RX5 210 RX1 yX1_exchange wsX1_exchange) := goodIn_app (goodIn_of _ (by decide +kernel)) ggX5_putExchanged_X1_exchange
set_option maxRecDepth 20000 in
theorem ggX5_putExchanged_X1_inversions : GoodIn wsX5_putExchanged wsX1_inversions := goodIn_r _ [19, 20, 21, 22, 5, 23, 7, 8, 9, 10, 11, 50] (by decide +kernel) (by decide +kernel)
set_option maxRecDepth 20000 in
theorem gX5_putExchanged_X1_inversions : GoodIn wsX5_putExchanged (wsV RX5 62 RX1 yX1_inversions wsX1_inversions) := goodIn_app (goodIn_of _ (by decide +kernel)) ggX5_putExchanged_X1_inversions
set_option maxRecDepth 20000 in
theorem ggX5_putExchanged_X1_plainNumber : GoodIn wsX5_putExchanged wsX1_plainNumber := goodIn_r _ [27, 11, 28, 29, 30, 5, 31, 50] (by decide +kernel) (by decide +kernel)
set_option maxRecDepth 20000 in
theorem gX5_putExchanged_X1_plainNumber : GoodIn wsX5_putExchanged (wsV RX5 58 RX1 yX1_plainNumber wsX1_plainNumber) := goodIn_app (goodIn_of _ (by decide +kernel)) ggX5_putExchanged_X1_plainNumber
set_option maxRecDepth 20000 in
theorem ggX5_putExchanged_X0_put : GoodIn wsX5_putExchanged wsX0_put := goodIn_r _ [36, 37, 38, 39, 40, 41, 42, 51, 52] (by decide +kernel) (by decide +kernel)
set_option maxRecDepth 20000 in
theorem gX5_putExchanged_X0_put : GoodIn wsX5_putExchanged (wsV RX5 247 RX0 yX0_put wsX0_put) := goodIn_app (goodIn_of _ (by decide +kernel)) ggX5_putExchanged_X0_put
theorem dX5_putExchanged_0 : decode cX5_putExchanged 0 = .ok (.aload_n 1, 1) := by decide +kernel
theorem dX5_putExchanged_1 : decode cX5_putExchanged 1 = .ok (.iload_n 2, 1) := by decide +kernel
theorem dX5_putExchanged_2 : decode cX5_putExchanged 2 = .ok (.iload_n 3, 1) := by decide +kernel
theorem dX5_putExchanged_3 : decode cX5_putExchanged 3 = .ok (.invokevirtual 210, 3) := by decide +kernel
theorem dX5_putExchanged_6 : decode cX5_putExchanged 6 = .ok (.aload_n 1, 1) := by decide +kernel
theorem dX5_putExchanged_7 : decode cX5_putExchanged 7 = .ok (.invokevirtual 62, 3) := by decide +kernel
theorem dX5_putExchanged_10 : decode cX5_putExchanged 10 = .ok (.iload 4, 2) := by decide +kernel
theorem dX5_putExchanged_12 : decode cX5_putExchanged 12 = .ok (.if_icmp .ne 14, 3) := by decide +kernel
theorem dX5_putExchanged_15 : decode cX5_putExchanged 15 = .ok (.aload_n 0, 1) := by decide +kernel
theorem dX5_putExchanged_16 : decode cX5_putExchanged 16 = .ok (.getfield 29, 3) := by decide +kernel
theorem dX5_putExchanged_19 : decode cX5_putExchanged 19 = .ok (.aload_n 1, 1) := by decide +kernel
theorem dX5_putExchanged_20 : decode cX5_putExchanged 20 = .ok (.invokevirtual 58, 3) := by decide +kernel
theorem dX5_putExchanged_23 : decode cX5_putExchanged 23 = .ok (.invokevirtual 247, 3) := by decide +kernel
theorem dX5_putExchanged_26 : decode cX5_putExchanged 26 = .ok (.aload_n 1, 1) := by decide +kernel
theorem dX5_putExchanged_27 : decode cX5_putExchanged 27 = .ok (.iload_n 2, 1) := by decide +kernel
theorem dX5_putExchanged_28 : decode cX5_putExchanged 28 = .ok (.iload_n 3, 1) := by decide +kernel
theorem dX5_putExchanged_29 : decode cX5_putExchanged 29 = .ok (.invokevirtual 210, 3) := by decide +kernel
theorem dX5_putExchanged_32 : decode cX5_putExchanged 32 = .ok (.return_, 1) := by decide +kernel
