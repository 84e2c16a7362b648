theorem dX0_init_0 : decode cX0_init 0 = .ok (.aload_n 0, 1) := by decide +kernel
theorem dX0_init_1 : decode cX0_init 1 = .ok (.invokespecial 1, 3) := by decide +kernel
theorem dX0_init_4 : decode cX0_init 4 = .ok (.aload_n 0, 1) := by decide +kernel
theorem dX0_init_5 : decode cX0_init 5 = .ok (.iload_n 1, 1) := by decide +kernel
theorem dX0_init_6 : decode cX0_init 6 = .ok (.bipush 64, 2) := by decide +kernel
theorem dX0_init_8 : decode cX0_init 8 = .ok (.idiv, 1) := by decide +kernel
theorem dX0_init_9 : decode cX0_init 9 = .ok (.iconst 1, 1) := by decide +kernel
theorem dX0_init_10 : decode cX0_init 10 = .ok (.iadd, 1) := by decide +kernel
theorem dX0_init_11 : decode cX0_init 11 = .ok (.newarray .long, 2) := by decide +kernel
theorem dX0_init_13 : decode cX0_init 13 = .ok (.putfield 7, 3) := by decide +kernel
theorem dX0_init_16 : decode cX0_init 16 = .ok (.return_, 1) := by decide +kernel
theorem dX0_has_0 : decode cX0_has 0 = .ok (.aload_n 0, 1) := by decide +kernel
theorem dX0_has_1 : decode cX0_has 1 = .ok (.getfield 7, 3) := by decide +kernel
theorem dX0_has_4 : decode cX0_has 4 = .ok (.iload_n 1, 1) := by decide +kernel
theorem dX0_has_5 : decode cX0_has 5 = .ok (.bipush 6, 2) := by decide +kernel
theorem dX0_has_7 : decode cX0_has 7 = .ok (.ishr, 1) := by decide +kernel
theorem dX0_has_8 : decode cX0_has 8 = .ok (.laload, 1) := by decide +kernel
theorem dX0_has_9 : decode cX0_has 9 = .ok (.iload_n 1, 1) := by decide +kernel
theorem dX0_has_10 : decode cX0_has 10 = .ok (.bipush 63, 2) := by decide +kernel
theorem dX0_has_12 : decode cX0_has 12 = .ok (.iand, 1) := by decide +kernel
theorem dX0_has_13 : decode cX0_has 13 = .ok (.lushr, 1) := by decide +kernel
theorem dX0_has_14 : decode cX0_has 14 = .ok (.lconst 1, 1) := by decide +kernel
theorem dX0_has_15 : decode cX0_has 15 = .ok (.land, 1) := by decide +kernel
theorem dX0_has_16 : decode cX0_has 16 = .ok (.lconst 0, 1) := by decide +kernel
theorem dX0_has_17 : decode cX0_has 17 = .ok (.lcmp, 1) := by decide +kernel
theorem dX0_has_18 : decode cX0_has 18 = .ok (.ifCond .eq 7, 3) := by decide +kernel
theorem dX0_has_21 : decode cX0_has 21 = .ok (.iconst 1, 1) := by decide +kernel
theorem dX0_has_22 : decode cX0_has 22 = .ok (.goto 4, 3) := by decide +kernel
theorem dX0_has_25 : decode cX0_has 25 = .ok (.iconst 0, 1) := by decide +kernel
theorem dX0_has_26 : decode cX0_has 26 = .ok (.ireturn, 1) := by decide +kernel
theorem dX0_put_0 : decode cX0_put 0 = .ok (.aload_n 0, 1) := by decide +kernel
theorem dX0_put_1 : decode cX0_put 1 = .ok (.getfield 7, 3) := by decide +kernel
theorem dX0_put_4 : decode cX0_put 4 = .ok (.iload_n 1, 1) := by decide +kernel
theorem dX0_put_5 : decode cX0_put 5 = .ok (.bipush 6, 2) := by decide +kernel
theorem dX0_put_7 : decode cX0_put 7 = .ok (.ishr, 1) := by decide +kernel
theorem dX0_put_8 : decode cX0_put 8 = .ok (.dup2, 1) := by decide +kernel
theorem dX0_put_9 : decode cX0_put 9 = .ok (.laload, 1) := by decide +kernel
theorem dX0_put_10 : decode cX0_put 10 = .ok (.lconst 1, 1) := by decide +kernel
theorem dX0_put_11 : decode cX0_put 11 = .ok (.iload_n 1, 1) := by decide +kernel
theorem dX0_put_12 : decode cX0_put 12 = .ok (.bipush 63, 2) := by decide +kernel
theorem dX0_put_14 : decode cX0_put 14 = .ok (.iand, 1) := by decide +kernel
theorem dX0_put_15 : decode cX0_put 15 = .ok (.lshl, 1) := by decide +kernel
theorem dX0_put_16 : decode cX0_put 16 = .ok (.lor, 1) := by decide +kernel
theorem dX0_put_17 : decode cX0_put 17 = .ok (.lastore, 1) := by decide +kernel
theorem dX0_put_18 : decode cX0_put 18 = .ok (.return_, 1) := by decide +kernel
set_option maxRecDepth 20000 in
theorem ggX0_clear_J7_fill_d0a16 : GoodIn wsX0_clear wsJ7_fill_d0a16 := goodIn_r _ [5] (by decide +kernel) (by decide +kernel)
set_option maxRecDepth 20000 in
theorem gX0_clear_J7_fill_d0a16 : GoodIn wsX0_clear (va_wsS RX0 13 yJ7_fill_d0a16 wsJ7_fill_d0a16) := goodIn_app (goodIn_of _ (by decide +kernel)) ggX0_clear_J7_fill_d0a16
theorem dX0_clear_0 : decode cX0_clear 0 = .ok (.aload_n 0, 1) := by decide +kernel
theorem dX0_clear_1 : decode cX0_clear 1 = .ok (.getfield 7, 3) := by decide +kernel
theorem dX0_clear_4 : decode cX0_clear 4 = .ok (.lconst 0, 1) := by decide +kernel
theorem dX0_clear_5 : decode cX0_clear 5 = .ok (.invokestatic 13, 3) := by decide +kernel
theorem dX0_clear_8 : decode cX0_clear 8 = .ok (.return_, 1) := by decide +kernel
set_option maxRecDepth 20000 in
theorem ggX0_between_J13_bitCount_95d88 : GoodIn wsX0_between wsJ13_bitCount_95d88 := goodIn_r _ [6, 7, 8, 9] (by decide +kernel) (by decide +kernel)
set_option maxRecDepth 20000 in
theorem gX0_between_J13_bitCount_95d88 : GoodIn wsX0_between (va_wsS RX0 21 yJ13_bitCount_95d88 wsJ13_bitCount_95d88) := goodIn_app (goodIn_of _ (by decide +kernel)) ggX0_between_J13_bitCount_95d88
theorem dX0_between_0 : decode cX0_between 0 = .ok (.ldc2_w 19, 3) := by decide +kernel
theorem dX0_between_3 : decode cX0_between 3 = .ok (.iload_n 1, 1) := by decide +kernel
theorem dX0_between_4 : decode cX0_between 4 = .ok (.bipush 63, 2) := by decide +kernel
theorem dX0_between_6 : decode cX0_between 6 = .ok (.iand, 1) := by decide +kernel
theorem dX0_between_7 : decode cX0_between 7 = .ok (.lshl, 1) := by decide +kernel
theorem dX0_between_8 : decode cX0_between 8 = .ok (.lstore_n 3, 1) := by decide +kernel
theorem dX0_between_9 : decode cX0_between 9 = .ok (.lconst 1, 1) := by decide +kernel
theorem dX0_between_10 : decode cX0_between 10 = .ok (.iload_n 2, 1) := by decide +kernel
theorem dX0_between_11 : decode cX0_between 11 = .ok (.bipush 63, 2) := by decide +kernel
theorem dX0_between_13 : decode cX0_between 13 = .ok (.iand, 1) := by decide +kernel
theorem dX0_between_14 : decode cX0_between 14 = .ok (.lshl, 1) := by decide +kernel
theorem dX0_between_15 : decode cX0_between 15 = .ok (.lconst 1, 1) := by decide +kernel
theorem dX0_between_16 : decode cX0_between 16 = .ok (.lsub, 1) := by decide +kernel
theorem dX0_between_17 : decode cX0_between 17 = .ok (.lstore 5, 2) := by decide +kernel
theorem dX0_between_19 : decode cX0_between 19 = .ok (.aload_n 0, 1) := by decide +kernel
theorem dX0_between_20 : decode cX0_between 20 = .ok (.getfield 7, 3) := by decide +kernel
theorem dX0_between_23 : decode cX0_between 23 = .ok (.iload_n 2, 1) := by decide +kernel
theorem dX0_between_24 : decode cX0_between 24 = .ok (.bipush 6, 2) := by decide +kernel
theorem dX0_between_26 : decode cX0_between 26 = .ok (.ishr, 1) := by decide +kernel
theorem dX0_between_27 : decode cX0_between 27 = .ok (.laload, 1) := by decide +kernel
theorem dX0_between_28 : decode cX0_between 28 = .ok (.lload_n 3, 1) := by decide +kernel
theorem dX0_between_29 : decode cX0_between 29 = .ok (.land, 1) := by decide +kernel
theorem dX0_between_30 : decode cX0_between 30 = .ok (.lload 5, 2) := by decide +kernel
theorem dX0_between_32 : decode cX0_between 32 = .ok (.land, 1) := by decide +kernel
theorem dX0_between_33 : decode cX0_between 33 = .ok (.invokestatic 21, 3) := by decide +kernel
theorem dX0_between_36 : decode cX0_between 36 = .ok (.ireturn, 1) := by decide +kernel
set_option maxRecDepth 20000 in
theorem ggX1_init_X1_isBlockSize : GoodIn wsX1_init wsX1_isBlockSize := goodIn_r _ [30] (by decide +kernel) (by decide +kernel)
set_option maxRecDepth 20000 in
theorem gX1_init_X1_isBlockSize : GoodIn wsX1_init (va_wsS RX1 22 yX1_isBlockSize wsX1_isBlockSize) := goodIn_app (goodIn_of _ (by decide +kernel)) ggX1_init_X1_isBlockSize
set_option maxRecDepth 20000 in
theorem ggX1_init_X0_init : GoodIn wsX1_init wsX0_init := goodIn_r _ [33, 34, 2, 3, 35, 36, 52] (by decide +kernel) (by decide +kernel)
set_option maxRecDepth 20000 in
theorem gX1_init_X0_init : GoodIn wsX1_init (wsX0_init) := ggX1_init_X0_init
theorem dX1_init_0 : decode cX1_init 0 = .ok (.aload_n 0, 1) := by decide +kernel
theorem dX1_init_1 : decode cX1_init 1 = .ok (.invokespecial 1, 3) := by decide +kernel
theorem dX1_init_4 : decode cX1_init 4 = .ok (.aload_n 0, 1) := by decide +kernel
theorem dX1_init_5 : decode cX1_init 5 = .ok (.bipush 16, 2) := by decide +kernel
theorem dX1_init_7 : decode cX1_init 7 = .ok (.sipush 4000, 3) := by decide +kernel
theorem dX1_init_10 : decode cX1_init 10 = .ok (.iload_n 1, 1) := by decide +kernel
theorem dX1_init_11 : decode cX1_init 11 = .ok (.invokestatic 9, 3) := by decide +kernel
theorem dX1_init_14 : decode cX1_init 14 = .ok (.invokestatic 15, 3) := by decide +kernel
theorem dX1_init_17 : decode cX1_init 17 = .ok (.putfield 18, 3) := by decide +kernel
theorem dX1_init_20 : decode cX1_init 20 = .ok (.aload_n 0, 1) := by decide +kernel
theorem dX1_init_21 : decode cX1_init 21 = .ok (.iload_n 2, 1) := by decide +kernel
theorem dX1_init_22 : decode cX1_init 22 = .ok (.invokestatic 22, 3) := by decide +kernel
theorem dX1_init_25 : decode cX1_init 25 = .ok (.ifCond .eq 7, 3) := by decide +kernel
theorem dX1_init_28 : decode cX1_init 28 = .ok (.iload_n 2, 1) := by decide +kernel
theorem dX1_init_29 : decode cX1_init 29 = .ok (.goto 5, 3) := by decide +kernel
theorem dX1_init_32 : decode cX1_init 32 = .ok (.bipush 32, 2) := by decide +kernel
theorem dX1_init_34 : decode cX1_init 34 = .ok (.putfield 26, 3) := by decide +kernel
theorem dX1_init_37 : decode cX1_init 37 = .ok (.aload_n 0, 1) := by decide +kernel
theorem dX1_init_38 : decode cX1_init 38 = .ok (.aload_n 0, 1) := by decide +kernel
theorem dX1_init_39 : decode cX1_init 39 = .ok (.getfield 18, 3) := by decide +kernel
theorem dX1_init_42 : decode cX1_init 42 = .ok (.aload_n 0, 1) := by decide +kernel
theorem dX1_init_43 : decode cX1_init 43 = .ok (.getfield 26, 3) := by decide +kernel
theorem dX1_init_46 : decode cX1_init 46 = .ok (.idiv, 1) := by decide +kernel
theorem dX1_init_47 : decode cX1_init 47 = .ok (.iconst 1, 1) := by decide +kernel
theorem dX1_init_48 : decode cX1_init 48 = .ok (.iadd, 1) := by decide +kernel
theorem dX1_init_49 : decode cX1_init 49 = .ok (.putfield 29, 3) := by decide +kernel
theorem dX1_init_52 : decode cX1_init 52 = .ok (.aload_n 0, 1) := by decide +kernel
theorem dX1_init_53 : decode cX1_init 53 = .ok (.bipush 8, 2) := by decide +kernel
theorem dX1_init_55 : decode cX1_init 55 = .ok (.newarray .int, 2) := by decide +kernel
theorem dX1_init_57 : decode cX1_init 57 = .ok (.putfield 32, 3) := by decide +kernel
theorem dX1_init_60 : decode cX1_init 60 = .ok (.aload_n 0, 1) := by decide +kernel
theorem dX1_init_61 : decode cX1_init 61 = .ok (.new 36, 3) := by decide +kernel
theorem dX1_init_64 : decode cX1_init 64 = .ok (.dup, 1) := by decide +kernel
theorem dX1_init_65 : decode cX1_init 65 = .ok (.aload_n 0, 1) := by decide +kernel
theorem dX1_init_66 : decode cX1_init 66 = .ok (.getfield 18, 3) := by decide +kernel
theorem dX1_init_69 : decode cX1_init 69 = .ok (.invokespecial 38, 3) := by decide +kernel
theorem dX1_init_72 : decode cX1_init 72 = .ok (.putfield 41, 3) := by decide +kernel
theorem dX1_init_75 : decode cX1_init 75 = .ok (.aload_n 0, 1) := by decide +kernel
theorem dX1_init_76 : decode cX1_init 76 = .ok (.aload_n 0, 1) := by decide +kernel
theorem dX1_init_77 : decode cX1_init 77 = .ok (.getfield 29, 3) := by decide +kernel
theorem dX1_init_80 : decode cX1_init 80 = .ok (.newarray .int, 2) := by decide +kernel
theorem dX1_init_82 : decode cX1_init 82 = .ok (.putfield 45, 3) := by decide +kernel
theorem dX1_init_85 : decode cX1_init 85 = .ok (.aload_n 0, 1) := by decide +kernel
theorem dX1_init_86 : decode cX1_init 86 = .ok (.aload_n 0, 1) := by decide +kernel
theorem dX1_init_87 : decode cX1_init 87 = .ok (.getfield 18, 3) := by decide +kernel
theorem dX1_init_90 : decode cX1_init 90 = .ok (.newarray .int, 2) := by decide +kernel
theorem dX1_init_92 : decode cX1_init 92 = .ok (.putfield 48, 3) := by decide +kernel
theorem dX1_init_95 : decode cX1_init 95 = .ok (.aload_n 0, 1) := by decide +kernel
theorem dX1_init_96 : decode cX1_init 96 = .ok (.new 36, 3) := by decide +kernel
theorem dX1_init_99 : decode cX1_init 99 = .ok (.dup, 1) := by decide +kernel
theorem dX1_init_100 : decode cX1_init 100 = .ok (.aload_n 0, 1) := by decide +kernel
theorem dX1_init_101 : decode cX1_init 101 = .ok (.getfield 18, 3) := by decide +kernel
theorem dX1_init_104 : decode cX1_init 104 = .ok (.invokespecial 38, 3) := by decide +kernel
theorem dX1_init_107 : decode cX1_init 107 = .ok (.putfield 51, 3) := by decide +kernel
theorem dX1_init_110 : decode cX1_init 110 = .ok (.aload_n 0, 1) := by decide +kernel
theorem dX1_init_111 : decode cX1_init 111 = .ok (.new 36, 3) := by decide +kernel
theorem dX1_init_114 : decode cX1_init 114 = .ok (.dup, 1) := by decide +kernel
theorem dX1_init_115 : decode cX1_init 115 = .ok (.aload_n 0, 1) := by decide +kernel
theorem dX1_init_116 : decode cX1_init 116 = .ok (.getfield 18, 3) := by decide +kernel
theorem dX1_init_119 : decode cX1_init 119 = .ok (.invokespecial 38, 3) := by decide +kernel
theorem dX1_init_122 : decode cX1_init 122 = .ok (.putfield 54, 3) := by decide +kernel
theorem dX1_init_125 : decode cX1_init 125 = .ok (.aload_n 0, 1) := by decide +kernel
theorem dX1_init_126 : decode cX1_init 126 = .ok (.aload_n 0, 1) := by decide +kernel
theorem dX1_init_127 : decode cX1_init 127 = .ok (.getfield 18, 3) := by decide +kernel
theorem dX1_init_130 : decode cX1_init 130 = .ok (.iconst 1, 1) := by decide +kernel
theorem dX1_init_131 : decode cX1_init 131 = .ok (.iadd, 1) := by decide +kernel
theorem dX1_init_132 : decode cX1_init 132 = .ok (.newarray .int, 2) := by decide +kernel
theorem dX1_init_134 : decode cX1_init 134 = .ok (.putfield 57, 3) := by decide +kernel
theorem dX1_init_137 : decode cX1_init 137 = .ok (.aload_n 0, 1) := by decide +kernel
theorem dX1_init_138 : decode cX1_init 138 = .ok (.aload_n 0, 1) := by decide +kernel
theorem dX1_init_139 : decode cX1_init 139 = .ok (.getfield 18, 3) := by decide +kernel
theorem dX1_init_142 : decode cX1_init 142 = .ok (.iconst 1, 1) := by decide +kernel
theorem dX1_init_143 : decode cX1_init 143 = .ok (.iadd, 1) := by decide +kernel
theorem dX1_init_144 : decode cX1_init 144 = .ok (.newarray .int, 2) := by decide +kernel
theorem dX1_init_146 : decode cX1_init 146 = .ok (.putfield 60, 3) := by decide +kernel
theorem dX1_init_149 : decode cX1_init 149 = .ok (.aload_n 0, 1) := by decide +kernel
theorem dX1_init_150 : decode cX1_init 150 = .ok (.iconst 1, 1) := by decide +kernel
theorem dX1_init_151 : decode cX1_init 151 = .ok (.putfield 63, 3) := by decide +kernel
theorem dX1_init_154 : decode cX1_init 154 = .ok (.return_, 1) := by decide +kernel
set_option maxRecDepth 20000 in
theorem ggX1_make_X1_headerOf : GoodIn wsX1_make wsX1_headerOf := goodIn_r _ [9] (by decide +kernel) (by decide +kernel)
set_option maxRecDepth 20000 in
theorem gX1_make_X1_headerOf : GoodIn wsX1_make (va_wsS RX1 66 yX1_headerOf wsX1_headerOf) := goodIn_app (goodIn_of _ (by decide +kernel)) ggX1_make_X1_headerOf
set_option maxRecDepth 20000 in
theorem ggX1_make_X1_sizeBy : GoodIn wsX1_make wsX1_sizeBy := goodIn_r _ [12, 13, 14, 8, 15, 16, 17, 18] (by decide +kernel) (by decide +kernel)
set_option maxRecDepth 20000 in
theorem gX1_make_X1_sizeBy : GoodIn wsX1_make (va_wsS RX1 69 yX1_sizeBy wsX1_sizeBy) := goodIn_app (goodIn_of _ (by decide +kernel)) ggX1_make_X1_sizeBy
set_option maxRecDepth 20000 in
theorem ggX1_make_X0_put : GoodIn wsX1_make wsX0_put := goodIn_r _ [23, 24, 40] (by decide +kernel) (by decide +kernel)
set_option maxRecDepth 20000 in
theorem gX1_make_X0_put : GoodIn wsX1_make (wsV RX1 73 RX0 yX0_put wsX0_put) := goodIn_app (goodIn_of _ (by decide +kernel)) ggX1_make_X0_put
theorem dX1_make_0 : decode cX1_make 0 = .ok (.iload_n 1, 1) := by decide +kernel
theorem dX1_make_1 : decode cX1_make 1 = .ok (.ifCond .lt 19, 3) := by decide +kernel
theorem dX1_make_4 : decode cX1_make 4 = .ok (.iload_n 1, 1) := by decide +kernel
theorem dX1_make_5 : decode cX1_make 5 = .ok (.bipush 15, 2) := by decide +kernel
theorem dX1_make_7 : decode cX1_make 7 = .ok (.if_icmp .gt 13, 3) := by decide +kernel
theorem dX1_make_10 : decode cX1_make 10 = .ok (.iload_n 2, 1) := by decide +kernel
theorem dX1_make_11 : decode cX1_make 11 = .ok (.ifCond .lt 9, 3) := by decide +kernel
theorem dX1_make_14 : decode cX1_make 14 = .ok (.iload_n 2, 1) := by decide +kernel
theorem dX1_make_15 : decode cX1_make 15 = .ok (.bipush 100, 2) := by decide +kernel
theorem dX1_make_17 : decode cX1_make 17 = .ok (.if_icmp .le 5, 3) := by decide +kernel
theorem dX1_make_20 : decode cX1_make 20 = .ok (.iconst (-1), 1) := by decide +kernel
theorem dX1_make_21 : decode cX1_make 21 = .ok (.ireturn, 1) := by decide +kernel
theorem dX1_make_22 : decode cX1_make 22 = .ok (.iload_n 1, 1) := by decide +kernel
theorem dX1_make_23 : decode cX1_make 23 = .ok (.iload_n 2, 1) := by decide +kernel
theorem dX1_make_24 : decode cX1_make 24 = .ok (.invokestatic 66, 3) := by decide +kernel
theorem dX1_make_27 : decode cX1_make 27 = .ok (.istore_n 3, 1) := by decide +kernel
theorem dX1_make_28 : decode cX1_make 28 = .ok (.iload_n 3, 1) := by decide +kernel
theorem dX1_make_29 : decode cX1_make 29 = .ok (.invokestatic 69, 3) := by decide +kernel
theorem dX1_make_32 : decode cX1_make 32 = .ok (.aload_n 0, 1) := by decide +kernel
theorem dX1_make_33 : decode cX1_make 33 = .ok (.getfield 18, 3) := by decide +kernel
theorem dX1_make_36 : decode cX1_make 36 = .ok (.iconst 1, 1) := by decide +kernel
theorem dX1_make_37 : decode cX1_make 37 = .ok (.iadd, 1) := by decide +kernel
theorem dX1_make_38 : decode cX1_make 38 = .ok (.aload_n 0, 1) := by decide +kernel
theorem dX1_make_39 : decode cX1_make 39 = .ok (.getfield 63, 3) := by decide +kernel
theorem dX1_make_42 : decode cX1_make 42 = .ok (.isub, 1) := by decide +kernel
theorem dX1_make_43 : decode cX1_make 43 = .ok (.if_icmp .le 5, 3) := by decide +kernel
theorem dX1_make_46 : decode cX1_make 46 = .ok (.iconst 0, 1) := by decide +kernel
theorem dX1_make_47 : decode cX1_make 47 = .ok (.ireturn, 1) := by decide +kernel
theorem dX1_make_48 : decode cX1_make 48 = .ok (.aload_n 0, 1) := by decide +kernel
theorem dX1_make_49 : decode cX1_make 49 = .ok (.getfield 63, 3) := by decide +kernel
theorem dX1_make_52 : decode cX1_make 52 = .ok (.istore 4, 2) := by decide +kernel
theorem dX1_make_54 : decode cX1_make 54 = .ok (.aload_n 0, 1) := by decide +kernel
theorem dX1_make_55 : decode cX1_make 55 = .ok (.getfield 57, 3) := by decide +kernel
theorem dX1_make_58 : decode cX1_make 58 = .ok (.iload 4, 2) := by decide +kernel
theorem dX1_make_60 : decode cX1_make 60 = .ok (.iload_n 3, 1) := by decide +kernel
theorem dX1_make_61 : decode cX1_make 61 = .ok (.iastore, 1) := by decide +kernel
theorem dX1_make_62 : decode cX1_make 62 = .ok (.aload_n 0, 1) := by decide +kernel
theorem dX1_make_63 : decode cX1_make 63 = .ok (.getfield 54, 3) := by decide +kernel
theorem dX1_make_66 : decode cX1_make 66 = .ok (.iload 4, 2) := by decide +kernel
theorem dX1_make_68 : decode cX1_make 68 = .ok (.invokevirtual 73, 3) := by decide +kernel
theorem dX1_make_71 : decode cX1_make 71 = .ok (.aload_n 0, 1) := by decide +kernel
theorem dX1_make_72 : decode cX1_make 72 = .ok (.dup, 1) := by decide +kernel
theorem dX1_make_73 : decode cX1_make 73 = .ok (.getfield 63, 3) := by decide +kernel
theorem dX1_make_76 : decode cX1_make 76 = .ok (.iload_n 3, 1) := by decide +kernel
theorem dX1_make_77 : decode cX1_make 77 = .ok (.invokestatic 69, 3) := by decide +kernel
theorem dX1_make_80 : decode cX1_make 80 = .ok (.iadd, 1) := by decide +kernel
theorem dX1_make_81 : decode cX1_make 81 = .ok (.putfield 63, 3) := by decide +kernel
theorem dX1_make_84 : decode cX1_make 84 = .ok (.aload_n 0, 1) := by decide +kernel
theorem dX1_make_85 : decode cX1_make 85 = .ok (.dup, 1) := by decide +kernel
theorem dX1_make_86 : decode cX1_make 86 = .ok (.getfield 76, 3) := by decide +kernel
theorem dX1_make_89 : decode cX1_make 89 = .ok (.iconst 1, 1) := by decide +kernel
theorem dX1_make_90 : decode cX1_make 90 = .ok (.iadd, 1) := by decide +kernel
theorem dX1_make_91 : decode cX1_make 91 = .ok (.putfield 76, 3) := by decide +kernel
theorem dX1_make_94 : decode cX1_make 94 = .ok (.iload 4, 2) := by decide +kernel
theorem dX1_make_96 : decode cX1_make 96 = .ok (.ireturn, 1) := by decide +kernel
set_option maxRecDepth 20000 in
theorem ggX1_refer_X1_isObject : GoodIn wsX1_refer wsX1_isObject := goodIn_r _ [6, 7, 8, 9, 10, 11, 12, 13, 14, 22, 23, 24, 25, 26, 27, 28, 29, 30, 31, 32, 33, 34, 35, 36, 37] (by decide +kernel) (by decide +kernel)
set_option maxRecDepth 20000 in
theorem gX1_refer_X1_isObject : GoodIn wsX1_refer (wsV RX1 79 RX1 yX1_isObject wsX1_isObject) := goodIn_app (goodIn_of _ (by decide +kernel)) ggX1_refer_X1_isObject
set_option maxRecDepth 20000 in
theorem ggX1_refer_X1_referencesBy : GoodIn wsX1_refer wsX1_referencesBy := goodIn_r _ [17] (by decide +kernel) (by decide +kernel)
set_option maxRecDepth 20000 in
theorem gX1_refer_X1_referencesBy : GoodIn wsX1_refer (va_wsS RX1 82 yX1_referencesBy wsX1_referencesBy) := goodIn_app (goodIn_of _ (by decide +kernel)) ggX1_refer_X1_referencesBy
set_option maxRecDepth 20000 in
theorem ggX1_refer_X1_isObjectOrNone : GoodIn wsX1_refer wsX1_isObjectOrNone := goodIn_r _ [21, 2, 3, 4, 5, 6, 7, 8, 9, 10, 11, 12, 13, 14, 22, 23, 24, 25, 26, 27, 28, 29, 30, 31, 32, 33, 34, 35, 36, 37] (by decide +kernel) (by decide +kernel)
set_option maxRecDepth 20000 in
theorem gX1_refer_X1_isObjectOrNone : GoodIn wsX1_refer (wsV RX1 85 RX1 yX1_isObjectOrNone wsX1_isObjectOrNone) := goodIn_app (goodIn_of _ (by decide +kernel)) ggX1_refer_X1_isObjectOrNone
theorem dX1_refer_0 : decode cX1_refer 0 = .ok (.aload_n 0, 1) := by decide +kernel
theorem dX1_refer_1 : decode cX1_refer 1 = .ok (.iload_n 1, 1) := by decide +kernel
theorem dX1_refer_2 : decode cX1_refer 2 = .ok (.invokevirtual 79, 3) := by decide +kernel
theorem dX1_refer_5 : decode cX1_refer 5 = .ok (.ifCond .eq 28, 3) := by decide +kernel
theorem dX1_refer_8 : decode cX1_refer 8 = .ok (.iload_n 2, 1) := by decide +kernel
theorem dX1_refer_9 : decode cX1_refer 9 = .ok (.ifCond .lt 24, 3) := by decide +kernel
theorem dX1_refer_12 : decode cX1_refer 12 = .ok (.iload_n 2, 1) := by decide +kernel
theorem dX1_refer_13 : decode cX1_refer 13 = .ok (.aload_n 0, 1) := by decide +kernel
theorem dX1_refer_14 : decode cX1_refer 14 = .ok (.getfield 57, 3) := by decide +kernel
theorem dX1_refer_17 : decode cX1_refer 17 = .ok (.iload_n 1, 1) := by decide +kernel
theorem dX1_refer_18 : decode cX1_refer 18 = .ok (.iaload, 1) := by decide +kernel
theorem dX1_refer_19 : decode cX1_refer 19 = .ok (.invokestatic 82, 3) := by decide +kernel
theorem dX1_refer_22 : decode cX1_refer 22 = .ok (.if_icmp .ge 11, 3) := by decide +kernel
theorem dX1_refer_25 : decode cX1_refer 25 = .ok (.aload_n 0, 1) := by decide +kernel
theorem dX1_refer_26 : decode cX1_refer 26 = .ok (.iload_n 3, 1) := by decide +kernel
theorem dX1_refer_27 : decode cX1_refer 27 = .ok (.invokevirtual 85, 3) := by decide +kernel
theorem dX1_refer_30 : decode cX1_refer 30 = .ok (.ifCond .ne 5, 3) := by decide +kernel
theorem dX1_refer_33 : decode cX1_refer 33 = .ok (.iconst 0, 1) := by decide +kernel
theorem dX1_refer_34 : decode cX1_refer 34 = .ok (.ireturn, 1) := by decide +kernel
theorem dX1_refer_35 : decode cX1_refer 35 = .ok (.aload_n 0, 1) := by decide +kernel
theorem dX1_refer_36 : decode cX1_refer 36 = .ok (.getfield 57, 3) := by decide +kernel
theorem dX1_refer_39 : decode cX1_refer 39 = .ok (.iload_n 1, 1) := by decide +kernel
theorem dX1_refer_40 : decode cX1_refer 40 = .ok (.iconst 1, 1) := by decide +kernel
theorem dX1_refer_41 : decode cX1_refer 41 = .ok (.iadd, 1) := by decide +kernel
theorem dX1_refer_42 : decode cX1_refer 42 = .ok (.iload_n 2, 1) := by decide +kernel
theorem dX1_refer_43 : decode cX1_refer 43 = .ok (.iadd, 1) := by decide +kernel
theorem dX1_refer_44 : decode cX1_refer 44 = .ok (.iload_n 3, 1) := by decide +kernel
theorem dX1_refer_45 : decode cX1_refer 45 = .ok (.iastore, 1) := by decide +kernel
theorem dX1_refer_46 : decode cX1_refer 46 = .ok (.iconst 1, 1) := by decide +kernel
theorem dX1_refer_47 : decode cX1_refer 47 = .ok (.ireturn, 1) := by decide +kernel
set_option maxRecDepth 20000 in
theorem ggX1_set_X1_isObject : GoodIn wsX1_set wsX1_isObject := goodIn_r _ [6, 7, 8, 9, 10, 11, 12, 13, 14, 21, 22, 23, 24, 25, 26, 27, 28, 29, 30, 31, 32, 33, 34, 35, 36] (by decide +kernel) (by decide +kernel)
set_option maxRecDepth 20000 in
theorem gX1_set_X1_isObject : GoodIn wsX1_set (wsV RX1 79 RX1 yX1_isObject wsX1_isObject) := goodIn_app (goodIn_of _ (by decide +kernel)) ggX1_set_X1_isObject
set_option maxRecDepth 20000 in
theorem ggX1_set_X1_plainBy : GoodIn wsX1_set wsX1_plainBy := goodIn_r _ [17] (by decide +kernel) (by decide +kernel)
set_option maxRecDepth 20000 in
theorem gX1_set_X1_plainBy : GoodIn wsX1_set (va_wsS RX1 88 yX1_plainBy wsX1_plainBy) := goodIn_app (goodIn_of _ (by decide +kernel)) ggX1_set_X1_plainBy
set_option maxRecDepth 20000 in
theorem ggX1_set_X1_referencesBy : GoodIn wsX1_set wsX1_referencesBy := goodIn_r _ [20] (by decide +kernel) (by decide +kernel)
set_option maxRecDepth 20000 in
theorem gX1_set_X1_referencesBy : GoodIn wsX1_set (va_wsS RX1 82 yX1_referencesBy wsX1_referencesBy) := goodIn_app (goodIn_of _ (by decide +kernel)) ggX1_set_X1_referencesBy
theorem dX1_set_0 : decode cX1_set 0 = .ok (.aload_n 0, 1) := by decide +kernel
theorem dX1_set_1 : decode cX1_set 1 = .ok (.iload_n 1, 1) := by decide +kernel
theorem dX1_set_2 : decode cX1_set 2 = .ok (.invokevirtual 79, 3) := by decide +kernel
theorem dX1_set_5 : decode cX1_set 5 = .ok (.ifCond .eq 20, 3) := by decide +kernel
theorem dX1_set_8 : decode cX1_set 8 = .ok (.iload_n 2, 1) := by decide +kernel
theorem dX1_set_9 : decode cX1_set 9 = .ok (.ifCond .lt 16, 3) := by decide +kernel
theorem dX1_set_12 : decode cX1_set 12 = .ok (.iload_n 2, 1) := by decide +kernel
theorem dX1_set_13 : decode cX1_set 13 = .ok (.aload_n 0, 1) := by decide +kernel
theorem dX1_set_14 : decode cX1_set 14 = .ok (.getfield 57, 3) := by decide +kernel
theorem dX1_set_17 : decode cX1_set 17 = .ok (.iload_n 1, 1) := by decide +kernel
theorem dX1_set_18 : decode cX1_set 18 = .ok (.iaload, 1) := by decide +kernel
theorem dX1_set_19 : decode cX1_set 19 = .ok (.invokestatic 88, 3) := by decide +kernel
theorem dX1_set_22 : decode cX1_set 22 = .ok (.if_icmp .lt 5, 3) := by decide +kernel
theorem dX1_set_25 : decode cX1_set 25 = .ok (.iconst 0, 1) := by decide +kernel
theorem dX1_set_26 : decode cX1_set 26 = .ok (.ireturn, 1) := by decide +kernel
theorem dX1_set_27 : decode cX1_set 27 = .ok (.aload_n 0, 1) := by decide +kernel
theorem dX1_set_28 : decode cX1_set 28 = .ok (.getfield 57, 3) := by decide +kernel
theorem dX1_set_31 : decode cX1_set 31 = .ok (.iload_n 1, 1) := by decide +kernel
theorem dX1_set_32 : decode cX1_set 32 = .ok (.iconst 1, 1) := by decide +kernel
theorem dX1_set_33 : decode cX1_set 33 = .ok (.iadd, 1) := by decide +kernel
theorem dX1_set_34 : decode cX1_set 34 = .ok (.aload_n 0, 1) := by decide +kernel
theorem dX1_set_35 : decode cX1_set 35 = .ok (.getfield 57, 3) := by decide +kernel
theorem dX1_set_38 : decode cX1_set 38 = .ok (.iload_n 1, 1) := by decide +kernel
theorem dX1_set_39 : decode cX1_set 39 = .ok (.iaload, 1) := by decide +kernel
theorem dX1_set_40 : decode cX1_set 40 = .ok (.invokestatic 82, 3) := by decide +kernel
theorem dX1_set_43 : decode cX1_set 43 = .ok (.iadd, 1) := by decide +kernel
theorem dX1_set_44 : decode cX1_set 44 = .ok (.iload_n 2, 1) := by decide +kernel
theorem dX1_set_45 : decode cX1_set 45 = .ok (.iadd, 1) := by decide +kernel
theorem dX1_set_46 : decode cX1_set 46 = .ok (.iload_n 3, 1) := by decide +kernel
theorem dX1_set_47 : decode cX1_set 47 = .ok (.iastore, 1) := by decide +kernel
theorem dX1_set_48 : decode cX1_set 48 = .ok (.iconst 1, 1) := by decide +kernel
theorem dX1_set_49 : decode cX1_set 49 = .ok (.ireturn, 1) := by decide +kernel
set_option maxRecDepth 20000 in
theorem ggX1_root_X1_isRoot : GoodIn wsX1_root wsX1_isRoot := goodIn_r _ [5] (by decide +kernel) (by decide +kernel)
set_option maxRecDepth 20000 in
theorem gX1_root_X1_isRoot : GoodIn wsX1_root (va_wsS RX1 91 yX1_isRoot wsX1_isRoot) := goodIn_app (goodIn_of _ (by decide +kernel)) ggX1_root_X1_isRoot
set_option maxRecDepth 20000 in
theorem ggX1_root_X1_isObjectOrNone : GoodIn wsX1_root wsX1_isObjectOrNone := goodIn_r _ [9, 10, 11, 12, 4, 13, 14, 15, 16, 17, 18, 19, 20, 21, 22, 23, 24, 25, 26, 27, 28, 29, 30, 31, 32, 33, 34, 35, 36, 37] (by decide +kernel) (by decide +kernel)
set_option maxRecDepth 20000 in
theorem gX1_root_X1_isObjectOrNone : GoodIn wsX1_root (wsV RX1 85 RX1 yX1_isObjectOrNone wsX1_isObjectOrNone) := goodIn_app (goodIn_of _ (by decide +kernel)) ggX1_root_X1_isObjectOrNone
theorem dX1_root_0 : decode cX1_root 0 = .ok (.iload_n 1, 1) := by decide +kernel
theorem dX1_root_1 : decode cX1_root 1 = .ok (.invokestatic 91, 3) := by decide +kernel
theorem dX1_root_4 : decode cX1_root 4 = .ok (.ifCond .eq 11, 3) := by decide +kernel
theorem dX1_root_7 : decode cX1_root 7 = .ok (.aload_n 0, 1) := by decide +kernel
theorem dX1_root_8 : decode cX1_root 8 = .ok (.iload_n 2, 1) := by decide +kernel
theorem dX1_root_9 : decode cX1_root 9 = .ok (.invokevirtual 85, 3) := by decide +kernel
theorem dX1_root_12 : decode cX1_root 12 = .ok (.ifCond .ne 5, 3) := by decide +kernel
theorem dX1_root_15 : decode cX1_root 15 = .ok (.iconst 0, 1) := by decide +kernel
theorem dX1_root_16 : decode cX1_root 16 = .ok (.ireturn, 1) := by decide +kernel
theorem dX1_root_17 : decode cX1_root 17 = .ok (.aload_n 0, 1) := by decide +kernel
theorem dX1_root_18 : decode cX1_root 18 = .ok (.getfield 32, 3) := by decide +kernel
theorem dX1_root_21 : decode cX1_root 21 = .ok (.iload_n 1, 1) := by decide +kernel
theorem dX1_root_22 : decode cX1_root 22 = .ok (.iload_n 2, 1) := by decide +kernel
theorem dX1_root_23 : decode cX1_root 23 = .ok (.iastore, 1) := by decide +kernel
theorem dX1_root_24 : decode cX1_root 24 = .ok (.iconst 1, 1) := by decide +kernel
theorem dX1_root_25 : decode cX1_root 25 = .ok (.ireturn, 1) := by decide +kernel
set_option maxRecDepth 20000 in
theorem ggX1_collect_X1_markLiving : GoodIn wsX1_collect wsX1_markLiving := goodIn_r _ [7, 8, 9, 10, 11, 12, 13, 14, 6, 15, 16, 17, 18, 19, 20, 21, 22, 23, 24, 25, 26, 27, 28, 29, 30, 31, 32, 33, 34, 35, 36, 37, 38, 39, 40, 41, 42, 43, 44, 45, 46, 47, 48, 49, 50, 51, 52, 98, 99, 100, 101, 102, 103, 104, 105, 106, 107, 108, 109, 110, 111, 112, 113] (by decide +kernel) (by decide +kernel)
set_option maxRecDepth 20000 in
theorem gX1_collect_X1_markLiving : GoodIn wsX1_collect (wsV RX1 94 RX1 yX1_markLiving wsX1_markLiving) := goodIn_app (goodIn_of _ (by decide +kernel)) ggX1_collect_X1_markLiving
set_option maxRecDepth 20000 in
theorem ggX1_collect_X1_fillOffsets : GoodIn wsX1_collect wsX1_fillOffsets := goodIn_r _ [56, 8, 57, 58, 9, 32, 33, 34, 21, 35, 23, 98, 99, 100, 101, 102, 103, 104, 105, 106, 107, 108, 109, 110, 111, 112, 113] (by decide +kernel) (by decide +kernel)
set_option maxRecDepth 20000 in
theorem gX1_collect_X1_fillOffsets : GoodIn wsX1_collect (wsV RX1 97 RX1 yX1_fillOffsets wsX1_fillOffsets) := goodIn_app (goodIn_of _ (by decide +kernel)) ggX1_collect_X1_fillOffsets
set_option maxRecDepth 20000 in
theorem ggX1_collect_X1_copyLiving : GoodIn wsX1_collect wsX1_copyLiving := goodIn_r _ [62, 63, 64, 65, 66, 1, 9, 11, 67, 68, 26, 69, 18, 19, 20, 21, 22, 23, 24, 25, 27, 32, 33, 34, 35, 70, 71, 72, 6, 73, 57, 58, 74, 75, 76, 77, 78, 79, 80, 81, 82, 83, 84, 85, 86, 87, 88, 89, 44, 45, 46, 50, 51, 52, 36, 37, 38, 39, 98, 99, 100, 101, 102, 103, 104, 105, 106, 107, 108, 109, 110, 111, 112, 113] (by decide +kernel) (by decide +kernel)
set_option maxRecDepth 20000 in
theorem gX1_collect_X1_copyLiving : GoodIn wsX1_collect (wsV RX1 101 RX1 yX1_copyLiving wsX1_copyLiving) := goodIn_app (goodIn_of _ (by decide +kernel)) ggX1_collect_X1_copyLiving
set_option maxRecDepth 20000 in
theorem ggX1_collect_X1_leadRootsAnew : GoodIn wsX1_collect wsX1_leadRootsAnew := goodIn_r _ [93, 17, 86, 87, 88, 6, 89, 70, 71, 72, 73, 57, 58, 9, 74, 75, 76, 21, 77, 78, 23, 79, 80, 81, 82, 83, 84, 85, 98, 99, 100, 101, 102, 103, 104, 105, 106, 107, 108, 109, 110, 111, 112, 113] (by decide +kernel) (by decide +kernel)
set_option maxRecDepth 20000 in
theorem gX1_collect_X1_leadRootsAnew : GoodIn wsX1_collect (wsV RX1 104 RX1 yX1_leadRootsAnew wsX1_leadRootsAnew) := goodIn_app (goodIn_of _ (by decide +kernel)) ggX1_collect_X1_leadRootsAnew
set_option maxRecDepth 20000 in
theorem ggX1_collect_X1_swapSpaces : GoodIn wsX1_collect wsX1_swapSpaces := goodIn_r _ [97, 11, 63, 98, 99, 100, 101, 102, 103, 104, 105, 106, 107, 108, 109, 110, 111, 112] (by decide +kernel) (by decide +kernel)
set_option maxRecDepth 20000 in
theorem gX1_collect_X1_swapSpaces : GoodIn wsX1_collect (wsV RX1 107 RX1 yX1_swapSpaces wsX1_swapSpaces) := goodIn_app (goodIn_of _ (by decide +kernel)) ggX1_collect_X1_swapSpaces
theorem dX1_collect_0 : decode cX1_collect 0 = .ok (.aload_n 0, 1) := by decide +kernel
theorem dX1_collect_1 : decode cX1_collect 1 = .ok (.invokevirtual 94, 3) := by decide +kernel
theorem dX1_collect_4 : decode cX1_collect 4 = .ok (.aload_n 0, 1) := by decide +kernel
theorem dX1_collect_5 : decode cX1_collect 5 = .ok (.invokevirtual 97, 3) := by decide +kernel
theorem dX1_collect_8 : decode cX1_collect 8 = .ok (.istore_n 1, 1) := by decide +kernel
theorem dX1_collect_9 : decode cX1_collect 9 = .ok (.aload_n 0, 1) := by decide +kernel
theorem dX1_collect_10 : decode cX1_collect 10 = .ok (.invokevirtual 101, 3) := by decide +kernel
theorem dX1_collect_13 : decode cX1_collect 13 = .ok (.aload_n 0, 1) := by decide +kernel
theorem dX1_collect_14 : decode cX1_collect 14 = .ok (.invokevirtual 104, 3) := by decide +kernel
theorem dX1_collect_17 : decode cX1_collect 17 = .ok (.aload_n 0, 1) := by decide +kernel
theorem dX1_collect_18 : decode cX1_collect 18 = .ok (.invokevirtual 107, 3) := by decide +kernel
theorem dX1_collect_21 : decode cX1_collect 21 = .ok (.aload_n 0, 1) := by decide +kernel
theorem dX1_collect_22 : decode cX1_collect 22 = .ok (.iconst 1, 1) := by decide +kernel
theorem dX1_collect_23 : decode cX1_collect 23 = .ok (.iload_n 1, 1) := by decide +kernel
theorem dX1_collect_24 : decode cX1_collect 24 = .ok (.iadd, 1) := by decide +kernel
theorem dX1_collect_25 : decode cX1_collect 25 = .ok (.putfield 63, 3) := by decide +kernel
theorem dX1_collect_28 : decode cX1_collect 28 = .ok (.aload_n 0, 1) := by decide +kernel
theorem dX1_collect_29 : decode cX1_collect 29 = .ok (.dup, 1) := by decide +kernel
theorem dX1_collect_30 : decode cX1_collect 30 = .ok (.getfield 110, 3) := by decide +kernel
theorem dX1_collect_33 : decode cX1_collect 33 = .ok (.iconst 1, 1) := by decide +kernel
theorem dX1_collect_34 : decode cX1_collect 34 = .ok (.iadd, 1) := by decide +kernel
theorem dX1_collect_35 : decode cX1_collect 35 = .ok (.putfield 110, 3) := by decide +kernel
theorem dX1_collect_38 : decode cX1_collect 38 = .ok (.iload_n 1, 1) := by decide +kernel
theorem dX1_collect_39 : decode cX1_collect 39 = .ok (.ireturn, 1) := by decide +kernel
set_option maxRecDepth 20000 in
theorem ggX1_word_X1_isWord : GoodIn wsX1_word wsX1_isWord := goodIn_r _ [6, 7, 8, 9, 10, 11, 12, 13, 14, 15, 16, 17, 18, 19, 20, 21, 22] (by decide +kernel) (by decide +kernel)
set_option maxRecDepth 20000 in
theorem gX1_word_X1_isWord : GoodIn wsX1_word (wsV RX1 113 RX1 yX1_isWord wsX1_isWord) := goodIn_app (goodIn_of _ (by decide +kernel)) ggX1_word_X1_isWord
theorem dX1_word_0 : decode cX1_word 0 = .ok (.aload_n 0, 1) := by decide +kernel
theorem dX1_word_1 : decode cX1_word 1 = .ok (.iload_n 1, 1) := by decide +kernel
theorem dX1_word_2 : decode cX1_word 2 = .ok (.invokevirtual 113, 3) := by decide +kernel
theorem dX1_word_5 : decode cX1_word 5 = .ok (.ifCond .eq 12, 3) := by decide +kernel
theorem dX1_word_8 : decode cX1_word 8 = .ok (.aload_n 0, 1) := by decide +kernel
theorem dX1_word_9 : decode cX1_word 9 = .ok (.getfield 57, 3) := by decide +kernel
theorem dX1_word_12 : decode cX1_word 12 = .ok (.iload_n 1, 1) := by decide +kernel
theorem dX1_word_13 : decode cX1_word 13 = .ok (.iaload, 1) := by decide +kernel
theorem dX1_word_14 : decode cX1_word 14 = .ok (.goto 4, 3) := by decide +kernel
theorem dX1_word_17 : decode cX1_word 17 = .ok (.iconst (-1), 1) := by decide +kernel
theorem dX1_word_18 : decode cX1_word 18 = .ok (.ireturn, 1) := by decide +kernel
set_option maxRecDepth 20000 in
theorem ggX1_isObject_X0_has : GoodIn wsX1_isObject wsX0_has := goodIn_r _ [7, 8, 24] (by decide +kernel) (by decide +kernel)
set_option maxRecDepth 20000 in
theorem gX1_isObject_X0_has : GoodIn wsX1_isObject (wsV RX1 116 RX0 yX0_has wsX0_has) := goodIn_app (goodIn_of _ (by decide +kernel)) ggX1_isObject_X0_has
theorem dX1_isObject_0 : decode cX1_isObject 0 = .ok (.iload_n 1, 1) := by decide +kernel
theorem dX1_isObject_1 : decode cX1_isObject 1 = .ok (.iconst 1, 1) := by decide +kernel
theorem dX1_isObject_2 : decode cX1_isObject 2 = .ok (.if_icmp .lt 26, 3) := by decide +kernel
theorem dX1_isObject_5 : decode cX1_isObject 5 = .ok (.iload_n 1, 1) := by decide +kernel
theorem dX1_isObject_6 : decode cX1_isObject 6 = .ok (.aload_n 0, 1) := by decide +kernel
theorem dX1_isObject_7 : decode cX1_isObject 7 = .ok (.getfield 63, 3) := by decide +kernel
theorem dX1_isObject_10 : decode cX1_isObject 10 = .ok (.if_icmp .ge 18, 3) := by decide +kernel
theorem dX1_isObject_13 : decode cX1_isObject 13 = .ok (.aload_n 0, 1) := by decide +kernel
theorem dX1_isObject_14 : decode cX1_isObject 14 = .ok (.getfield 54, 3) := by decide +kernel
theorem dX1_isObject_17 : decode cX1_isObject 17 = .ok (.iload_n 1, 1) := by decide +kernel
theorem dX1_isObject_18 : decode cX1_isObject 18 = .ok (.invokevirtual 116, 3) := by decide +kernel
theorem dX1_isObject_21 : decode cX1_isObject 21 = .ok (.ifCond .eq 7, 3) := by decide +kernel
theorem dX1_isObject_24 : decode cX1_isObject 24 = .ok (.iconst 1, 1) := by decide +kernel
theorem dX1_isObject_25 : decode cX1_isObject 25 = .ok (.goto 4, 3) := by decide +kernel
theorem dX1_isObject_28 : decode cX1_isObject 28 = .ok (.iconst 0, 1) := by decide +kernel
theorem dX1_isObject_29 : decode cX1_isObject 29 = .ok (.ireturn, 1) := by decide +kernel
set_option maxRecDepth 20000 in
theorem ggX1_rootOf_X1_isRoot : GoodIn wsX1_rootOf wsX1_isRoot := goodIn_r _ [5] (by decide +kernel) (by decide +kernel)
set_option maxRecDepth 20000 in
theorem gX1_rootOf_X1_isRoot : GoodIn wsX1_rootOf (va_wsS RX1 91 yX1_isRoot wsX1_isRoot) := goodIn_app (goodIn_of _ (by decide +kernel)) ggX1_rootOf_X1_isRoot
theorem dX1_rootOf_0 : decode cX1_rootOf 0 = .ok (.iload_n 1, 1) := by decide +kernel
theorem dX1_rootOf_1 : decode cX1_rootOf 1 = .ok (.invokestatic 91, 3) := by decide +kernel
theorem dX1_rootOf_4 : decode cX1_rootOf 4 = .ok (.ifCond .eq 12, 3) := by decide +kernel
theorem dX1_rootOf_7 : decode cX1_rootOf 7 = .ok (.aload_n 0, 1) := by decide +kernel
theorem dX1_rootOf_8 : decode cX1_rootOf 8 = .ok (.getfield 32, 3) := by decide +kernel
theorem dX1_rootOf_11 : decode cX1_rootOf 11 = .ok (.iload_n 1, 1) := by decide +kernel
theorem dX1_rootOf_12 : decode cX1_rootOf 12 = .ok (.iaload, 1) := by decide +kernel
theorem dX1_rootOf_13 : decode cX1_rootOf 13 = .ok (.goto 4, 3) := by decide +kernel
theorem dX1_rootOf_16 : decode cX1_rootOf 16 = .ok (.iconst (-1), 1) := by decide +kernel
theorem dX1_rootOf_17 : decode cX1_rootOf 17 = .ok (.ireturn, 1) := by decide +kernel
set_option maxRecDepth 20000 in
theorem ggX1_bit_X1_isWord : GoodIn wsX1_bit wsX1_isWord := goodIn_r _ [6, 7, 14, 15, 16, 17, 18, 19, 20, 21, 22, 23, 24, 25, 26, 27, 28] (by decide +kernel) (by decide +kernel)
set_option maxRecDepth 20000 in
theorem gX1_bit_X1_isWord : GoodIn wsX1_bit (wsV RX1 113 RX1 yX1_isWord wsX1_isWord) := goodIn_app (goodIn_of _ (by decide +kernel)) ggX1_bit_X1_isWord
set_option maxRecDepth 20000 in
theorem ggX1_bit_X0_has : GoodIn wsX1_bit wsX0_has := goodIn_r _ [12, 13, 29] (by decide +kernel) (by decide +kernel)
set_option maxRecDepth 20000 in
theorem gX1_bit_X0_has : GoodIn wsX1_bit (wsV RX1 116 RX0 yX0_has wsX0_has) := goodIn_app (goodIn_of _ (by decide +kernel)) ggX1_bit_X0_has
theorem dX1_bit_0 : decode cX1_bit 0 = .ok (.aload_n 0, 1) := by decide +kernel
theorem dX1_bit_1 : decode cX1_bit 1 = .ok (.iload_n 1, 1) := by decide +kernel
theorem dX1_bit_2 : decode cX1_bit 2 = .ok (.invokevirtual 113, 3) := by decide +kernel
theorem dX1_bit_5 : decode cX1_bit 5 = .ok (.ifCond .ne 5, 3) := by decide +kernel
theorem dX1_bit_8 : decode cX1_bit 8 = .ok (.iconst (-1), 1) := by decide +kernel
theorem dX1_bit_9 : decode cX1_bit 9 = .ok (.ireturn, 1) := by decide +kernel
theorem dX1_bit_10 : decode cX1_bit 10 = .ok (.aload_n 0, 1) := by decide +kernel
theorem dX1_bit_11 : decode cX1_bit 11 = .ok (.getfield 41, 3) := by decide +kernel
theorem dX1_bit_14 : decode cX1_bit 14 = .ok (.iload_n 1, 1) := by decide +kernel
theorem dX1_bit_15 : decode cX1_bit 15 = .ok (.invokevirtual 116, 3) := by decide +kernel
theorem dX1_bit_18 : decode cX1_bit 18 = .ok (.ifCond .eq 7, 3) := by decide +kernel
theorem dX1_bit_21 : decode cX1_bit 21 = .ok (.iconst 1, 1) := by decide +kernel
theorem dX1_bit_22 : decode cX1_bit 22 = .ok (.goto 4, 3) := by decide +kernel
theorem dX1_bit_25 : decode cX1_bit 25 = .ok (.iconst 0, 1) := by decide +kernel
theorem dX1_bit_26 : decode cX1_bit 26 = .ok (.ireturn, 1) := by decide +kernel
theorem dX1_offset_0 : decode cX1_offset 0 = .ok (.iload_n 1, 1) := by decide +kernel
theorem dX1_offset_1 : decode cX1_offset 1 = .ok (.ifCond .lt 20, 3) := by decide +kernel
theorem dX1_offset_4 : decode cX1_offset 4 = .ok (.iload_n 1, 1) := by decide +kernel
theorem dX1_offset_5 : decode cX1_offset 5 = .ok (.aload_n 0, 1) := by decide +kernel
theorem dX1_offset_6 : decode cX1_offset 6 = .ok (.getfield 29, 3) := by decide +kernel
theorem dX1_offset_9 : decode cX1_offset 9 = .ok (.if_icmp .ge 12, 3) := by decide +kernel
theorem dX1_offset_12 : decode cX1_offset 12 = .ok (.aload_n 0, 1) := by decide +kernel
theorem dX1_offset_13 : decode cX1_offset 13 = .ok (.getfield 45, 3) := by decide +kernel
theorem dX1_offset_16 : decode cX1_offset 16 = .ok (.iload_n 1, 1) := by decide +kernel
theorem dX1_offset_17 : decode cX1_offset 17 = .ok (.iaload, 1) := by decide +kernel
theorem dX1_offset_18 : decode cX1_offset 18 = .ok (.goto 4, 3) := by decide +kernel
theorem dX1_offset_21 : decode cX1_offset 21 = .ok (.iconst (-1), 1) := by decide +kernel
theorem dX1_offset_22 : decode cX1_offset 22 = .ok (.ireturn, 1) := by decide +kernel
set_option maxRecDepth 20000 in
theorem ggX1_moved_X1_isWord : GoodIn wsX1_moved wsX1_isWord := goodIn_r _ [6, 7, 32, 33, 34, 35, 36, 37, 38, 39, 40, 41, 42, 43, 44, 45, 46] (by decide +kernel) (by decide +kernel)
set_option maxRecDepth 20000 in
theorem gX1_moved_X1_isWord : GoodIn wsX1_moved (wsV RX1 113 RX1 yX1_isWord wsX1_isWord) := goodIn_app (goodIn_of _ (by decide +kernel)) ggX1_moved_X1_isWord
set_option maxRecDepth 20000 in
theorem ggX1_moved_X0_has : GoodIn wsX1_moved wsX0_has := goodIn_r _ [12, 13, 47] (by decide +kernel) (by decide +kernel)
set_option maxRecDepth 20000 in
theorem gX1_moved_X0_has : GoodIn wsX1_moved (wsV RX1 116 RX0 yX0_has wsX0_has) := goodIn_app (goodIn_of _ (by decide +kernel)) ggX1_moved_X0_has
set_option maxRecDepth 20000 in
theorem ggX1_moved_X1_newAddress : GoodIn wsX1_moved wsX1_newAddress := goodIn_r _ [17, 18, 19, 1, 20, 21, 22, 11, 23, 24, 13, 25, 26, 27, 28, 29, 30, 31, 32, 33, 34, 35, 36, 37, 38, 39, 40, 41, 42, 43, 44, 45, 46, 47] (by decide +kernel) (by decide +kernel)
set_option maxRecDepth 20000 in
theorem gX1_moved_X1_newAddress : GoodIn wsX1_moved (wsV RX1 119 RX1 yX1_newAddress wsX1_newAddress) := goodIn_app (goodIn_of _ (by decide +kernel)) ggX1_moved_X1_newAddress
theorem dX1_moved_0 : decode cX1_moved 0 = .ok (.aload_n 0, 1) := by decide +kernel
theorem dX1_moved_1 : decode cX1_moved 1 = .ok (.iload_n 1, 1) := by decide +kernel
theorem dX1_moved_2 : decode cX1_moved 2 = .ok (.invokevirtual 113, 3) := by decide +kernel
theorem dX1_moved_5 : decode cX1_moved 5 = .ok (.ifCond .ne 5, 3) := by decide +kernel
theorem dX1_moved_8 : decode cX1_moved 8 = .ok (.iconst (-1), 1) := by decide +kernel
theorem dX1_moved_9 : decode cX1_moved 9 = .ok (.ireturn, 1) := by decide +kernel
theorem dX1_moved_10 : decode cX1_moved 10 = .ok (.aload_n 0, 1) := by decide +kernel
theorem dX1_moved_11 : decode cX1_moved 11 = .ok (.getfield 41, 3) := by decide +kernel
theorem dX1_moved_14 : decode cX1_moved 14 = .ok (.iload_n 1, 1) := by decide +kernel
theorem dX1_moved_15 : decode cX1_moved 15 = .ok (.invokevirtual 116, 3) := by decide +kernel
theorem dX1_moved_18 : decode cX1_moved 18 = .ok (.ifCond .eq 11, 3) := by decide +kernel
theorem dX1_moved_21 : decode cX1_moved 21 = .ok (.aload_n 0, 1) := by decide +kernel
theorem dX1_moved_22 : decode cX1_moved 22 = .ok (.iload_n 1, 1) := by decide +kernel
theorem dX1_moved_23 : decode cX1_moved 23 = .ok (.invokevirtual 119, 3) := by decide +kernel
theorem dX1_moved_26 : decode cX1_moved 26 = .ok (.goto 4, 3) := by decide +kernel
theorem dX1_moved_29 : decode cX1_moved 29 = .ok (.iconst 0, 1) := by decide +kernel
theorem dX1_moved_30 : decode cX1_moved 30 = .ok (.ireturn, 1) := by decide +kernel
theorem dX1_reads_0 : decode cX1_reads 0 = .ok (.aload_n 0, 1) := by decide +kernel
theorem dX1_reads_1 : decode cX1_reads 1 = .ok (.getfield 122, 3) := by decide +kernel
theorem dX1_reads_4 : decode cX1_reads 4 = .ok (.ireturn, 1) := by decide +kernel
set_option maxRecDepth 20000 in
theorem ggX1_near_X1_findWithin : GoodIn wsX1_near wsX1_findWithin := goodIn_r _ [5, 6, 7, 8, 9, 10, 11, 12, 13, 14, 15, 16, 17, 18, 19, 20, 21, 4, 22, 23, 24, 25, 26, 27, 28, 29, 30, 31, 32, 33, 34, 35, 36, 37, 38, 39, 40, 41, 42, 43, 44, 45, 46, 47, 48, 49, 50, 51, 52, 53, 54] (by decide +kernel) (by decide +kernel)
set_option maxRecDepth 20000 in
theorem gX1_near_X1_findWithin : GoodIn wsX1_near (wsV RX1 125 RX1 yX1_findWithin wsX1_findWithin) := goodIn_app (goodIn_of _ (by decide +kernel)) ggX1_near_X1_findWithin
theorem dX1_near_0 : decode cX1_near 0 = .ok (.iload_n 1, 1) := by decide +kernel
theorem dX1_near_1 : decode cX1_near 1 = .ok (.ifCond .lt 17, 3) := by decide +kernel
theorem dX1_near_4 : decode cX1_near 4 = .ok (.iload_n 1, 1) := by decide +kernel
theorem dX1_near_5 : decode cX1_near 5 = .ok (.bipush 100, 2) := by decide +kernel
theorem dX1_near_7 : decode cX1_near 7 = .ok (.if_icmp .gt 11, 3) := by decide +kernel
theorem dX1_near_10 : decode cX1_near 10 = .ok (.aload_n 0, 1) := by decide +kernel
theorem dX1_near_11 : decode cX1_near 11 = .ok (.iload_n 1, 1) := by decide +kernel
theorem dX1_near_12 : decode cX1_near 12 = .ok (.invokevirtual 125, 3) := by decide +kernel
theorem dX1_near_15 : decode cX1_near 15 = .ok (.goto 4, 3) := by decide +kernel
theorem dX1_near_18 : decode cX1_near 18 = .ok (.iconst (-1), 1) := by decide +kernel
theorem dX1_near_19 : decode cX1_near 19 = .ok (.ireturn, 1) := by decide +kernel
set_option maxRecDepth 20000 in
theorem ggX1_sound_X1_objectsLieInARow : GoodIn wsX1_sound wsX1_objectsLieInARow := goodIn_r _ [5, 6, 7, 8, 9, 10, 11, 12, 13, 14, 15, 16, 4, 17, 18, 19, 20, 21, 22, 23, 69, 70, 71, 72, 73, 74, 75, 76, 77, 78, 79, 80, 81, 82, 83, 84] (by decide +kernel) (by decide +kernel)
set_option maxRecDepth 20000 in
theorem gX1_sound_X1_objectsLieInARow : GoodIn wsX1_sound (wsV RX1 128 RX1 yX1_objectsLieInARow wsX1_objectsLieInARow) := goodIn_app (goodIn_of _ (by decide +kernel)) ggX1_sound_X1_objectsLieInARow
set_option maxRecDepth 20000 in
theorem ggX1_sound_X1_rootsLeadToHeaders : GoodIn wsX1_sound wsX1_rootsLeadToHeaders := goodIn_r _ [27, 28, 29, 30, 31, 4, 32, 33, 34, 35, 36, 6, 7, 9, 10, 11, 12, 13, 14, 69, 70, 71, 72, 73, 74, 75, 76, 77, 78, 79, 80, 81, 82, 83, 84] (by decide +kernel) (by decide +kernel)
set_option maxRecDepth 20000 in
theorem gX1_sound_X1_rootsLeadToHeaders : GoodIn wsX1_sound (wsV RX1 132 RX1 yX1_rootsLeadToHeaders wsX1_rootsLeadToHeaders) := goodIn_app (goodIn_of _ (by decide +kernel)) ggX1_sound_X1_rootsLeadToHeaders
set_option maxRecDepth 20000 in
theorem ggX1_sound_X1_referencesLeadToHeaders : GoodIn wsX1_sound wsX1_referencesLeadToHeaders := goodIn_r _ [40, 6, 7, 9, 10, 11, 12, 13, 14, 41, 42, 43, 4, 44, 8, 18, 19, 20, 29, 30, 31, 32, 33, 34, 35, 36, 69, 70, 71, 72, 73, 74, 75, 76, 77, 78, 79, 80, 81, 82, 83, 84] (by decide +kernel) (by decide +kernel)
set_option maxRecDepth 20000 in
theorem gX1_sound_X1_referencesLeadToHeaders : GoodIn wsX1_sound (wsV RX1 135 RX1 yX1_referencesLeadToHeaders wsX1_referencesLeadToHeaders) := goodIn_app (goodIn_of _ (by decide +kernel)) ggX1_sound_X1_referencesLeadToHeaders
set_option maxRecDepth 20000 in
theorem ggX1_sound_X1_newAddressesFollowFromBits : GoodIn wsX1_sound wsX1_newAddressesFollowFromBits := goodIn_r _ [48, 49, 50, 9, 10, 11, 12, 13, 14, 51, 52, 53, 4, 54, 55, 56, 57, 58, 59, 60, 61, 62, 63, 64, 65, 66, 67, 68, 69, 70, 71, 72, 73, 74, 75, 76, 77, 78, 79, 80, 81, 82, 83, 84] (by decide +kernel) (by decide +kernel)
set_option maxRecDepth 20000 in
theorem gX1_sound_X1_newAddressesFollowFromBits : GoodIn wsX1_sound (wsV RX1 138 RX1 yX1_newAddressesFollowFromBits wsX1_newAddressesFollowFromBits) := goodIn_app (goodIn_of _ (by decide +kernel)) ggX1_sound_X1_newAddressesFollowFromBits
theorem dX1_sound_0 : decode cX1_sound 0 = .ok (.aload_n 0, 1) := by decide +kernel
theorem dX1_sound_1 : decode cX1_sound 1 = .ok (.invokevirtual 128, 3) := by decide +kernel
theorem dX1_sound_4 : decode cX1_sound 4 = .ok (.ifCond .eq 28, 3) := by decide +kernel
theorem dX1_sound_7 : decode cX1_sound 7 = .ok (.aload_n 0, 1) := by decide +kernel
theorem dX1_sound_8 : decode cX1_sound 8 = .ok (.invokevirtual 132, 3) := by decide +kernel
theorem dX1_sound_11 : decode cX1_sound 11 = .ok (.ifCond .eq 21, 3) := by decide +kernel
theorem dX1_sound_14 : decode cX1_sound 14 = .ok (.aload_n 0, 1) := by decide +kernel
theorem dX1_sound_15 : decode cX1_sound 15 = .ok (.invokevirtual 135, 3) := by decide +kernel
theorem dX1_sound_18 : decode cX1_sound 18 = .ok (.ifCond .eq 14, 3) := by decide +kernel
theorem dX1_sound_21 : decode cX1_sound 21 = .ok (.aload_n 0, 1) := by decide +kernel
theorem dX1_sound_22 : decode cX1_sound 22 = .ok (.invokevirtual 138, 3) := by decide +kernel
theorem dX1_sound_25 : decode cX1_sound 25 = .ok (.ifCond .eq 7, 3) := by decide +kernel
theorem dX1_sound_28 : decode cX1_sound 28 = .ok (.iconst 1, 1) := by decide +kernel
theorem dX1_sound_29 : decode cX1_sound 29 = .ok (.goto 4, 3) := by decide +kernel
theorem dX1_sound_32 : decode cX1_sound 32 = .ok (.iconst 0, 1) := by decide +kernel
theorem dX1_sound_33 : decode cX1_sound 33 = .ok (.ireturn, 1) := by decide +kernel
theorem dX1_count_0 : decode cX1_count 0 = .ok (.iload_n 1, 1) := by decide +kernel
theorem dX1_count_1 : decode cX1_count 1 = .ok (.tableswitch 60 0 4 #[35, 40, 45, 50, 55], 35) := by decide +kernel
theorem dX1_count_36 : decode cX1_count 36 = .ok (.aload_n 0, 1) := by decide +kernel
theorem dX1_count_37 : decode cX1_count 37 = .ok (.getfield 63, 3) := by decide +kernel
theorem dX1_count_40 : decode cX1_count 40 = .ok (.ireturn, 1) := by decide +kernel
theorem dX1_count_41 : decode cX1_count 41 = .ok (.aload_n 0, 1) := by decide +kernel
theorem dX1_count_42 : decode cX1_count 42 = .ok (.getfield 76, 3) := by decide +kernel
theorem dX1_count_45 : decode cX1_count 45 = .ok (.ireturn, 1) := by decide +kernel
theorem dX1_count_46 : decode cX1_count 46 = .ok (.aload_n 0, 1) := by decide +kernel
theorem dX1_count_47 : decode cX1_count 47 = .ok (.getfield 110, 3) := by decide +kernel
theorem dX1_count_50 : decode cX1_count 50 = .ok (.ireturn, 1) := by decide +kernel
theorem dX1_count_51 : decode cX1_count 51 = .ok (.aload_n 0, 1) := by decide +kernel
theorem dX1_count_52 : decode cX1_count 52 = .ok (.getfield 18, 3) := by decide +kernel
theorem dX1_count_55 : decode cX1_count 55 = .ok (.ireturn, 1) := by decide +kernel
theorem dX1_count_56 : decode cX1_count 56 = .ok (.aload_n 0, 1) := by decide +kernel
theorem dX1_count_57 : decode cX1_count 57 = .ok (.getfield 29, 3) := by decide +kernel
theorem dX1_count_60 : decode cX1_count 60 = .ok (.ireturn, 1) := by decide +kernel
theorem dX1_count_61 : decode cX1_count 61 = .ok (.iconst (-1), 1) := by decide +kernel
theorem dX1_count_62 : decode cX1_count 62 = .ok (.ireturn, 1) := by decide +kernel
theorem dX1_isBlockSize_0 : decode cX1_isBlockSize 0 = .ok (.iload_n 0, 1) := by decide +kernel
theorem dX1_isBlockSize_1 : decode cX1_isBlockSize 1 = .ok (.bipush 8, 2) := by decide +kernel
theorem dX1_isBlockSize_3 : decode cX1_isBlockSize 3 = .ok (.if_icmp .eq 21, 3) := by decide +kernel
theorem dX1_isBlockSize_6 : decode cX1_isBlockSize 6 = .ok (.iload_n 0, 1) := by decide +kernel
theorem dX1_isBlockSize_7 : decode cX1_isBlockSize 7 = .ok (.bipush 16, 2) := by decide +kernel
theorem dX1_isBlockSize_9 : decode cX1_isBlockSize 9 = .ok (.if_icmp .eq 15, 3) := by decide +kernel
theorem dX1_isBlockSize_12 : decode cX1_isBlockSize 12 = .ok (.iload_n 0, 1) := by decide +kernel
theorem dX1_isBlockSize_13 : decode cX1_isBlockSize 13 = .ok (.bipush 32, 2) := by decide +kernel
theorem dX1_isBlockSize_15 : decode cX1_isBlockSize 15 = .ok (.if_icmp .eq 9, 3) := by decide +kernel
theorem dX1_isBlockSize_18 : decode cX1_isBlockSize 18 = .ok (.iload_n 0, 1) := by decide +kernel
theorem dX1_isBlockSize_19 : decode cX1_isBlockSize 19 = .ok (.bipush 64, 2) := by decide +kernel
theorem dX1_isBlockSize_21 : decode cX1_isBlockSize 21 = .ok (.if_icmp .ne 7, 3) := by decide +kernel
theorem dX1_isBlockSize_24 : decode cX1_isBlockSize 24 = .ok (.iconst 1, 1) := by decide +kernel
theorem dX1_isBlockSize_25 : decode cX1_isBlockSize 25 = .ok (.goto 4, 3) := by decide +kernel
theorem dX1_isBlockSize_28 : decode cX1_isBlockSize 28 = .ok (.iconst 0, 1) := by decide +kernel
theorem dX1_isBlockSize_29 : decode cX1_isBlockSize 29 = .ok (.ireturn, 1) := by decide +kernel
theorem dX1_headerOf_0 : decode cX1_headerOf 0 = .ok (.sipush 256, 3) := by decide +kernel
theorem dX1_headerOf_3 : decode cX1_headerOf 3 = .ok (.iload_n 1, 1) := by decide +kernel
theorem dX1_headerOf_4 : decode cX1_headerOf 4 = .ok (.imul, 1) := by decide +kernel
theorem dX1_headerOf_5 : decode cX1_headerOf 5 = .ok (.bipush 16, 2) := by decide +kernel
theorem dX1_headerOf_7 : decode cX1_headerOf 7 = .ok (.iload_n 0, 1) := by decide +kernel
theorem dX1_headerOf_8 : decode cX1_headerOf 8 = .ok (.imul, 1) := by decide +kernel
theorem dX1_headerOf_9 : decode cX1_headerOf 9 = .ok (.iadd, 1) := by decide +kernel
theorem dX1_headerOf_10 : decode cX1_headerOf 10 = .ok (.ireturn, 1) := by decide +kernel
theorem dX1_referencesBy_0 : decode cX1_referencesBy 0 = .ok (.iload_n 0, 1) := by decide +kernel
theorem dX1_referencesBy_1 : decode cX1_referencesBy 1 = .ok (.iconst 4, 1) := by decide +kernel
theorem dX1_referencesBy_2 : decode cX1_referencesBy 2 = .ok (.ishr, 1) := by decide +kernel
theorem dX1_referencesBy_3 : decode cX1_referencesBy 3 = .ok (.bipush 15, 2) := by decide +kernel
theorem dX1_referencesBy_5 : decode cX1_referencesBy 5 = .ok (.iand, 1) := by decide +kernel
theorem dX1_referencesBy_6 : decode cX1_referencesBy 6 = .ok (.ireturn, 1) := by decide +kernel
theorem dX1_plainBy_0 : decode cX1_plainBy 0 = .ok (.iload_n 0, 1) := by decide +kernel
theorem dX1_plainBy_1 : decode cX1_plainBy 1 = .ok (.bipush 8, 2) := by decide +kernel
theorem dX1_plainBy_3 : decode cX1_plainBy 3 = .ok (.ishr, 1) := by decide +kernel
theorem dX1_plainBy_4 : decode cX1_plainBy 4 = .ok (.ireturn, 1) := by decide +kernel
set_option maxRecDepth 20000 in
theorem ggX1_sizeBy_X1_referencesBy : GoodIn wsX1_sizeBy wsX1_referencesBy := goodIn_r _ [4] (by decide +kernel) (by decide +kernel)
set_option maxRecDepth 20000 in
theorem gX1_sizeBy_X1_referencesBy : GoodIn wsX1_sizeBy (va_wsS RX1 82 yX1_referencesBy wsX1_referencesBy) := goodIn_app (goodIn_of _ (by decide +kernel)) ggX1_sizeBy_X1_referencesBy
set_option maxRecDepth 20000 in
theorem ggX1_sizeBy_X1_plainBy : GoodIn wsX1_sizeBy wsX1_plainBy := goodIn_r _ [7] (by decide +kernel) (by decide +kernel)
set_option maxRecDepth 20000 in
theorem gX1_sizeBy_X1_plainBy : GoodIn wsX1_sizeBy (va_wsS RX1 88 yX1_plainBy wsX1_plainBy) := goodIn_app (goodIn_of _ (by decide +kernel)) ggX1_sizeBy_X1_plainBy
theorem dX1_sizeBy_0 : decode cX1_sizeBy 0 = .ok (.iconst 1, 1) := by decide +kernel
theorem dX1_sizeBy_1 : decode cX1_sizeBy 1 = .ok (.iload_n 0, 1) := by decide +kernel
theorem dX1_sizeBy_2 : decode cX1_sizeBy 2 = .ok (.invokestatic 82, 3) := by decide +kernel
theorem dX1_sizeBy_5 : decode cX1_sizeBy 5 = .ok (.iadd, 1) := by decide +kernel
theorem dX1_sizeBy_6 : decode cX1_sizeBy 6 = .ok (.iload_n 0, 1) := by decide +kernel
theorem dX1_sizeBy_7 : decode cX1_sizeBy 7 = .ok (.invokestatic 88, 3) := by decide +kernel
theorem dX1_sizeBy_10 : decode cX1_sizeBy 10 = .ok (.iadd, 1) := by decide +kernel
theorem dX1_sizeBy_11 : decode cX1_sizeBy 11 = .ok (.ireturn, 1) := by decide +kernel
theorem dX1_isWord_0 : decode cX1_isWord 0 = .ok (.iload_n 1, 1) := by decide +kernel
theorem dX1_isWord_1 : decode cX1_isWord 1 = .ok (.ifCond .lt 15, 3) := by decide +kernel
theorem dX1_isWord_4 : decode cX1_isWord 4 = .ok (.iload_n 1, 1) := by decide +kernel
theorem dX1_isWord_5 : decode cX1_isWord 5 = .ok (.aload_n 0, 1) := by decide +kernel
theorem dX1_isWord_6 : decode cX1_isWord 6 = .ok (.getfield 18, 3) := by decide +kernel
theorem dX1_isWord_9 : decode cX1_isWord 9 = .ok (.if_icmp .gt 7, 3) := by decide +kernel
theorem dX1_isWord_12 : decode cX1_isWord 12 = .ok (.iconst 1, 1) := by decide +kernel
theorem dX1_isWord_13 : decode cX1_isWord 13 = .ok (.goto 4, 3) := by decide +kernel
theorem dX1_isWord_16 : decode cX1_isWord 16 = .ok (.iconst 0, 1) := by decide +kernel
theorem dX1_isWord_17 : decode cX1_isWord 17 = .ok (.ireturn, 1) := by decide +kernel
theorem dX1_isRoot_0 : decode cX1_isRoot 0 = .ok (.iload_n 0, 1) := by decide +kernel
theorem dX1_isRoot_1 : decode cX1_isRoot 1 = .ok (.ifCond .lt 13, 3) := by decide +kernel
theorem dX1_isRoot_4 : decode cX1_isRoot 4 = .ok (.iload_n 0, 1) := by decide +kernel
theorem dX1_isRoot_5 : decode cX1_isRoot 5 = .ok (.bipush 8, 2) := by decide +kernel
theorem dX1_isRoot_7 : decode cX1_isRoot 7 = .ok (.if_icmp .ge 7, 3) := by decide +kernel
theorem dX1_isRoot_10 : decode cX1_isRoot 10 = .ok (.iconst 1, 1) := by decide +kernel
theorem dX1_isRoot_11 : decode cX1_isRoot 11 = .ok (.goto 4, 3) := by decide +kernel
theorem dX1_isRoot_14 : decode cX1_isRoot 14 = .ok (.iconst 0, 1) := by decide +kernel
theorem dX1_isRoot_15 : decode cX1_isRoot 15 = .ok (.ireturn, 1) := by decide +kernel
set_option maxRecDepth 20000 in
theorem ggX1_isObjectOrNone_X1_isObject : GoodIn wsX1_isObjectOrNone wsX1_isObject := goodIn_r _ [5, 6, 7, 8, 9, 10, 11, 12, 13, 14, 15, 16, 17, 18, 19, 20, 21, 22, 23, 24, 25, 26, 27, 28, 29] (by decide +kernel) (by decide +kernel)
set_option maxRecDepth 20000 in
theorem gX1_isObjectOrNone_X1_isObject : GoodIn wsX1_isObjectOrNone (wsV RX1 79 RX1 yX1_isObject wsX1_isObject) := goodIn_app (goodIn_of _ (by decide +kernel)) ggX1_isObjectOrNone_X1_isObject
theorem dX1_isObjectOrNone_0 : decode cX1_isObjectOrNone 0 = .ok (.iload_n 1, 1) := by decide +kernel
theorem dX1_isObjectOrNone_1 : decode cX1_isObjectOrNone 1 = .ok (.ifCond .eq 11, 3) := by decide +kernel
theorem dX1_isObjectOrNone_4 : decode cX1_isObjectOrNone 4 = .ok (.aload_n 0, 1) := by decide +kernel
theorem dX1_isObjectOrNone_5 : decode cX1_isObjectOrNone 5 = .ok (.iload_n 1, 1) := by decide +kernel
theorem dX1_isObjectOrNone_6 : decode cX1_isObjectOrNone 6 = .ok (.invokevirtual 79, 3) := by decide +kernel
theorem dX1_isObjectOrNone_9 : decode cX1_isObjectOrNone 9 = .ok (.ifCond .eq 7, 3) := by decide +kernel
theorem dX1_isObjectOrNone_12 : decode cX1_isObjectOrNone 12 = .ok (.iconst 1, 1) := by decide +kernel
theorem dX1_isObjectOrNone_13 : decode cX1_isObjectOrNone 13 = .ok (.goto 4, 3) := by decide +kernel
theorem dX1_isObjectOrNone_16 : decode cX1_isObjectOrNone 16 = .ok (.iconst 0, 1) := by decide +kernel
theorem dX1_isObjectOrNone_17 : decode cX1_isObjectOrNone 17 = .ok (.ireturn, 1) := by decide +kernel
set_option maxRecDepth 20000 in
theorem ggX1_findWithin_X0_clear : GoodIn wsX1_findWithin wsX0_clear := goodIn_r _ [8, 9, 10, 11, 12, 13, 50] (by decide +kernel) (by decide +kernel)
set_option maxRecDepth 20000 in
theorem gX1_findWithin_X0_clear : GoodIn wsX1_findWithin (wsV RX1 141 RX0 yX0_clear wsX0_clear) := goodIn_app (goodIn_of _ (by decide +kernel)) ggX1_findWithin_X0_clear
set_option maxRecDepth 20000 in
theorem ggX1_findWithin_X1_find : GoodIn wsX1_findWithin wsX1_find := goodIn_r _ [18, 1, 3, 19, 20, 21, 7, 22, 9, 23, 24, 25, 26, 35, 36, 37, 38, 39, 40, 41, 42, 43, 44, 45, 46, 47, 48, 49, 50] (by decide +kernel) (by decide +kernel)
set_option maxRecDepth 20000 in
theorem gX1_findWithin_X1_find : GoodIn wsX1_findWithin (wsV RX1 144 RX1 yX1_find wsX1_find) := goodIn_app (goodIn_of _ (by decide +kernel)) ggX1_findWithin_X1_find
set_option maxRecDepth 20000 in
theorem ggX1_findWithin_X1_findReferred : GoodIn wsX1_findWithin wsX1_findReferred := goodIn_r _ [30, 31, 32, 33, 17, 34, 14, 15, 16, 18, 1, 3, 19, 20, 21, 7, 22, 9, 23, 24, 25, 26, 35, 36, 37, 38, 39, 40, 41, 42, 43, 44, 45, 46, 47, 48, 49, 50] (by decide +kernel) (by decide +kernel)
set_option maxRecDepth 20000 in
theorem gX1_findWithin_X1_findReferred : GoodIn wsX1_findWithin (wsV RX1 147 RX1 yX1_findReferred wsX1_findReferred) := goodIn_app (goodIn_of _ (by decide +kernel)) ggX1_findWithin_X1_findReferred
theorem dX1_findWithin_0 : decode cX1_findWithin 0 = .ok (.aload_n 0, 1) := by decide +kernel
theorem dX1_findWithin_1 : decode cX1_findWithin 1 = .ok (.getfield 51, 3) := by decide +kernel
theorem dX1_findWithin_4 : decode cX1_findWithin 4 = .ok (.invokevirtual 141, 3) := by decide +kernel
theorem dX1_findWithin_7 : decode cX1_findWithin 7 = .ok (.iconst 0, 1) := by decide +kernel
theorem dX1_findWithin_8 : decode cX1_findWithin 8 = .ok (.istore_n 2, 1) := by decide +kernel
theorem dX1_findWithin_9 : decode cX1_findWithin 9 = .ok (.iconst 0, 1) := by decide +kernel
theorem dX1_findWithin_10 : decode cX1_findWithin 10 = .ok (.istore_n 3, 1) := by decide +kernel
theorem dX1_findWithin_11 : decode cX1_findWithin 11 = .ok (.iload_n 3, 1) := by decide +kernel
theorem dX1_findWithin_12 : decode cX1_findWithin 12 = .ok (.bipush 8, 2) := by decide +kernel
theorem dX1_findWithin_14 : decode cX1_findWithin 14 = .ok (.if_icmp .ge 21, 3) := by decide +kernel
theorem dX1_findWithin_17 : decode cX1_findWithin 17 = .ok (.aload_n 0, 1) := by decide +kernel
theorem dX1_findWithin_18 : decode cX1_findWithin 18 = .ok (.aload_n 0, 1) := by decide +kernel
theorem dX1_findWithin_19 : decode cX1_findWithin 19 = .ok (.getfield 32, 3) := by decide +kernel
theorem dX1_findWithin_22 : decode cX1_findWithin 22 = .ok (.iload_n 3, 1) := by decide +kernel
theorem dX1_findWithin_23 : decode cX1_findWithin 23 = .ok (.iaload, 1) := by decide +kernel
theorem dX1_findWithin_24 : decode cX1_findWithin 24 = .ok (.iload_n 2, 1) := by decide +kernel
theorem dX1_findWithin_25 : decode cX1_findWithin 25 = .ok (.invokevirtual 144, 3) := by decide +kernel
theorem dX1_findWithin_28 : decode cX1_findWithin 28 = .ok (.istore_n 2, 1) := by decide +kernel
theorem dX1_findWithin_29 : decode cX1_findWithin 29 = .ok (.iinc 3 1, 3) := by decide +kernel
theorem dX1_findWithin_32 : decode cX1_findWithin 32 = .ok (.goto (-21), 3) := by decide +kernel
theorem dX1_findWithin_35 : decode cX1_findWithin 35 = .ok (.iconst 0, 1) := by decide +kernel
theorem dX1_findWithin_36 : decode cX1_findWithin 36 = .ok (.istore_n 3, 1) := by decide +kernel
theorem dX1_findWithin_37 : decode cX1_findWithin 37 = .ok (.iconst 0, 1) := by decide +kernel
theorem dX1_findWithin_38 : decode cX1_findWithin 38 = .ok (.istore 4, 2) := by decide +kernel
theorem dX1_findWithin_40 : decode cX1_findWithin 40 = .ok (.iload 4, 2) := by decide +kernel
theorem dX1_findWithin_42 : decode cX1_findWithin 42 = .ok (.iload_n 1, 1) := by decide +kernel
theorem dX1_findWithin_43 : decode cX1_findWithin 43 = .ok (.if_icmp .ge 49, 3) := by decide +kernel
theorem dX1_findWithin_46 : decode cX1_findWithin 46 = .ok (.iload_n 3, 1) := by decide +kernel
theorem dX1_findWithin_47 : decode cX1_findWithin 47 = .ok (.iload_n 2, 1) := by decide +kernel
theorem dX1_findWithin_48 : decode cX1_findWithin 48 = .ok (.if_icmp .ge 44, 3) := by decide +kernel
