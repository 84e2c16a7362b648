theorem dX2_make_71 : decode cX2_make 71 = .ok (.aload_n 0, 1) := by decide +kernel
theorem dX2_make_72 : decode cX2_make 72 = .ok (.getfield 13, 3) := by decide +kernel
theorem dX2_make_75 : decode cX2_make 75 = .ok (.iload_n 3, 1) := by decide +kernel
theorem dX2_make_76 : decode cX2_make 76 = .ok (.iload 4, 2) := by decide +kernel
theorem dX2_make_78 : decode cX2_make 78 = .ok (.iadd, 1) := by decide +kernel
theorem dX2_make_79 : decode cX2_make 79 = .ok (.iconst 0, 1) := by decide +kernel
theorem dX2_make_80 : decode cX2_make 80 = .ok (.iastore, 1) := by decide +kernel
theorem dX2_make_81 : decode cX2_make 81 = .ok (.iinc 4 1, 3) := by decide +kernel
theorem dX2_make_84 : decode cX2_make 84 = .ok (.goto (-21), 3) := by decide +kernel
theorem dX2_make_87 : decode cX2_make 87 = .ok (.aload_n 0, 1) := by decide +kernel
theorem dX2_make_88 : decode cX2_make 88 = .ok (.getfield 20, 3) := by decide +kernel
theorem dX2_make_91 : decode cX2_make 91 = .ok (.iload_n 3, 1) := by decide +kernel
theorem dX2_make_92 : decode cX2_make 92 = .ok (.iconst 1, 1) := by decide +kernel
theorem dX2_make_93 : decode cX2_make 93 = .ok (.bastore, 1) := by decide +kernel
theorem dX2_make_94 : decode cX2_make 94 = .ok (.aload_n 0, 1) := by decide +kernel
theorem dX2_make_95 : decode cX2_make 95 = .ok (.aload_n 0, 1) := by decide +kernel
theorem dX2_make_96 : decode cX2_make 96 = .ok (.getfield 7, 3) := by decide +kernel
theorem dX2_make_99 : decode cX2_make 99 = .ok (.iconst 1, 1) := by decide +kernel
theorem dX2_make_100 : decode cX2_make 100 = .ok (.iadd, 1) := by decide +kernel
theorem dX2_make_101 : decode cX2_make 101 = .ok (.iload_n 1, 1) := by decide +kernel
theorem dX2_make_102 : decode cX2_make 102 = .ok (.iadd, 1) := by decide +kernel
theorem dX2_make_103 : decode cX2_make 103 = .ok (.iload_n 2, 1) := by decide +kernel
theorem dX2_make_104 : decode cX2_make 104 = .ok (.iadd, 1) := by decide +kernel
theorem dX2_make_105 : decode cX2_make 105 = .ok (.putfield 7, 3) := by decide +kernel
theorem dX2_make_108 : decode cX2_make 108 = .ok (.aload_n 0, 1) := by decide +kernel
theorem dX2_make_109 : decode cX2_make 109 = .ok (.dup, 1) := by decide +kernel
theorem dX2_make_110 : decode cX2_make 110 = .ok (.getfield 56, 3) := by decide +kernel
theorem dX2_make_113 : decode cX2_make 113 = .ok (.iconst 1, 1) := by decide +kernel
theorem dX2_make_114 : decode cX2_make 114 = .ok (.iadd, 1) := by decide +kernel
theorem dX2_make_115 : decode cX2_make 115 = .ok (.putfield 56, 3) := by decide +kernel
theorem dX2_make_118 : decode cX2_make 118 = .ok (.iload_n 3, 1) := by decide +kernel
theorem dX2_make_119 : decode cX2_make 119 = .ok (.ireturn, 1) := by decide +kernel
set_option maxRecDepth 20000 in
theorem ggX2_isObject_X2_isIn : GoodIn wsX2_isObject wsX2_isIn := goodIn_r _ [6] (by decide +kernel) (by decide +kernel)
set_option maxRecDepth 20000 in
theorem gX2_isObject_X2_isIn : GoodIn wsX2_isObject (va_wsS RX2 52 yX2_isIn wsX2_isIn) := goodIn_app (goodIn_of _ (by decide +kernel)) ggX2_isObject_X2_isIn
theorem dX2_isObject_0 : decode cX2_isObject 0 = .ok (.iload_n 1, 1) := by decide +kernel
theorem dX2_isObject_1 : decode cX2_isObject 1 = .ok (.iconst 1, 1) := by decide +kernel
theorem dX2_isObject_2 : decode cX2_isObject 2 = .ok (.aload_n 0, 1) := by decide +kernel
theorem dX2_isObject_3 : decode cX2_isObject 3 = .ok (.getfield 36, 3) := by decide +kernel
theorem dX2_isObject_6 : decode cX2_isObject 6 = .ok (.invokestatic 52, 3) := by decide +kernel
theorem dX2_isObject_9 : decode cX2_isObject 9 = .ok (.ifCond .eq 16, 3) := by decide +kernel
theorem dX2_isObject_12 : decode cX2_isObject 12 = .ok (.aload_n 0, 1) := by decide +kernel
theorem dX2_isObject_13 : decode cX2_isObject 13 = .ok (.getfield 20, 3) := by decide +kernel
theorem dX2_isObject_16 : decode cX2_isObject 16 = .ok (.iload_n 1, 1) := by decide +kernel
theorem dX2_isObject_17 : decode cX2_isObject 17 = .ok (.baload, 1) := by decide +kernel
theorem dX2_isObject_18 : decode cX2_isObject 18 = .ok (.ifCond .eq 7, 3) := by decide +kernel
theorem dX2_isObject_21 : decode cX2_isObject 21 = .ok (.iconst 1, 1) := by decide +kernel
theorem dX2_isObject_22 : decode cX2_isObject 22 = .ok (.goto 4, 3) := by decide +kernel
theorem dX2_isObject_25 : decode cX2_isObject 25 = .ok (.iconst 0, 1) := by decide +kernel
theorem dX2_isObject_26 : decode cX2_isObject 26 = .ok (.ireturn, 1) := by decide +kernel
set_option maxRecDepth 20000 in
theorem ggX2_isLead_X2_isObject : GoodIn wsX2_isLead wsX2_isObject := goodIn_r _ [5, 6, 7, 8, 9, 4, 10, 11, 12, 13, 14, 15, 16, 17, 18, 19, 20, 21, 22, 23, 24] (by decide +kernel) (by decide +kernel)
set_option maxRecDepth 20000 in
theorem gX2_isLead_X2_isObject : GoodIn wsX2_isLead (wsV RX2 59 RX2 yX2_isObject wsX2_isObject) := goodIn_app (goodIn_of _ (by decide +kernel)) ggX2_isLead_X2_isObject
theorem dX2_isLead_0 : decode cX2_isLead 0 = .ok (.iload_n 1, 1) := by decide +kernel
theorem dX2_isLead_1 : decode cX2_isLead 1 = .ok (.ifCond .eq 11, 3) := by decide +kernel
theorem dX2_isLead_4 : decode cX2_isLead 4 = .ok (.aload_n 0, 1) := by decide +kernel
theorem dX2_isLead_5 : decode cX2_isLead 5 = .ok (.iload_n 1, 1) := by decide +kernel
theorem dX2_isLead_6 : decode cX2_isLead 6 = .ok (.invokevirtual 59, 3) := by decide +kernel
theorem dX2_isLead_9 : decode cX2_isLead 9 = .ok (.ifCond .eq 7, 3) := by decide +kernel
theorem dX2_isLead_12 : decode cX2_isLead 12 = .ok (.iconst 1, 1) := by decide +kernel
theorem dX2_isLead_13 : decode cX2_isLead 13 = .ok (.goto 4, 3) := by decide +kernel
theorem dX2_isLead_16 : decode cX2_isLead 16 = .ok (.iconst 0, 1) := by decide +kernel
theorem dX2_isLead_17 : decode cX2_isLead 17 = .ok (.ireturn, 1) := by decide +kernel
set_option maxRecDepth 20000 in
theorem ggX2_refer_X2_isObject : GoodIn wsX2_refer wsX2_isObject := goodIn_r _ [6, 7, 8, 9, 10, 5, 11, 20, 21, 22, 23, 24, 25, 26, 27, 28, 29, 30, 31, 32, 33] (by decide +kernel) (by decide +kernel)
set_option maxRecDepth 20000 in
theorem gX2_refer_X2_isObject : GoodIn wsX2_refer (wsV RX2 59 RX2 yX2_isObject wsX2_isObject) := goodIn_app (goodIn_of _ (by decide +kernel)) ggX2_refer_X2_isObject
set_option maxRecDepth 20000 in
theorem ggX2_refer_X2_isLead : GoodIn wsX2_refer wsX2_isLead := goodIn_r _ [15, 2, 3, 4, 5, 6, 7, 8, 9, 10, 11, 20, 21, 22, 23, 24, 25, 26, 27, 28, 29, 30, 31, 32, 33] (by decide +kernel) (by decide +kernel)
set_option maxRecDepth 20000 in
theorem gX2_refer_X2_isLead : GoodIn wsX2_refer (wsV RX2 63 RX2 yX2_isLead wsX2_isLead) := goodIn_app (goodIn_of _ (by decide +kernel)) ggX2_refer_X2_isLead
set_option maxRecDepth 20000 in
theorem ggX2_refer_X2_references : GoodIn wsX2_refer wsX2_references := goodIn_r _ [19, 1, 20, 21, 22, 23, 24, 25, 26, 27, 28, 29, 30, 31, 32, 33] (by decide +kernel) (by decide +kernel)
set_option maxRecDepth 20000 in
theorem gX2_refer_X2_references : GoodIn wsX2_refer (wsV RX2 45 RX2 yX2_references wsX2_references) := goodIn_app (goodIn_of _ (by decide +kernel)) ggX2_refer_X2_references
set_option maxRecDepth 20000 in
theorem ggX2_refer_X2_isIn : GoodIn wsX2_refer wsX2_isIn := goodIn_r _ [11] (by decide +kernel) (by decide +kernel)
set_option maxRecDepth 20000 in
theorem gX2_refer_X2_isIn : GoodIn wsX2_refer (va_wsS RX2 52 yX2_isIn wsX2_isIn) := goodIn_app (goodIn_of _ (by decide +kernel)) ggX2_refer_X2_isIn
theorem dX2_refer_0 : decode cX2_refer 0 = .ok (.aload_n 0, 1) := by decide +kernel
theorem dX2_refer_1 : decode cX2_refer 1 = .ok (.iload_n 1, 1) := by decide +kernel
theorem dX2_refer_2 : decode cX2_refer 2 = .ok (.invokevirtual 59, 3) := by decide +kernel
theorem dX2_refer_5 : decode cX2_refer 5 = .ok (.ifCond .eq 26, 3) := by decide +kernel
theorem dX2_refer_8 : decode cX2_refer 8 = .ok (.aload_n 0, 1) := by decide +kernel
theorem dX2_refer_9 : decode cX2_refer 9 = .ok (.iload_n 3, 1) := by decide +kernel
theorem dX2_refer_10 : decode cX2_refer 10 = .ok (.invokevirtual 63, 3) := by decide +kernel
theorem dX2_refer_13 : decode cX2_refer 13 = .ok (.ifCond .eq 18, 3) := by decide +kernel
theorem dX2_refer_16 : decode cX2_refer 16 = .ok (.iload_n 2, 1) := by decide +kernel
theorem dX2_refer_17 : decode cX2_refer 17 = .ok (.iconst 0, 1) := by decide +kernel
theorem dX2_refer_18 : decode cX2_refer 18 = .ok (.aload_n 0, 1) := by decide +kernel
theorem dX2_refer_19 : decode cX2_refer 19 = .ok (.iload_n 1, 1) := by decide +kernel
theorem dX2_refer_20 : decode cX2_refer 20 = .ok (.invokevirtual 45, 3) := by decide +kernel
theorem dX2_refer_23 : decode cX2_refer 23 = .ok (.iconst 1, 1) := by decide +kernel
theorem dX2_refer_24 : decode cX2_refer 24 = .ok (.isub, 1) := by decide +kernel
theorem dX2_refer_25 : decode cX2_refer 25 = .ok (.invokestatic 52, 3) := by decide +kernel
theorem dX2_refer_28 : decode cX2_refer 28 = .ok (.ifCond .ne 5, 3) := by decide +kernel
theorem dX2_refer_31 : decode cX2_refer 31 = .ok (.iconst 0, 1) := by decide +kernel
theorem dX2_refer_32 : decode cX2_refer 32 = .ok (.ireturn, 1) := by decide +kernel
theorem dX2_refer_33 : decode cX2_refer 33 = .ok (.aload_n 0, 1) := by decide +kernel
theorem dX2_refer_34 : decode cX2_refer 34 = .ok (.getfield 13, 3) := by decide +kernel
theorem dX2_refer_37 : decode cX2_refer 37 = .ok (.iload_n 1, 1) := by decide +kernel
theorem dX2_refer_38 : decode cX2_refer 38 = .ok (.iconst 1, 1) := by decide +kernel
theorem dX2_refer_39 : decode cX2_refer 39 = .ok (.iadd, 1) := by decide +kernel
theorem dX2_refer_40 : decode cX2_refer 40 = .ok (.iload_n 2, 1) := by decide +kernel
theorem dX2_refer_41 : decode cX2_refer 41 = .ok (.iadd, 1) := by decide +kernel
theorem dX2_refer_42 : decode cX2_refer 42 = .ok (.iload_n 3, 1) := by decide +kernel
theorem dX2_refer_43 : decode cX2_refer 43 = .ok (.iastore, 1) := by decide +kernel
theorem dX2_refer_44 : decode cX2_refer 44 = .ok (.iconst 1, 1) := by decide +kernel
theorem dX2_refer_45 : decode cX2_refer 45 = .ok (.ireturn, 1) := by decide +kernel
set_option maxRecDepth 20000 in
theorem ggX2_set_X2_isObject : GoodIn wsX2_set wsX2_isObject := goodIn_r _ [6, 7, 8, 9, 10, 5, 11, 20, 21, 22, 23, 24, 25, 26, 27, 28, 29, 30, 31, 32, 33] (by decide +kernel) (by decide +kernel)
set_option maxRecDepth 20000 in
theorem gX2_set_X2_isObject : GoodIn wsX2_set (wsV RX2 59 RX2 yX2_isObject wsX2_isObject) := goodIn_app (goodIn_of _ (by decide +kernel)) ggX2_set_X2_isObject
set_option maxRecDepth 20000 in
theorem ggX2_set_X2_plain : GoodIn wsX2_set wsX2_plain := goodIn_r _ [15, 1, 20, 21, 22, 23, 24, 25, 26, 27, 28, 29, 30, 31, 32, 33] (by decide +kernel) (by decide +kernel)
set_option maxRecDepth 20000 in
theorem gX2_set_X2_plain : GoodIn wsX2_set (wsV RX2 49 RX2 yX2_plain wsX2_plain) := goodIn_app (goodIn_of _ (by decide +kernel)) ggX2_set_X2_plain
set_option maxRecDepth 20000 in
theorem ggX2_set_X2_isIn : GoodIn wsX2_set wsX2_isIn := goodIn_r _ [11] (by decide +kernel) (by decide +kernel)
set_option maxRecDepth 20000 in
theorem gX2_set_X2_isIn : GoodIn wsX2_set (va_wsS RX2 52 yX2_isIn wsX2_isIn) := goodIn_app (goodIn_of _ (by decide +kernel)) ggX2_set_X2_isIn
set_option maxRecDepth 20000 in
theorem ggX2_set_X2_references : GoodIn wsX2_set wsX2_references := goodIn_r _ [19, 1, 20, 21, 22, 23, 24, 25, 26, 27, 28, 29, 30, 31, 32, 33] (by decide +kernel) (by decide +kernel)
set_option maxRecDepth 20000 in
theorem gX2_set_X2_references : GoodIn wsX2_set (wsV RX2 45 RX2 yX2_references wsX2_references) := goodIn_app (goodIn_of _ (by decide +kernel)) ggX2_set_X2_references
theorem dX2_set_0 : decode cX2_set 0 = .ok (.aload_n 0, 1) := by decide +kernel
theorem dX2_set_1 : decode cX2_set 1 = .ok (.iload_n 1, 1) := by decide +kernel
theorem dX2_set_2 : decode cX2_set 2 = .ok (.invokevirtual 59, 3) := by decide +kernel
theorem dX2_set_5 : decode cX2_set 5 = .ok (.ifCond .eq 18, 3) := by decide +kernel
theorem dX2_set_8 : decode cX2_set 8 = .ok (.iload_n 2, 1) := by decide +kernel
theorem dX2_set_9 : decode cX2_set 9 = .ok (.iconst 0, 1) := by decide +kernel
theorem dX2_set_10 : decode cX2_set 10 = .ok (.aload_n 0, 1) := by decide +kernel
theorem dX2_set_11 : decode cX2_set 11 = .ok (.iload_n 1, 1) := by decide +kernel
theorem dX2_set_12 : decode cX2_set 12 = .ok (.invokevirtual 49, 3) := by decide +kernel
theorem dX2_set_15 : decode cX2_set 15 = .ok (.iconst 1, 1) := by decide +kernel
theorem dX2_set_16 : decode cX2_set 16 = .ok (.isub, 1) := by decide +kernel
theorem dX2_set_17 : decode cX2_set 17 = .ok (.invokestatic 52, 3) := by decide +kernel
theorem dX2_set_20 : decode cX2_set 20 = .ok (.ifCond .ne 5, 3) := by decide +kernel
theorem dX2_set_23 : decode cX2_set 23 = .ok (.iconst 0, 1) := by decide +kernel
theorem dX2_set_24 : decode cX2_set 24 = .ok (.ireturn, 1) := by decide +kernel
theorem dX2_set_25 : decode cX2_set 25 = .ok (.aload_n 0, 1) := by decide +kernel
theorem dX2_set_26 : decode cX2_set 26 = .ok (.getfield 13, 3) := by decide +kernel
theorem dX2_set_29 : decode cX2_set 29 = .ok (.iload_n 1, 1) := by decide +kernel
theorem dX2_set_30 : decode cX2_set 30 = .ok (.iconst 1, 1) := by decide +kernel
theorem dX2_set_31 : decode cX2_set 31 = .ok (.iadd, 1) := by decide +kernel
theorem dX2_set_32 : decode cX2_set 32 = .ok (.aload_n 0, 1) := by decide +kernel
theorem dX2_set_33 : decode cX2_set 33 = .ok (.iload_n 1, 1) := by decide +kernel
theorem dX2_set_34 : decode cX2_set 34 = .ok (.invokevirtual 45, 3) := by decide +kernel
theorem dX2_set_37 : decode cX2_set 37 = .ok (.iadd, 1) := by decide +kernel
theorem dX2_set_38 : decode cX2_set 38 = .ok (.iload_n 2, 1) := by decide +kernel
theorem dX2_set_39 : decode cX2_set 39 = .ok (.iadd, 1) := by decide +kernel
theorem dX2_set_40 : decode cX2_set 40 = .ok (.iload_n 3, 1) := by decide +kernel
theorem dX2_set_41 : decode cX2_set 41 = .ok (.iastore, 1) := by decide +kernel
theorem dX2_set_42 : decode cX2_set 42 = .ok (.iconst 1, 1) := by decide +kernel
theorem dX2_set_43 : decode cX2_set 43 = .ok (.ireturn, 1) := by decide +kernel
set_option maxRecDepth 20000 in
theorem ggX2_root_X2_isIn : GoodIn wsX2_root wsX2_isIn := goodIn_r _ [5] (by decide +kernel) (by decide +kernel)
set_option maxRecDepth 20000 in
theorem gX2_root_X2_isIn : GoodIn wsX2_root (va_wsS RX2 52 yX2_isIn wsX2_isIn) := goodIn_app (goodIn_of _ (by decide +kernel)) ggX2_root_X2_isIn
set_option maxRecDepth 20000 in
theorem ggX2_root_X2_isLead : GoodIn wsX2_root wsX2_isLead := goodIn_r _ [9, 10, 11, 12, 4, 13, 14, 15, 2, 3, 5, 16, 17, 18, 19, 20, 21, 22, 23, 24, 25, 26, 27, 28, 29] (by decide +kernel) (by decide +kernel)
set_option maxRecDepth 20000 in
theorem gX2_root_X2_isLead : GoodIn wsX2_root (wsV RX2 63 RX2 yX2_isLead wsX2_isLead) := goodIn_app (goodIn_of _ (by decide +kernel)) ggX2_root_X2_isLead
theorem dX2_root_0 : decode cX2_root 0 = .ok (.iload_n 1, 1) := by decide +kernel
theorem dX2_root_1 : decode cX2_root 1 = .ok (.iconst 0, 1) := by decide +kernel
theorem dX2_root_2 : decode cX2_root 2 = .ok (.bipush 7, 2) := by decide +kernel
theorem dX2_root_4 : decode cX2_root 4 = .ok (.invokestatic 52, 3) := by decide +kernel
theorem dX2_root_7 : decode cX2_root 7 = .ok (.ifCond .eq 11, 3) := by decide +kernel
theorem dX2_root_10 : decode cX2_root 10 = .ok (.aload_n 0, 1) := by decide +kernel
theorem dX2_root_11 : decode cX2_root 11 = .ok (.iload_n 2, 1) := by decide +kernel
theorem dX2_root_12 : decode cX2_root 12 = .ok (.invokevirtual 63, 3) := by decide +kernel
theorem dX2_root_15 : decode cX2_root 15 = .ok (.ifCond .ne 5, 3) := by decide +kernel
theorem dX2_root_18 : decode cX2_root 18 = .ok (.iconst 0, 1) := by decide +kernel
theorem dX2_root_19 : decode cX2_root 19 = .ok (.ireturn, 1) := by decide +kernel
theorem dX2_root_20 : decode cX2_root 20 = .ok (.aload_n 0, 1) := by decide +kernel
theorem dX2_root_21 : decode cX2_root 21 = .ok (.getfield 27, 3) := by decide +kernel
theorem dX2_root_24 : decode cX2_root 24 = .ok (.iload_n 1, 1) := by decide +kernel
theorem dX2_root_25 : decode cX2_root 25 = .ok (.iload_n 2, 1) := by decide +kernel
theorem dX2_root_26 : decode cX2_root 26 = .ok (.iastore, 1) := by decide +kernel
theorem dX2_root_27 : decode cX2_root 27 = .ok (.iconst 1, 1) := by decide +kernel
theorem dX2_root_28 : decode cX2_root 28 = .ok (.ireturn, 1) := by decide +kernel
set_option maxRecDepth 20000 in
theorem ggX2_measure_X2_references : GoodIn wsX2_measure wsX2_references := goodIn_r _ [11, 6, 20, 21, 22, 23, 24, 25, 26, 27, 28, 29, 30, 31, 32, 33] (by decide +kernel) (by decide +kernel)
set_option maxRecDepth 20000 in
theorem gX2_measure_X2_references : GoodIn wsX2_measure (wsV RX2 45 RX2 yX2_references wsX2_references) := goodIn_app (goodIn_of _ (by decide +kernel)) ggX2_measure_X2_references
set_option maxRecDepth 20000 in
theorem ggX2_measure_X2_length : GoodIn wsX2_measure wsX2_length := goodIn_r _ [15, 7, 8, 9, 10, 11, 6, 16, 17, 18, 19, 20, 21, 22, 23, 24, 25, 26, 27, 28, 29, 30, 31, 32, 33] (by decide +kernel) (by decide +kernel)
set_option maxRecDepth 20000 in
theorem gX2_measure_X2_length : GoodIn wsX2_measure (wsV RX2 67 RX2 yX2_length wsX2_length) := goodIn_app (goodIn_of _ (by decide +kernel)) ggX2_measure_X2_length
theorem dX2_measure_0 : decode cX2_measure 0 = .ok (.iconst 0, 1) := by decide +kernel
theorem dX2_measure_1 : decode cX2_measure 1 = .ok (.istore_n 1, 1) := by decide +kernel
theorem dX2_measure_2 : decode cX2_measure 2 = .ok (.iload_n 1, 1) := by decide +kernel
theorem dX2_measure_3 : decode cX2_measure 3 = .ok (.aload_n 0, 1) := by decide +kernel
theorem dX2_measure_4 : decode cX2_measure 4 = .ok (.getfield 36, 3) := by decide +kernel
theorem dX2_measure_7 : decode cX2_measure 7 = .ok (.if_icmp .gt 17, 3) := by decide +kernel
theorem dX2_measure_10 : decode cX2_measure 10 = .ok (.aload_n 0, 1) := by decide +kernel
theorem dX2_measure_11 : decode cX2_measure 11 = .ok (.getfield 33, 3) := by decide +kernel
theorem dX2_measure_14 : decode cX2_measure 14 = .ok (.iload_n 1, 1) := by decide +kernel
theorem dX2_measure_15 : decode cX2_measure 15 = .ok (.ldc 66, 2) := by decide +kernel
theorem dX2_measure_17 : decode cX2_measure 17 = .ok (.iastore, 1) := by decide +kernel
theorem dX2_measure_18 : decode cX2_measure 18 = .ok (.iinc 1 1, 3) := by decide +kernel
theorem dX2_measure_21 : decode cX2_measure 21 = .ok (.goto (-19), 3) := by decide +kernel
theorem dX2_measure_24 : decode cX2_measure 24 = .ok (.iconst 0, 1) := by decide +kernel
theorem dX2_measure_25 : decode cX2_measure 25 = .ok (.istore_n 1, 1) := by decide +kernel
theorem dX2_measure_26 : decode cX2_measure 26 = .ok (.iload_n 1, 1) := by decide +kernel
theorem dX2_measure_27 : decode cX2_measure 27 = .ok (.bipush 8, 2) := by decide +kernel
theorem dX2_measure_29 : decode cX2_measure 29 = .ok (.if_icmp .ge 30, 3) := by decide +kernel
theorem dX2_measure_32 : decode cX2_measure 32 = .ok (.aload_n 0, 1) := by decide +kernel
theorem dX2_measure_33 : decode cX2_measure 33 = .ok (.getfield 27, 3) := by decide +kernel
theorem dX2_measure_36 : decode cX2_measure 36 = .ok (.iload_n 1, 1) := by decide +kernel
theorem dX2_measure_37 : decode cX2_measure 37 = .ok (.iaload, 1) := by decide +kernel
theorem dX2_measure_38 : decode cX2_measure 38 = .ok (.ifCond .le 15, 3) := by decide +kernel
theorem dX2_measure_41 : decode cX2_measure 41 = .ok (.aload_n 0, 1) := by decide +kernel
theorem dX2_measure_42 : decode cX2_measure 42 = .ok (.getfield 33, 3) := by decide +kernel
theorem dX2_measure_45 : decode cX2_measure 45 = .ok (.aload_n 0, 1) := by decide +kernel
theorem dX2_measure_46 : decode cX2_measure 46 = .ok (.getfield 27, 3) := by decide +kernel
theorem dX2_measure_49 : decode cX2_measure 49 = .ok (.iload_n 1, 1) := by decide +kernel
theorem dX2_measure_50 : decode cX2_measure 50 = .ok (.iaload, 1) := by decide +kernel
theorem dX2_measure_51 : decode cX2_measure 51 = .ok (.iconst 0, 1) := by decide +kernel
theorem dX2_measure_52 : decode cX2_measure 52 = .ok (.iastore, 1) := by decide +kernel
theorem dX2_measure_53 : decode cX2_measure 53 = .ok (.iinc 1 1, 3) := by decide +kernel
theorem dX2_measure_56 : decode cX2_measure 56 = .ok (.goto (-30), 3) := by decide +kernel
theorem dX2_measure_59 : decode cX2_measure 59 = .ok (.iconst 1, 1) := by decide +kernel
theorem dX2_measure_60 : decode cX2_measure 60 = .ok (.istore_n 1, 1) := by decide +kernel
theorem dX2_measure_61 : decode cX2_measure 61 = .ok (.iload_n 1, 1) := by decide +kernel
theorem dX2_measure_62 : decode cX2_measure 62 = .ok (.ifCond .eq 98, 3) := by decide +kernel
theorem dX2_measure_65 : decode cX2_measure 65 = .ok (.iconst 0, 1) := by decide +kernel
theorem dX2_measure_66 : decode cX2_measure 66 = .ok (.istore_n 1, 1) := by decide +kernel
theorem dX2_measure_67 : decode cX2_measure 67 = .ok (.iconst 1, 1) := by decide +kernel
theorem dX2_measure_68 : decode cX2_measure 68 = .ok (.istore_n 2, 1) := by decide +kernel
theorem dX2_measure_69 : decode cX2_measure 69 = .ok (.iload_n 2, 1) := by decide +kernel
theorem dX2_measure_70 : decode cX2_measure 70 = .ok (.aload_n 0, 1) := by decide +kernel
theorem dX2_measure_71 : decode cX2_measure 71 = .ok (.getfield 7, 3) := by decide +kernel
theorem dX2_measure_74 : decode cX2_measure 74 = .ok (.if_icmp .ge 83, 3) := by decide +kernel
theorem dX2_measure_77 : decode cX2_measure 77 = .ok (.iconst 0, 1) := by decide +kernel
theorem dX2_measure_78 : decode cX2_measure 78 = .ok (.istore_n 3, 1) := by decide +kernel
theorem dX2_measure_79 : decode cX2_measure 79 = .ok (.iload_n 3, 1) := by decide +kernel
theorem dX2_measure_80 : decode cX2_measure 80 = .ok (.aload_n 0, 1) := by decide +kernel
theorem dX2_measure_81 : decode cX2_measure 81 = .ok (.iload_n 2, 1) := by decide +kernel
theorem dX2_measure_82 : decode cX2_measure 82 = .ok (.invokevirtual 45, 3) := by decide +kernel
theorem dX2_measure_85 : decode cX2_measure 85 = .ok (.if_icmp .ge 61, 3) := by decide +kernel
theorem dX2_measure_88 : decode cX2_measure 88 = .ok (.aload_n 0, 1) := by decide +kernel
theorem dX2_measure_89 : decode cX2_measure 89 = .ok (.getfield 13, 3) := by decide +kernel
theorem dX2_measure_92 : decode cX2_measure 92 = .ok (.iload_n 2, 1) := by decide +kernel
theorem dX2_measure_93 : decode cX2_measure 93 = .ok (.iconst 1, 1) := by decide +kernel
theorem dX2_measure_94 : decode cX2_measure 94 = .ok (.iadd, 1) := by decide +kernel
theorem dX2_measure_95 : decode cX2_measure 95 = .ok (.iload_n 3, 1) := by decide +kernel
theorem dX2_measure_96 : decode cX2_measure 96 = .ok (.iadd, 1) := by decide +kernel
theorem dX2_measure_97 : decode cX2_measure 97 = .ok (.iaload, 1) := by decide +kernel
theorem dX2_measure_98 : decode cX2_measure 98 = .ok (.istore 4, 2) := by decide +kernel
theorem dX2_measure_100 : decode cX2_measure 100 = .ok (.iload 4, 2) := by decide +kernel
theorem dX2_measure_102 : decode cX2_measure 102 = .ok (.ifCond .le 38, 3) := by decide +kernel
theorem dX2_measure_105 : decode cX2_measure 105 = .ok (.aload_n 0, 1) := by decide +kernel
theorem dX2_measure_106 : decode cX2_measure 106 = .ok (.getfield 33, 3) := by decide +kernel
theorem dX2_measure_109 : decode cX2_measure 109 = .ok (.iload_n 2, 1) := by decide +kernel
theorem dX2_measure_110 : decode cX2_measure 110 = .ok (.iaload, 1) := by decide +kernel
theorem dX2_measure_111 : decode cX2_measure 111 = .ok (.iconst 1, 1) := by decide +kernel
theorem dX2_measure_112 : decode cX2_measure 112 = .ok (.iadd, 1) := by decide +kernel
theorem dX2_measure_113 : decode cX2_measure 113 = .ok (.aload_n 0, 1) := by decide +kernel
theorem dX2_measure_114 : decode cX2_measure 114 = .ok (.getfield 33, 3) := by decide +kernel
theorem dX2_measure_117 : decode cX2_measure 117 = .ok (.iload 4, 2) := by decide +kernel
theorem dX2_measure_119 : decode cX2_measure 119 = .ok (.iaload, 1) := by decide +kernel
theorem dX2_measure_120 : decode cX2_measure 120 = .ok (.if_icmp .ge 20, 3) := by decide +kernel
theorem dX2_measure_123 : decode cX2_measure 123 = .ok (.aload_n 0, 1) := by decide +kernel
theorem dX2_measure_124 : decode cX2_measure 124 = .ok (.getfield 33, 3) := by decide +kernel
theorem dX2_measure_127 : decode cX2_measure 127 = .ok (.iload 4, 2) := by decide +kernel
theorem dX2_measure_129 : decode cX2_measure 129 = .ok (.aload_n 0, 1) := by decide +kernel
theorem dX2_measure_130 : decode cX2_measure 130 = .ok (.getfield 33, 3) := by decide +kernel
theorem dX2_measure_133 : decode cX2_measure 133 = .ok (.iload_n 2, 1) := by decide +kernel
theorem dX2_measure_134 : decode cX2_measure 134 = .ok (.iaload, 1) := by decide +kernel
theorem dX2_measure_135 : decode cX2_measure 135 = .ok (.iconst 1, 1) := by decide +kernel
theorem dX2_measure_136 : decode cX2_measure 136 = .ok (.iadd, 1) := by decide +kernel
theorem dX2_measure_137 : decode cX2_measure 137 = .ok (.iastore, 1) := by decide +kernel
theorem dX2_measure_138 : decode cX2_measure 138 = .ok (.iconst 1, 1) := by decide +kernel
theorem dX2_measure_139 : decode cX2_measure 139 = .ok (.istore_n 1, 1) := by decide +kernel
theorem dX2_measure_140 : decode cX2_measure 140 = .ok (.iinc 3 1, 3) := by decide +kernel
theorem dX2_measure_143 : decode cX2_measure 143 = .ok (.goto (-64), 3) := by decide +kernel
theorem dX2_measure_146 : decode cX2_measure 146 = .ok (.iload_n 2, 1) := by decide +kernel
theorem dX2_measure_147 : decode cX2_measure 147 = .ok (.aload_n 0, 1) := by decide +kernel
theorem dX2_measure_148 : decode cX2_measure 148 = .ok (.iload_n 2, 1) := by decide +kernel
theorem dX2_measure_149 : decode cX2_measure 149 = .ok (.invokevirtual 67, 3) := by decide +kernel
theorem dX2_measure_152 : decode cX2_measure 152 = .ok (.iadd, 1) := by decide +kernel
theorem dX2_measure_153 : decode cX2_measure 153 = .ok (.istore_n 2, 1) := by decide +kernel
theorem dX2_measure_154 : decode cX2_measure 154 = .ok (.goto (-85), 3) := by decide +kernel
theorem dX2_measure_157 : decode cX2_measure 157 = .ok (.goto (-96), 3) := by decide +kernel
theorem dX2_measure_160 : decode cX2_measure 160 = .ok (.return_, 1) := by decide +kernel
set_option maxRecDepth 20000 in
theorem ggX2_collect_X2_measure : GoodIn wsX2_collect wsX2_measure := goodIn_r _ [18, 1, 5, 6, 11, 4, 9, 19, 20, 21, 17, 22, 23, 24, 25, 26, 27, 28, 29, 30, 31, 32, 33, 34, 35, 36, 37, 38, 39, 40, 41, 42, 43, 44] (by decide +kernel) (by decide +kernel)
set_option maxRecDepth 20000 in
theorem gX2_collect_X2_measure : GoodIn wsX2_collect (wsV RX2 70 RX2 yX2_measure wsX2_measure) := goodIn_app (goodIn_of _ (by decide +kernel)) ggX2_collect_X2_measure
set_option maxRecDepth 20000 in
theorem ggX2_collect_X2_length : GoodIn wsX2_collect wsX2_length := goodIn_r _ [26, 19, 20, 21, 17, 22, 9, 27, 28, 29, 30, 31, 32, 33, 34, 35, 36, 37, 38, 39, 40, 41, 42, 43, 44] (by decide +kernel) (by decide +kernel)
set_option maxRecDepth 20000 in
theorem gX2_collect_X2_length : GoodIn wsX2_collect (wsV RX2 67 RX2 yX2_length wsX2_length) := goodIn_app (goodIn_of _ (by decide +kernel)) ggX2_collect_X2_length
set_option maxRecDepth 20000 in
theorem ggX2_collect_X2_references : GoodIn wsX2_collect wsX2_references := goodIn_r _ [22, 9, 31, 32, 33, 34, 35, 36, 37, 38, 39, 40, 41, 42, 43, 44] (by decide +kernel) (by decide +kernel)
set_option maxRecDepth 20000 in
theorem gX2_collect_X2_references : GoodIn wsX2_collect (wsV RX2 45 RX2 yX2_references wsX2_references) := goodIn_app (goodIn_of _ (by decide +kernel)) ggX2_collect_X2_references
theorem dX2_collect_0 : decode cX2_collect 0 = .ok (.aload_n 0, 1) := by decide +kernel
theorem dX2_collect_1 : decode cX2_collect 1 = .ok (.invokevirtual 70, 3) := by decide +kernel
theorem dX2_collect_4 : decode cX2_collect 4 = .ok (.iconst 1, 1) := by decide +kernel
theorem dX2_collect_5 : decode cX2_collect 5 = .ok (.istore_n 1, 1) := by decide +kernel
theorem dX2_collect_6 : decode cX2_collect 6 = .ok (.iconst 0, 1) := by decide +kernel
theorem dX2_collect_7 : decode cX2_collect 7 = .ok (.istore_n 2, 1) := by decide +kernel
theorem dX2_collect_8 : decode cX2_collect 8 = .ok (.iload_n 2, 1) := by decide +kernel
theorem dX2_collect_9 : decode cX2_collect 9 = .ok (.aload_n 0, 1) := by decide +kernel
theorem dX2_collect_10 : decode cX2_collect 10 = .ok (.getfield 36, 3) := by decide +kernel
theorem dX2_collect_13 : decode cX2_collect 13 = .ok (.if_icmp .gt 23, 3) := by decide +kernel
theorem dX2_collect_16 : decode cX2_collect 16 = .ok (.aload_n 0, 1) := by decide +kernel
theorem dX2_collect_17 : decode cX2_collect 17 = .ok (.getfield 30, 3) := by decide +kernel
theorem dX2_collect_20 : decode cX2_collect 20 = .ok (.iload_n 2, 1) := by decide +kernel
theorem dX2_collect_21 : decode cX2_collect 21 = .ok (.iconst 0, 1) := by decide +kernel
theorem dX2_collect_22 : decode cX2_collect 22 = .ok (.iastore, 1) := by decide +kernel
theorem dX2_collect_23 : decode cX2_collect 23 = .ok (.aload_n 0, 1) := by decide +kernel
theorem dX2_collect_24 : decode cX2_collect 24 = .ok (.getfield 24, 3) := by decide +kernel
theorem dX2_collect_27 : decode cX2_collect 27 = .ok (.iload_n 2, 1) := by decide +kernel
theorem dX2_collect_28 : decode cX2_collect 28 = .ok (.iconst 0, 1) := by decide +kernel
theorem dX2_collect_29 : decode cX2_collect 29 = .ok (.bastore, 1) := by decide +kernel
theorem dX2_collect_30 : decode cX2_collect 30 = .ok (.iinc 2 1, 3) := by decide +kernel
theorem dX2_collect_33 : decode cX2_collect 33 = .ok (.goto (-25), 3) := by decide +kernel
theorem dX2_collect_36 : decode cX2_collect 36 = .ok (.iconst 1, 1) := by decide +kernel
theorem dX2_collect_37 : decode cX2_collect 37 = .ok (.istore_n 2, 1) := by decide +kernel
theorem dX2_collect_38 : decode cX2_collect 38 = .ok (.iload_n 2, 1) := by decide +kernel
theorem dX2_collect_39 : decode cX2_collect 39 = .ok (.aload_n 0, 1) := by decide +kernel
theorem dX2_collect_40 : decode cX2_collect 40 = .ok (.getfield 7, 3) := by decide +kernel
theorem dX2_collect_43 : decode cX2_collect 43 = .ok (.if_icmp .ge 54, 3) := by decide +kernel
theorem dX2_collect_46 : decode cX2_collect 46 = .ok (.iconst 0, 1) := by decide +kernel
theorem dX2_collect_47 : decode cX2_collect 47 = .ok (.istore_n 3, 1) := by decide +kernel
theorem dX2_collect_48 : decode cX2_collect 48 = .ok (.iload_n 3, 1) := by decide +kernel
theorem dX2_collect_49 : decode cX2_collect 49 = .ok (.aload_n 0, 1) := by decide +kernel
theorem dX2_collect_50 : decode cX2_collect 50 = .ok (.iload_n 2, 1) := by decide +kernel
theorem dX2_collect_51 : decode cX2_collect 51 = .ok (.invokevirtual 67, 3) := by decide +kernel
theorem dX2_collect_54 : decode cX2_collect 54 = .ok (.if_icmp .ge 32, 3) := by decide +kernel
theorem dX2_collect_57 : decode cX2_collect 57 = .ok (.aload_n 0, 1) := by decide +kernel
theorem dX2_collect_58 : decode cX2_collect 58 = .ok (.getfield 33, 3) := by decide +kernel
theorem dX2_collect_61 : decode cX2_collect 61 = .ok (.iload_n 2, 1) := by decide +kernel
theorem dX2_collect_62 : decode cX2_collect 62 = .ok (.iaload, 1) := by decide +kernel
theorem dX2_collect_63 : decode cX2_collect 63 = .ok (.ldc 66, 2) := by decide +kernel
theorem dX2_collect_65 : decode cX2_collect 65 = .ok (.if_icmp .ge 21, 3) := by decide +kernel
theorem dX2_collect_68 : decode cX2_collect 68 = .ok (.aload_n 0, 1) := by decide +kernel
theorem dX2_collect_69 : decode cX2_collect 69 = .ok (.getfield 30, 3) := by decide +kernel
theorem dX2_collect_72 : decode cX2_collect 72 = .ok (.iload_n 2, 1) := by decide +kernel
theorem dX2_collect_73 : decode cX2_collect 73 = .ok (.iload_n 3, 1) := by decide +kernel
theorem dX2_collect_74 : decode cX2_collect 74 = .ok (.iadd, 1) := by decide +kernel
theorem dX2_collect_75 : decode cX2_collect 75 = .ok (.iload_n 1, 1) := by decide +kernel
theorem dX2_collect_76 : decode cX2_collect 76 = .ok (.iastore, 1) := by decide +kernel
theorem dX2_collect_77 : decode cX2_collect 77 = .ok (.iinc 1 1, 3) := by decide +kernel
theorem dX2_collect_80 : decode cX2_collect 80 = .ok (.iinc 3 1, 3) := by decide +kernel
theorem dX2_collect_83 : decode cX2_collect 83 = .ok (.goto (-35), 3) := by decide +kernel
theorem dX2_collect_86 : decode cX2_collect 86 = .ok (.iload_n 2, 1) := by decide +kernel
theorem dX2_collect_87 : decode cX2_collect 87 = .ok (.aload_n 0, 1) := by decide +kernel
theorem dX2_collect_88 : decode cX2_collect 88 = .ok (.iload_n 2, 1) := by decide +kernel
theorem dX2_collect_89 : decode cX2_collect 89 = .ok (.invokevirtual 67, 3) := by decide +kernel
theorem dX2_collect_92 : decode cX2_collect 92 = .ok (.iadd, 1) := by decide +kernel
theorem dX2_collect_93 : decode cX2_collect 93 = .ok (.istore_n 2, 1) := by decide +kernel
theorem dX2_collect_94 : decode cX2_collect 94 = .ok (.goto (-56), 3) := by decide +kernel
theorem dX2_collect_97 : decode cX2_collect 97 = .ok (.iconst 0, 1) := by decide +kernel
theorem dX2_collect_98 : decode cX2_collect 98 = .ok (.istore_n 2, 1) := by decide +kernel
theorem dX2_collect_99 : decode cX2_collect 99 = .ok (.iload_n 2, 1) := by decide +kernel
theorem dX2_collect_100 : decode cX2_collect 100 = .ok (.aload_n 0, 1) := by decide +kernel
theorem dX2_collect_101 : decode cX2_collect 101 = .ok (.getfield 36, 3) := by decide +kernel
theorem dX2_collect_104 : decode cX2_collect 104 = .ok (.if_icmp .gt 16, 3) := by decide +kernel
theorem dX2_collect_107 : decode cX2_collect 107 = .ok (.aload_n 0, 1) := by decide +kernel
theorem dX2_collect_108 : decode cX2_collect 108 = .ok (.getfield 17, 3) := by decide +kernel
theorem dX2_collect_111 : decode cX2_collect 111 = .ok (.iload_n 2, 1) := by decide +kernel
theorem dX2_collect_112 : decode cX2_collect 112 = .ok (.iconst 0, 1) := by decide +kernel
theorem dX2_collect_113 : decode cX2_collect 113 = .ok (.iastore, 1) := by decide +kernel
theorem dX2_collect_114 : decode cX2_collect 114 = .ok (.iinc 2 1, 3) := by decide +kernel
theorem dX2_collect_117 : decode cX2_collect 117 = .ok (.goto (-18), 3) := by decide +kernel
theorem dX2_collect_120 : decode cX2_collect 120 = .ok (.aload_n 0, 1) := by decide +kernel
theorem dX2_collect_121 : decode cX2_collect 121 = .ok (.iconst 0, 1) := by decide +kernel
theorem dX2_collect_122 : decode cX2_collect 122 = .ok (.putfield 56, 3) := by decide +kernel
theorem dX2_collect_125 : decode cX2_collect 125 = .ok (.iconst 1, 1) := by decide +kernel
theorem dX2_collect_126 : decode cX2_collect 126 = .ok (.istore_n 2, 1) := by decide +kernel
theorem dX2_collect_127 : decode cX2_collect 127 = .ok (.iload_n 2, 1) := by decide +kernel
theorem dX2_collect_128 : decode cX2_collect 128 = .ok (.aload_n 0, 1) := by decide +kernel
theorem dX2_collect_129 : decode cX2_collect 129 = .ok (.getfield 7, 3) := by decide +kernel
theorem dX2_collect_132 : decode cX2_collect 132 = .ok (.if_icmp .ge 124, 3) := by decide +kernel
theorem dX2_collect_135 : decode cX2_collect 135 = .ok (.aload_n 0, 1) := by decide +kernel
theorem dX2_collect_136 : decode cX2_collect 136 = .ok (.getfield 30, 3) := by decide +kernel
theorem dX2_collect_139 : decode cX2_collect 139 = .ok (.iload_n 2, 1) := by decide +kernel
theorem dX2_collect_140 : decode cX2_collect 140 = .ok (.iaload, 1) := by decide +kernel
theorem dX2_collect_141 : decode cX2_collect 141 = .ok (.ifCond .le 104, 3) := by decide +kernel
theorem dX2_collect_144 : decode cX2_collect 144 = .ok (.aload_n 0, 1) := by decide +kernel
theorem dX2_collect_145 : decode cX2_collect 145 = .ok (.getfield 24, 3) := by decide +kernel
theorem dX2_collect_148 : decode cX2_collect 148 = .ok (.aload_n 0, 1) := by decide +kernel
theorem dX2_collect_149 : decode cX2_collect 149 = .ok (.getfield 30, 3) := by decide +kernel
theorem dX2_collect_152 : decode cX2_collect 152 = .ok (.iload_n 2, 1) := by decide +kernel
theorem dX2_collect_153 : decode cX2_collect 153 = .ok (.iaload, 1) := by decide +kernel
theorem dX2_collect_154 : decode cX2_collect 154 = .ok (.iconst 1, 1) := by decide +kernel
theorem dX2_collect_155 : decode cX2_collect 155 = .ok (.bastore, 1) := by decide +kernel
theorem dX2_collect_156 : decode cX2_collect 156 = .ok (.aload_n 0, 1) := by decide +kernel
theorem dX2_collect_157 : decode cX2_collect 157 = .ok (.dup, 1) := by decide +kernel
theorem dX2_collect_158 : decode cX2_collect 158 = .ok (.getfield 56, 3) := by decide +kernel
theorem dX2_collect_161 : decode cX2_collect 161 = .ok (.iconst 1, 1) := by decide +kernel
theorem dX2_collect_162 : decode cX2_collect 162 = .ok (.iadd, 1) := by decide +kernel
theorem dX2_collect_163 : decode cX2_collect 163 = .ok (.putfield 56, 3) := by decide +kernel
theorem dX2_collect_166 : decode cX2_collect 166 = .ok (.iconst 0, 1) := by decide +kernel
theorem dX2_collect_167 : decode cX2_collect 167 = .ok (.istore_n 3, 1) := by decide +kernel
theorem dX2_collect_168 : decode cX2_collect 168 = .ok (.iload_n 3, 1) := by decide +kernel
theorem dX2_collect_169 : decode cX2_collect 169 = .ok (.aload_n 0, 1) := by decide +kernel
theorem dX2_collect_170 : decode cX2_collect 170 = .ok (.iload_n 2, 1) := by decide +kernel
theorem dX2_collect_171 : decode cX2_collect 171 = .ok (.invokevirtual 67, 3) := by decide +kernel
theorem dX2_collect_174 : decode cX2_collect 174 = .ok (.if_icmp .ge 71, 3) := by decide +kernel
theorem dX2_collect_177 : decode cX2_collect 177 = .ok (.iload_n 3, 1) := by decide +kernel
theorem dX2_collect_178 : decode cX2_collect 178 = .ok (.ifCond .le 16, 3) := by decide +kernel
theorem dX2_collect_181 : decode cX2_collect 181 = .ok (.iload_n 3, 1) := by decide +kernel
theorem dX2_collect_182 : decode cX2_collect 182 = .ok (.aload_n 0, 1) := by decide +kernel
theorem dX2_collect_183 : decode cX2_collect 183 = .ok (.iload_n 2, 1) := by decide +kernel
theorem dX2_collect_184 : decode cX2_collect 184 = .ok (.invokevirtual 45, 3) := by decide +kernel
theorem dX2_collect_187 : decode cX2_collect 187 = .ok (.if_icmp .gt 7, 3) := by decide +kernel
theorem dX2_collect_190 : decode cX2_collect 190 = .ok (.iconst 1, 1) := by decide +kernel
theorem dX2_collect_191 : decode cX2_collect 191 = .ok (.goto 4, 3) := by decide +kernel
theorem dX2_collect_194 : decode cX2_collect 194 = .ok (.iconst 0, 1) := by decide +kernel
theorem dX2_collect_195 : decode cX2_collect 195 = .ok (.istore 4, 2) := by decide +kernel
theorem dX2_collect_197 : decode cX2_collect 197 = .ok (.aload_n 0, 1) := by decide +kernel
theorem dX2_collect_198 : decode cX2_collect 198 = .ok (.getfield 17, 3) := by decide +kernel
theorem dX2_collect_201 : decode cX2_collect 201 = .ok (.aload_n 0, 1) := by decide +kernel
theorem dX2_collect_202 : decode cX2_collect 202 = .ok (.getfield 30, 3) := by decide +kernel
theorem dX2_collect_205 : decode cX2_collect 205 = .ok (.iload_n 2, 1) := by decide +kernel
theorem dX2_collect_206 : decode cX2_collect 206 = .ok (.iaload, 1) := by decide +kernel
theorem dX2_collect_207 : decode cX2_collect 207 = .ok (.iload_n 3, 1) := by decide +kernel
theorem dX2_collect_208 : decode cX2_collect 208 = .ok (.iadd, 1) := by decide +kernel
theorem dX2_collect_209 : decode cX2_collect 209 = .ok (.iload 4, 2) := by decide +kernel
theorem dX2_collect_211 : decode cX2_collect 211 = .ok (.ifCond .eq 19, 3) := by decide +kernel
theorem dX2_collect_214 : decode cX2_collect 214 = .ok (.aload_n 0, 1) := by decide +kernel
theorem dX2_collect_215 : decode cX2_collect 215 = .ok (.getfield 30, 3) := by decide +kernel
theorem dX2_collect_218 : decode cX2_collect 218 = .ok (.aload_n 0, 1) := by decide +kernel
theorem dX2_collect_219 : decode cX2_collect 219 = .ok (.getfield 13, 3) := by decide +kernel
theorem dX2_collect_222 : decode cX2_collect 222 = .ok (.iload_n 2, 1) := by decide +kernel
theorem dX2_collect_223 : decode cX2_collect 223 = .ok (.iload_n 3, 1) := by decide +kernel
theorem dX2_collect_224 : decode cX2_collect 224 = .ok (.iadd, 1) := by decide +kernel
theorem dX2_collect_225 : decode cX2_collect 225 = .ok (.iaload, 1) := by decide +kernel
theorem dX2_collect_226 : decode cX2_collect 226 = .ok (.iaload, 1) := by decide +kernel
theorem dX2_collect_227 : decode cX2_collect 227 = .ok (.goto 11, 3) := by decide +kernel
theorem dX2_collect_230 : decode cX2_collect 230 = .ok (.aload_n 0, 1) := by decide +kernel
theorem dX2_collect_231 : decode cX2_collect 231 = .ok (.getfield 13, 3) := by decide +kernel
theorem dX2_collect_234 : decode cX2_collect 234 = .ok (.iload_n 2, 1) := by decide +kernel
theorem dX2_collect_235 : decode cX2_collect 235 = .ok (.iload_n 3, 1) := by decide +kernel
theorem dX2_collect_236 : decode cX2_collect 236 = .ok (.iadd, 1) := by decide +kernel
theorem dX2_collect_237 : decode cX2_collect 237 = .ok (.iaload, 1) := by decide +kernel
theorem dX2_collect_238 : decode cX2_collect 238 = .ok (.iastore, 1) := by decide +kernel
theorem dX2_collect_239 : decode cX2_collect 239 = .ok (.iinc 3 1, 3) := by decide +kernel
theorem dX2_collect_242 : decode cX2_collect 242 = .ok (.goto (-74), 3) := by decide +kernel
theorem dX2_collect_245 : decode cX2_collect 245 = .ok (.iload_n 2, 1) := by decide +kernel
theorem dX2_collect_246 : decode cX2_collect 246 = .ok (.aload_n 0, 1) := by decide +kernel
theorem dX2_collect_247 : decode cX2_collect 247 = .ok (.iload_n 2, 1) := by decide +kernel
theorem dX2_collect_248 : decode cX2_collect 248 = .ok (.invokevirtual 67, 3) := by decide +kernel
theorem dX2_collect_251 : decode cX2_collect 251 = .ok (.iadd, 1) := by decide +kernel
theorem dX2_collect_252 : decode cX2_collect 252 = .ok (.istore_n 2, 1) := by decide +kernel
theorem dX2_collect_253 : decode cX2_collect 253 = .ok (.goto (-126), 3) := by decide +kernel
theorem dX2_collect_256 : decode cX2_collect 256 = .ok (.iconst 0, 1) := by decide +kernel
theorem dX2_collect_257 : decode cX2_collect 257 = .ok (.istore_n 2, 1) := by decide +kernel
theorem dX2_collect_258 : decode cX2_collect 258 = .ok (.iload_n 2, 1) := by decide +kernel
theorem dX2_collect_259 : decode cX2_collect 259 = .ok (.aload_n 0, 1) := by decide +kernel
theorem dX2_collect_260 : decode cX2_collect 260 = .ok (.getfield 36, 3) := by decide +kernel
theorem dX2_collect_263 : decode cX2_collect 263 = .ok (.if_icmp .gt 33, 3) := by decide +kernel
theorem dX2_collect_266 : decode cX2_collect 266 = .ok (.aload_n 0, 1) := by decide +kernel
theorem dX2_collect_267 : decode cX2_collect 267 = .ok (.getfield 13, 3) := by decide +kernel
theorem dX2_collect_270 : decode cX2_collect 270 = .ok (.iload_n 2, 1) := by decide +kernel
theorem dX2_collect_271 : decode cX2_collect 271 = .ok (.aload_n 0, 1) := by decide +kernel
theorem dX2_collect_272 : decode cX2_collect 272 = .ok (.getfield 17, 3) := by decide +kernel
theorem dX2_collect_275 : decode cX2_collect 275 = .ok (.iload_n 2, 1) := by decide +kernel
theorem dX2_collect_276 : decode cX2_collect 276 = .ok (.iaload, 1) := by decide +kernel
theorem dX2_collect_277 : decode cX2_collect 277 = .ok (.iastore, 1) := by decide +kernel
theorem dX2_collect_278 : decode cX2_collect 278 = .ok (.aload_n 0, 1) := by decide +kernel
theorem dX2_collect_279 : decode cX2_collect 279 = .ok (.getfield 20, 3) := by decide +kernel
theorem dX2_collect_282 : decode cX2_collect 282 = .ok (.iload_n 2, 1) := by decide +kernel
theorem dX2_collect_283 : decode cX2_collect 283 = .ok (.aload_n 0, 1) := by decide +kernel
theorem dX2_collect_284 : decode cX2_collect 284 = .ok (.getfield 24, 3) := by decide +kernel
theorem dX2_collect_287 : decode cX2_collect 287 = .ok (.iload_n 2, 1) := by decide +kernel
theorem dX2_collect_288 : decode cX2_collect 288 = .ok (.baload, 1) := by decide +kernel
theorem dX2_collect_289 : decode cX2_collect 289 = .ok (.bastore, 1) := by decide +kernel
theorem dX2_collect_290 : decode cX2_collect 290 = .ok (.iinc 2 1, 3) := by decide +kernel
theorem dX2_collect_293 : decode cX2_collect 293 = .ok (.goto (-35), 3) := by decide +kernel
theorem dX2_collect_296 : decode cX2_collect 296 = .ok (.iconst 0, 1) := by decide +kernel
theorem dX2_collect_297 : decode cX2_collect 297 = .ok (.istore_n 2, 1) := by decide +kernel
theorem dX2_collect_298 : decode cX2_collect 298 = .ok (.iload_n 2, 1) := by decide +kernel
theorem dX2_collect_299 : decode cX2_collect 299 = .ok (.bipush 8, 2) := by decide +kernel
theorem dX2_collect_301 : decode cX2_collect 301 = .ok (.if_icmp .ge 26, 3) := by decide +kernel
theorem dX2_collect_304 : decode cX2_collect 304 = .ok (.aload_n 0, 1) := by decide +kernel
theorem dX2_collect_305 : decode cX2_collect 305 = .ok (.getfield 27, 3) := by decide +kernel
theorem dX2_collect_308 : decode cX2_collect 308 = .ok (.iload_n 2, 1) := by decide +kernel
theorem dX2_collect_309 : decode cX2_collect 309 = .ok (.aload_n 0, 1) := by decide +kernel
theorem dX2_collect_310 : decode cX2_collect 310 = .ok (.getfield 30, 3) := by decide +kernel
theorem dX2_collect_313 : decode cX2_collect 313 = .ok (.aload_n 0, 1) := by decide +kernel
theorem dX2_collect_314 : decode cX2_collect 314 = .ok (.getfield 27, 3) := by decide +kernel
theorem dX2_collect_317 : decode cX2_collect 317 = .ok (.iload_n 2, 1) := by decide +kernel
theorem dX2_collect_318 : decode cX2_collect 318 = .ok (.iaload, 1) := by decide +kernel
theorem dX2_collect_319 : decode cX2_collect 319 = .ok (.iaload, 1) := by decide +kernel
theorem dX2_collect_320 : decode cX2_collect 320 = .ok (.iastore, 1) := by decide +kernel
theorem dX2_collect_321 : decode cX2_collect 321 = .ok (.iinc 2 1, 3) := by decide +kernel
theorem dX2_collect_324 : decode cX2_collect 324 = .ok (.goto (-26), 3) := by decide +kernel
theorem dX2_collect_327 : decode cX2_collect 327 = .ok (.aload_n 0, 1) := by decide +kernel
theorem dX2_collect_328 : decode cX2_collect 328 = .ok (.iload_n 1, 1) := by decide +kernel
theorem dX2_collect_329 : decode cX2_collect 329 = .ok (.putfield 7, 3) := by decide +kernel
theorem dX2_collect_332 : decode cX2_collect 332 = .ok (.aload_n 0, 1) := by decide +kernel
theorem dX2_collect_333 : decode cX2_collect 333 = .ok (.iload_n 1, 1) := by decide +kernel
theorem dX2_collect_334 : decode cX2_collect 334 = .ok (.iconst 1, 1) := by decide +kernel
theorem dX2_collect_335 : decode cX2_collect 335 = .ok (.isub, 1) := by decide +kernel
theorem dX2_collect_336 : decode cX2_collect 336 = .ok (.putfield 73, 3) := by decide +kernel
theorem dX2_collect_339 : decode cX2_collect 339 = .ok (.aload_n 0, 1) := by decide +kernel
theorem dX2_collect_340 : decode cX2_collect 340 = .ok (.dup, 1) := by decide +kernel
theorem dX2_collect_341 : decode cX2_collect 341 = .ok (.getfield 76, 3) := by decide +kernel
theorem dX2_collect_344 : decode cX2_collect 344 = .ok (.iconst 1, 1) := by decide +kernel
theorem dX2_collect_345 : decode cX2_collect 345 = .ok (.iadd, 1) := by decide +kernel
theorem dX2_collect_346 : decode cX2_collect 346 = .ok (.putfield 76, 3) := by decide +kernel
theorem dX2_collect_349 : decode cX2_collect 349 = .ok (.aload_n 0, 1) := by decide +kernel
theorem dX2_collect_350 : decode cX2_collect 350 = .ok (.getfield 73, 3) := by decide +kernel
theorem dX2_collect_353 : decode cX2_collect 353 = .ok (.ireturn, 1) := by decide +kernel
set_option maxRecDepth 20000 in
theorem ggX2_isWord_X2_isIn : GoodIn wsX2_isWord wsX2_isIn := goodIn_r _ [5] (by decide +kernel) (by decide +kernel)
set_option maxRecDepth 20000 in
theorem gX2_isWord_X2_isIn : GoodIn wsX2_isWord (va_wsS RX2 52 yX2_isIn wsX2_isIn) := goodIn_app (goodIn_of _ (by decide +kernel)) ggX2_isWord_X2_isIn
theorem dX2_isWord_0 : decode cX2_isWord 0 = .ok (.iload_n 1, 1) := by decide +kernel
theorem dX2_isWord_1 : decode cX2_isWord 1 = .ok (.iconst 0, 1) := by decide +kernel
theorem dX2_isWord_2 : decode cX2_isWord 2 = .ok (.aload_n 0, 1) := by decide +kernel
theorem dX2_isWord_3 : decode cX2_isWord 3 = .ok (.getfield 36, 3) := by decide +kernel
theorem dX2_isWord_6 : decode cX2_isWord 6 = .ok (.invokestatic 52, 3) := by decide +kernel
theorem dX2_isWord_9 : decode cX2_isWord 9 = .ok (.ireturn, 1) := by decide +kernel
set_option maxRecDepth 20000 in
theorem ggX2_word_X2_isWord : GoodIn wsX2_word wsX2_isWord := goodIn_r _ [6, 7, 8, 9, 5, 10, 11, 12, 13, 14, 15, 16, 17, 18, 19, 20, 21, 22, 23, 24] (by decide +kernel) (by decide +kernel)
set_option maxRecDepth 20000 in
theorem gX2_word_X2_isWord : GoodIn wsX2_word (wsV RX2 79 RX2 yX2_isWord wsX2_isWord) := goodIn_app (goodIn_of _ (by decide +kernel)) ggX2_word_X2_isWord
theorem dX2_word_0 : decode cX2_word 0 = .ok (.aload_n 0, 1) := by decide +kernel
theorem dX2_word_1 : decode cX2_word 1 = .ok (.iload_n 1, 1) := by decide +kernel
theorem dX2_word_2 : decode cX2_word 2 = .ok (.invokevirtual 79, 3) := by decide +kernel
theorem dX2_word_5 : decode cX2_word 5 = .ok (.ifCond .eq 12, 3) := by decide +kernel
theorem dX2_word_8 : decode cX2_word 8 = .ok (.aload_n 0, 1) := by decide +kernel
theorem dX2_word_9 : decode cX2_word 9 = .ok (.getfield 13, 3) := by decide +kernel
theorem dX2_word_12 : decode cX2_word 12 = .ok (.iload_n 1, 1) := by decide +kernel
theorem dX2_word_13 : decode cX2_word 13 = .ok (.iaload, 1) := by decide +kernel
theorem dX2_word_14 : decode cX2_word 14 = .ok (.goto 4, 3) := by decide +kernel
theorem dX2_word_17 : decode cX2_word 17 = .ok (.iconst (-1), 1) := by decide +kernel
theorem dX2_word_18 : decode cX2_word 18 = .ok (.ireturn, 1) := by decide +kernel
set_option maxRecDepth 20000 in
theorem ggX2_rootOf_X2_isIn : GoodIn wsX2_rootOf wsX2_isIn := goodIn_r _ [5] (by decide +kernel) (by decide +kernel)
set_option maxRecDepth 20000 in
theorem gX2_rootOf_X2_isIn : GoodIn wsX2_rootOf (va_wsS RX2 52 yX2_isIn wsX2_isIn) := goodIn_app (goodIn_of _ (by decide +kernel)) ggX2_rootOf_X2_isIn
theorem dX2_rootOf_0 : decode cX2_rootOf 0 = .ok (.iload_n 1, 1) := by decide +kernel
theorem dX2_rootOf_1 : decode cX2_rootOf 1 = .ok (.iconst 0, 1) := by decide +kernel
theorem dX2_rootOf_2 : decode cX2_rootOf 2 = .ok (.bipush 7, 2) := by decide +kernel
theorem dX2_rootOf_4 : decode cX2_rootOf 4 = .ok (.invokestatic 52, 3) := by decide +kernel
theorem dX2_rootOf_7 : decode cX2_rootOf 7 = .ok (.ifCond .eq 12, 3) := by decide +kernel
theorem dX2_rootOf_10 : decode cX2_rootOf 10 = .ok (.aload_n 0, 1) := by decide +kernel
theorem dX2_rootOf_11 : decode cX2_rootOf 11 = .ok (.getfield 27, 3) := by decide +kernel
theorem dX2_rootOf_14 : decode cX2_rootOf 14 = .ok (.iload_n 1, 1) := by decide +kernel
theorem dX2_rootOf_15 : decode cX2_rootOf 15 = .ok (.iaload, 1) := by decide +kernel
theorem dX2_rootOf_16 : decode cX2_rootOf 16 = .ok (.goto 4, 3) := by decide +kernel
theorem dX2_rootOf_19 : decode cX2_rootOf 19 = .ok (.iconst (-1), 1) := by decide +kernel
theorem dX2_rootOf_20 : decode cX2_rootOf 20 = .ok (.ireturn, 1) := by decide +kernel
set_option maxRecDepth 20000 in
theorem ggX2_bit_X2_isWord : GoodIn wsX2_bit wsX2_isWord := goodIn_r _ [6, 7, 8, 9, 5, 10, 11, 12, 13, 14, 15, 16, 17, 18, 19, 20, 21, 22, 23, 24] (by decide +kernel) (by decide +kernel)
set_option maxRecDepth 20000 in
theorem gX2_bit_X2_isWord : GoodIn wsX2_bit (wsV RX2 79 RX2 yX2_isWord wsX2_isWord) := goodIn_app (goodIn_of _ (by decide +kernel)) ggX2_bit_X2_isWord
theorem dX2_bit_0 : decode cX2_bit 0 = .ok (.aload_n 0, 1) := by decide +kernel
theorem dX2_bit_1 : decode cX2_bit 1 = .ok (.iload_n 1, 1) := by decide +kernel
theorem dX2_bit_2 : decode cX2_bit 2 = .ok (.invokevirtual 79, 3) := by decide +kernel
theorem dX2_bit_5 : decode cX2_bit 5 = .ok (.ifCond .ne 7, 3) := by decide +kernel
theorem dX2_bit_8 : decode cX2_bit 8 = .ok (.iconst (-1), 1) := by decide +kernel
theorem dX2_bit_9 : decode cX2_bit 9 = .ok (.goto 17, 3) := by decide +kernel
theorem dX2_bit_12 : decode cX2_bit 12 = .ok (.aload_n 0, 1) := by decide +kernel
theorem dX2_bit_13 : decode cX2_bit 13 = .ok (.getfield 30, 3) := by decide +kernel
theorem dX2_bit_16 : decode cX2_bit 16 = .ok (.iload_n 1, 1) := by decide +kernel
theorem dX2_bit_17 : decode cX2_bit 17 = .ok (.iaload, 1) := by decide +kernel
theorem dX2_bit_18 : decode cX2_bit 18 = .ok (.ifCond .le 7, 3) := by decide +kernel
theorem dX2_bit_21 : decode cX2_bit 21 = .ok (.iconst 1, 1) := by decide +kernel
theorem dX2_bit_22 : decode cX2_bit 22 = .ok (.goto 4, 3) := by decide +kernel
theorem dX2_bit_25 : decode cX2_bit 25 = .ok (.iconst 0, 1) := by decide +kernel
theorem dX2_bit_26 : decode cX2_bit 26 = .ok (.ireturn, 1) := by decide +kernel
theorem dX2_blocks_0 : decode cX2_blocks 0 = .ok (.aload_n 0, 1) := by decide +kernel
theorem dX2_blocks_1 : decode cX2_blocks 1 = .ok (.getfield 36, 3) := by decide +kernel
theorem dX2_blocks_4 : decode cX2_blocks 4 = .ok (.aload_n 0, 1) := by decide +kernel
theorem dX2_blocks_5 : decode cX2_blocks 5 = .ok (.getfield 39, 3) := by decide +kernel
theorem dX2_blocks_8 : decode cX2_blocks 8 = .ok (.idiv, 1) := by decide +kernel
theorem dX2_blocks_9 : decode cX2_blocks 9 = .ok (.iconst 1, 1) := by decide +kernel
theorem dX2_blocks_10 : decode cX2_blocks 10 = .ok (.iadd, 1) := by decide +kernel
theorem dX2_blocks_11 : decode cX2_blocks 11 = .ok (.ireturn, 1) := by decide +kernel
set_option maxRecDepth 20000 in
theorem ggX2_offset_X2_blocks : GoodIn wsX2_offset wsX2_blocks := goodIn_r _ [7, 8, 1, 12, 13, 14, 15, 16, 17, 18, 19, 20, 21, 22, 23, 24, 25] (by decide +kernel) (by decide +kernel)
set_option maxRecDepth 20000 in
theorem gX2_offset_X2_blocks : GoodIn wsX2_offset (wsV RX2 82 RX2 yX2_blocks wsX2_blocks) := goodIn_app (goodIn_of _ (by decide +kernel)) ggX2_offset_X2_blocks
set_option maxRecDepth 20000 in
theorem ggX2_offset_X2_isIn : GoodIn wsX2_offset wsX2_isIn := goodIn_r _ [11] (by decide +kernel) (by decide +kernel)
set_option maxRecDepth 20000 in
theorem gX2_offset_X2_isIn : GoodIn wsX2_offset (va_wsS RX2 52 yX2_isIn wsX2_isIn) := goodIn_app (goodIn_of _ (by decide +kernel)) ggX2_offset_X2_isIn
theorem dX2_offset_0 : decode cX2_offset 0 = .ok (.iload_n 1, 1) := by decide +kernel
theorem dX2_offset_1 : decode cX2_offset 1 = .ok (.iconst 0, 1) := by decide +kernel
theorem dX2_offset_2 : decode cX2_offset 2 = .ok (.aload_n 0, 1) := by decide +kernel
theorem dX2_offset_3 : decode cX2_offset 3 = .ok (.invokevirtual 82, 3) := by decide +kernel
theorem dX2_offset_6 : decode cX2_offset 6 = .ok (.iconst 1, 1) := by decide +kernel
theorem dX2_offset_7 : decode cX2_offset 7 = .ok (.isub, 1) := by decide +kernel
theorem dX2_offset_8 : decode cX2_offset 8 = .ok (.invokestatic 52, 3) := by decide +kernel
theorem dX2_offset_11 : decode cX2_offset 11 = .ok (.ifCond .ne 5, 3) := by decide +kernel
theorem dX2_offset_14 : decode cX2_offset 14 = .ok (.iconst (-1), 1) := by decide +kernel
theorem dX2_offset_15 : decode cX2_offset 15 = .ok (.ireturn, 1) := by decide +kernel
theorem dX2_offset_16 : decode cX2_offset 16 = .ok (.iconst 0, 1) := by decide +kernel
theorem dX2_offset_17 : decode cX2_offset 17 = .ok (.istore_n 2, 1) := by decide +kernel
theorem dX2_offset_18 : decode cX2_offset 18 = .ok (.iconst 0, 1) := by decide +kernel
theorem dX2_offset_19 : decode cX2_offset 19 = .ok (.istore_n 3, 1) := by decide +kernel
theorem dX2_offset_20 : decode cX2_offset 20 = .ok (.iload_n 3, 1) := by decide +kernel
theorem dX2_offset_21 : decode cX2_offset 21 = .ok (.iload_n 1, 1) := by decide +kernel
theorem dX2_offset_22 : decode cX2_offset 22 = .ok (.aload_n 0, 1) := by decide +kernel
theorem dX2_offset_23 : decode cX2_offset 23 = .ok (.getfield 39, 3) := by decide +kernel
theorem dX2_offset_26 : decode cX2_offset 26 = .ok (.imul, 1) := by decide +kernel
theorem dX2_offset_27 : decode cX2_offset 27 = .ok (.if_icmp .ge 26, 3) := by decide +kernel
theorem dX2_offset_30 : decode cX2_offset 30 = .ok (.aload_n 0, 1) := by decide +kernel
theorem dX2_offset_31 : decode cX2_offset 31 = .ok (.getfield 30, 3) := by decide +kernel
theorem dX2_offset_34 : decode cX2_offset 34 = .ok (.iload_n 3, 1) := by decide +kernel
theorem dX2_offset_35 : decode cX2_offset 35 = .ok (.iaload, 1) := by decide +kernel
theorem dX2_offset_36 : decode cX2_offset 36 = .ok (.ifCond .le 9, 3) := by decide +kernel
theorem dX2_offset_39 : decode cX2_offset 39 = .ok (.iload_n 2, 1) := by decide +kernel
theorem dX2_offset_40 : decode cX2_offset 40 = .ok (.iconst 1, 1) := by decide +kernel
theorem dX2_offset_41 : decode cX2_offset 41 = .ok (.iadd, 1) := by decide +kernel
theorem dX2_offset_42 : decode cX2_offset 42 = .ok (.goto 4, 3) := by decide +kernel
theorem dX2_offset_45 : decode cX2_offset 45 = .ok (.iload_n 2, 1) := by decide +kernel
theorem dX2_offset_46 : decode cX2_offset 46 = .ok (.istore_n 2, 1) := by decide +kernel
theorem dX2_offset_47 : decode cX2_offset 47 = .ok (.iinc 3 1, 3) := by decide +kernel
theorem dX2_offset_50 : decode cX2_offset 50 = .ok (.goto (-30), 3) := by decide +kernel
theorem dX2_offset_53 : decode cX2_offset 53 = .ok (.iload_n 2, 1) := by decide +kernel
theorem dX2_offset_54 : decode cX2_offset 54 = .ok (.ireturn, 1) := by decide +kernel
set_option maxRecDepth 20000 in
theorem ggX2_moved_X2_isWord : GoodIn wsX2_moved wsX2_isWord := goodIn_r _ [6, 7, 8, 9, 5, 10, 11, 12, 13, 14, 15, 16, 17, 18, 19, 20, 21, 22, 23, 24] (by decide +kernel) (by decide +kernel)
set_option maxRecDepth 20000 in
theorem gX2_moved_X2_isWord : GoodIn wsX2_moved (wsV RX2 79 RX2 yX2_isWord wsX2_isWord) := goodIn_app (goodIn_of _ (by decide +kernel)) ggX2_moved_X2_isWord
theorem dX2_moved_0 : decode cX2_moved 0 = .ok (.aload_n 0, 1) := by decide +kernel
theorem dX2_moved_1 : decode cX2_moved 1 = .ok (.iload_n 1, 1) := by decide +kernel
theorem dX2_moved_2 : decode cX2_moved 2 = .ok (.invokevirtual 79, 3) := by decide +kernel
theorem dX2_moved_5 : decode cX2_moved 5 = .ok (.ifCond .eq 12, 3) := by decide +kernel
theorem dX2_moved_8 : decode cX2_moved 8 = .ok (.aload_n 0, 1) := by decide +kernel
theorem dX2_moved_9 : decode cX2_moved 9 = .ok (.getfield 30, 3) := by decide +kernel
theorem dX2_moved_12 : decode cX2_moved 12 = .ok (.iload_n 1, 1) := by decide +kernel
theorem dX2_moved_13 : decode cX2_moved 13 = .ok (.iaload, 1) := by decide +kernel
theorem dX2_moved_14 : decode cX2_moved 14 = .ok (.goto 4, 3) := by decide +kernel
theorem dX2_moved_17 : decode cX2_moved 17 = .ok (.iconst (-1), 1) := by decide +kernel
theorem dX2_moved_18 : decode cX2_moved 18 = .ok (.ireturn, 1) := by decide +kernel
theorem dX2_reads_0 : decode cX2_reads 0 = .ok (.aload_n 0, 1) := by decide +kernel
theorem dX2_reads_1 : decode cX2_reads 1 = .ok (.getfield 73, 3) := by decide +kernel
theorem dX2_reads_4 : decode cX2_reads 4 = .ok (.ireturn, 1) := by decide +kernel
set_option maxRecDepth 20000 in
theorem ggX2_near_X2_isIn : GoodIn wsX2_near wsX2_isIn := goodIn_r _ [6] (by decide +kernel) (by decide +kernel)
set_option maxRecDepth 20000 in
theorem gX2_near_X2_isIn : GoodIn wsX2_near (va_wsS RX2 52 yX2_isIn wsX2_isIn) := goodIn_app (goodIn_of _ (by decide +kernel)) ggX2_near_X2_isIn
set_option maxRecDepth 20000 in
theorem ggX2_near_X2_measure : GoodIn wsX2_near wsX2_measure := goodIn_r _ [10, 11, 2, 12, 13, 1, 14, 15, 16, 17, 5, 18, 19, 20, 21, 22, 23, 24, 25, 26, 27, 28, 29, 30, 31, 32, 33, 34, 35, 36, 37, 38, 39, 40] (by decide +kernel) (by decide +kernel)
set_option maxRecDepth 20000 in
theorem gX2_near_X2_measure : GoodIn wsX2_near (wsV RX2 70 RX2 yX2_measure wsX2_measure) := goodIn_app (goodIn_of _ (by decide +kernel)) ggX2_near_X2_measure
set_option maxRecDepth 20000 in
theorem ggX2_near_X2_length : GoodIn wsX2_near wsX2_length := goodIn_r _ [22, 15, 16, 17, 5, 18, 14, 23, 24, 25, 26, 27, 28, 29, 30, 31, 32, 33, 34, 35, 36, 37, 38, 39, 40] (by decide +kernel) (by decide +kernel)
set_option maxRecDepth 20000 in
theorem gX2_near_X2_length : GoodIn wsX2_near (wsV RX2 67 RX2 yX2_length wsX2_length) := goodIn_app (goodIn_of _ (by decide +kernel)) ggX2_near_X2_length
theorem dX2_near_0 : decode cX2_near 0 = .ok (.iload_n 1, 1) := by decide +kernel
theorem dX2_near_1 : decode cX2_near 1 = .ok (.iconst 0, 1) := by decide +kernel
theorem dX2_near_2 : decode cX2_near 2 = .ok (.bipush 100, 2) := by decide +kernel
theorem dX2_near_4 : decode cX2_near 4 = .ok (.invokestatic 52, 3) := by decide +kernel
theorem dX2_near_7 : decode cX2_near 7 = .ok (.ifCond .ne 5, 3) := by decide +kernel
theorem dX2_near_10 : decode cX2_near 10 = .ok (.iconst (-1), 1) := by decide +kernel
theorem dX2_near_11 : decode cX2_near 11 = .ok (.ireturn, 1) := by decide +kernel
theorem dX2_near_12 : decode cX2_near 12 = .ok (.aload_n 0, 1) := by decide +kernel
theorem dX2_near_13 : decode cX2_near 13 = .ok (.invokevirtual 70, 3) := by decide +kernel
theorem dX2_near_16 : decode cX2_near 16 = .ok (.iconst 0, 1) := by decide +kernel
theorem dX2_near_17 : decode cX2_near 17 = .ok (.istore_n 2, 1) := by decide +kernel
theorem dX2_near_18 : decode cX2_near 18 = .ok (.iconst 1, 1) := by decide +kernel
theorem dX2_near_19 : decode cX2_near 19 = .ok (.istore_n 3, 1) := by decide +kernel
theorem dX2_near_20 : decode cX2_near 20 = .ok (.iload_n 3, 1) := by decide +kernel
theorem dX2_near_21 : decode cX2_near 21 = .ok (.aload_n 0, 1) := by decide +kernel
theorem dX2_near_22 : decode cX2_near 22 = .ok (.getfield 7, 3) := by decide +kernel
theorem dX2_near_25 : decode cX2_near 25 = .ok (.if_icmp .ge 32, 3) := by decide +kernel
theorem dX2_near_28 : decode cX2_near 28 = .ok (.aload_n 0, 1) := by decide +kernel
theorem dX2_near_29 : decode cX2_near 29 = .ok (.getfield 33, 3) := by decide +kernel
theorem dX2_near_32 : decode cX2_near 32 = .ok (.iload_n 3, 1) := by decide +kernel
theorem dX2_near_33 : decode cX2_near 33 = .ok (.iaload, 1) := by decide +kernel
theorem dX2_near_34 : decode cX2_near 34 = .ok (.iload_n 1, 1) := by decide +kernel
theorem dX2_near_35 : decode cX2_near 35 = .ok (.if_icmp .gt 9, 3) := by decide +kernel
theorem dX2_near_38 : decode cX2_near 38 = .ok (.iload_n 2, 1) := by decide +kernel
theorem dX2_near_39 : decode cX2_near 39 = .ok (.iconst 1, 1) := by decide +kernel
theorem dX2_near_40 : decode cX2_near 40 = .ok (.iadd, 1) := by decide +kernel
theorem dX2_near_41 : decode cX2_near 41 = .ok (.goto 4, 3) := by decide +kernel
theorem dX2_near_44 : decode cX2_near 44 = .ok (.iload_n 2, 1) := by decide +kernel
theorem dX2_near_45 : decode cX2_near 45 = .ok (.istore_n 2, 1) := by decide +kernel
theorem dX2_near_46 : decode cX2_near 46 = .ok (.iload_n 3, 1) := by decide +kernel
theorem dX2_near_47 : decode cX2_near 47 = .ok (.aload_n 0, 1) := by decide +kernel
theorem dX2_near_48 : decode cX2_near 48 = .ok (.iload_n 3, 1) := by decide +kernel
theorem dX2_near_49 : decode cX2_near 49 = .ok (.invokevirtual 67, 3) := by decide +kernel
theorem dX2_near_52 : decode cX2_near 52 = .ok (.iadd, 1) := by decide +kernel
theorem dX2_near_53 : decode cX2_near 53 = .ok (.istore_n 3, 1) := by decide +kernel
theorem dX2_near_54 : decode cX2_near 54 = .ok (.goto (-34), 3) := by decide +kernel
theorem dX2_near_57 : decode cX2_near 57 = .ok (.iload_n 2, 1) := by decide +kernel
theorem dX2_near_58 : decode cX2_near 58 = .ok (.ireturn, 1) := by decide +kernel
set_option maxRecDepth 20000 in
theorem ggX2_sound_X2_references : GoodIn wsX2_sound wsX2_references := goodIn_r _ [10, 3, 31, 32, 33, 34, 35, 36, 37, 38, 39, 40, 41, 42, 43, 44] (by decide +kernel) (by decide +kernel)
set_option maxRecDepth 20000 in
theorem gX2_sound_X2_references : GoodIn wsX2_sound (wsV RX2 45 RX2 yX2_references wsX2_references) := goodIn_app (goodIn_of _ (by decide +kernel)) ggX2_sound_X2_references
set_option maxRecDepth 20000 in
theorem ggX2_sound_X2_isLead : GoodIn wsX2_sound wsX2_isLead := goodIn_r _ [14, 15, 16, 17, 9, 18, 19, 2, 20, 21, 22, 31, 32, 33, 34, 35, 36, 37, 38, 39, 40, 41, 42, 43, 44] (by decide +kernel) (by decide +kernel)
set_option maxRecDepth 20000 in
theorem gX2_sound_X2_isLead : GoodIn wsX2_sound (wsV RX2 63 RX2 yX2_isLead wsX2_isLead) := goodIn_app (goodIn_of _ (by decide +kernel)) ggX2_sound_X2_isLead
set_option maxRecDepth 20000 in
theorem ggX2_sound_X2_length : GoodIn wsX2_sound wsX2_length := goodIn_r _ [26, 6, 7, 8, 9, 10, 3, 27, 28, 29, 30, 31, 32, 33, 34, 35, 36, 37, 38, 39, 40, 41, 42, 43, 44] (by decide +kernel) (by decide +kernel)
