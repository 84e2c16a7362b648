theorem dX1_findWithin_51 : decode cX1_findWithin 51 = .ok (.iload_n 2, 1) := by decide +kernel
theorem dX1_findWithin_52 : decode cX1_findWithin 52 = .ok (.istore 5, 2) := by decide +kernel
theorem dX1_findWithin_54 : decode cX1_findWithin 54 = .ok (.iload_n 3, 1) := by decide +kernel
theorem dX1_findWithin_55 : decode cX1_findWithin 55 = .ok (.istore 6, 2) := by decide +kernel
theorem dX1_findWithin_57 : decode cX1_findWithin 57 = .ok (.iload 6, 2) := by decide +kernel
theorem dX1_findWithin_59 : decode cX1_findWithin 59 = .ok (.iload 5, 2) := by decide +kernel
theorem dX1_findWithin_61 : decode cX1_findWithin 61 = .ok (.if_icmp .ge 22, 3) := by decide +kernel
theorem dX1_findWithin_64 : decode cX1_findWithin 64 = .ok (.aload_n 0, 1) := by decide +kernel
theorem dX1_findWithin_65 : decode cX1_findWithin 65 = .ok (.aload_n 0, 1) := by decide +kernel
theorem dX1_findWithin_66 : decode cX1_findWithin 66 = .ok (.getfield 48, 3) := by decide +kernel
theorem dX1_findWithin_69 : decode cX1_findWithin 69 = .ok (.iload 6, 2) := by decide +kernel
theorem dX1_findWithin_71 : decode cX1_findWithin 71 = .ok (.iaload, 1) := by decide +kernel
theorem dX1_findWithin_72 : decode cX1_findWithin 72 = .ok (.iload_n 2, 1) := by decide +kernel
theorem dX1_findWithin_73 : decode cX1_findWithin 73 = .ok (.invokevirtual 147, 3) := by decide +kernel
theorem dX1_findWithin_76 : decode cX1_findWithin 76 = .ok (.istore_n 2, 1) := by decide +kernel
theorem dX1_findWithin_77 : decode cX1_findWithin 77 = .ok (.iinc 6 1, 3) := by decide +kernel
theorem dX1_findWithin_80 : decode cX1_findWithin 80 = .ok (.goto (-23), 3) := by decide +kernel
theorem dX1_findWithin_83 : decode cX1_findWithin 83 = .ok (.iload 5, 2) := by decide +kernel
theorem dX1_findWithin_85 : decode cX1_findWithin 85 = .ok (.istore_n 3, 1) := by decide +kernel
theorem dX1_findWithin_86 : decode cX1_findWithin 86 = .ok (.iinc 4 1, 3) := by decide +kernel
theorem dX1_findWithin_89 : decode cX1_findWithin 89 = .ok (.goto (-49), 3) := by decide +kernel
theorem dX1_findWithin_92 : decode cX1_findWithin 92 = .ok (.iload_n 2, 1) := by decide +kernel
theorem dX1_findWithin_93 : decode cX1_findWithin 93 = .ok (.ireturn, 1) := by decide +kernel
set_option maxRecDepth 20000 in
theorem ggX1_findReferred_X1_referencesBy : GoodIn wsX1_findReferred wsX1_referencesBy := goodIn_r _ [5] (by decide +kernel) (by decide +kernel)
set_option maxRecDepth 20000 in
theorem gX1_findReferred_X1_referencesBy : GoodIn wsX1_findReferred (va_wsS RX1 82 yX1_referencesBy wsX1_referencesBy) := goodIn_app (goodIn_of _ (by decide +kernel)) ggX1_findReferred_X1_referencesBy
set_option maxRecDepth 20000 in
theorem ggX1_findReferred_X1_find : GoodIn wsX1_findReferred wsX1_find := goodIn_r _ [9, 10, 11, 12, 13, 14, 15, 16, 17, 18, 19, 20, 21, 22, 23, 24, 25, 26, 27, 28, 29, 30, 31, 32, 33, 34, 35, 36, 37] (by decide +kernel) (by decide +kernel)
set_option maxRecDepth 20000 in
theorem gX1_findReferred_X1_find : GoodIn wsX1_findReferred (wsV RX1 144 RX1 yX1_find wsX1_find) := goodIn_app (goodIn_of _ (by decide +kernel)) ggX1_findReferred_X1_find
theorem dX1_findReferred_0 : decode cX1_findReferred 0 = .ok (.aload_n 0, 1) := by decide +kernel
theorem dX1_findReferred_1 : decode cX1_findReferred 1 = .ok (.getfield 57, 3) := by decide +kernel
theorem dX1_findReferred_4 : decode cX1_findReferred 4 = .ok (.iload_n 1, 1) := by decide +kernel
theorem dX1_findReferred_5 : decode cX1_findReferred 5 = .ok (.iaload, 1) := by decide +kernel
theorem dX1_findReferred_6 : decode cX1_findReferred 6 = .ok (.invokestatic 82, 3) := by decide +kernel
theorem dX1_findReferred_9 : decode cX1_findReferred 9 = .ok (.istore_n 3, 1) := by decide +kernel
theorem dX1_findReferred_10 : decode cX1_findReferred 10 = .ok (.iload_n 2, 1) := by decide +kernel
theorem dX1_findReferred_11 : decode cX1_findReferred 11 = .ok (.istore 4, 2) := by decide +kernel
theorem dX1_findReferred_13 : decode cX1_findReferred 13 = .ok (.iconst 0, 1) := by decide +kernel
theorem dX1_findReferred_14 : decode cX1_findReferred 14 = .ok (.istore 5, 2) := by decide +kernel
theorem dX1_findReferred_16 : decode cX1_findReferred 16 = .ok (.iload 5, 2) := by decide +kernel
theorem dX1_findReferred_18 : decode cX1_findReferred 18 = .ok (.iload_n 3, 1) := by decide +kernel
theorem dX1_findReferred_19 : decode cX1_findReferred 19 = .ok (.if_icmp .ge 28, 3) := by decide +kernel
theorem dX1_findReferred_22 : decode cX1_findReferred 22 = .ok (.aload_n 0, 1) := by decide +kernel
theorem dX1_findReferred_23 : decode cX1_findReferred 23 = .ok (.aload_n 0, 1) := by decide +kernel
theorem dX1_findReferred_24 : decode cX1_findReferred 24 = .ok (.getfield 57, 3) := by decide +kernel
theorem dX1_findReferred_27 : decode cX1_findReferred 27 = .ok (.iload_n 1, 1) := by decide +kernel
theorem dX1_findReferred_28 : decode cX1_findReferred 28 = .ok (.iconst 1, 1) := by decide +kernel
theorem dX1_findReferred_29 : decode cX1_findReferred 29 = .ok (.iadd, 1) := by decide +kernel
theorem dX1_findReferred_30 : decode cX1_findReferred 30 = .ok (.iload 5, 2) := by decide +kernel
theorem dX1_findReferred_32 : decode cX1_findReferred 32 = .ok (.iadd, 1) := by decide +kernel
theorem dX1_findReferred_33 : decode cX1_findReferred 33 = .ok (.iaload, 1) := by decide +kernel
theorem dX1_findReferred_34 : decode cX1_findReferred 34 = .ok (.iload 4, 2) := by decide +kernel
theorem dX1_findReferred_36 : decode cX1_findReferred 36 = .ok (.invokevirtual 144, 3) := by decide +kernel
theorem dX1_findReferred_39 : decode cX1_findReferred 39 = .ok (.istore 4, 2) := by decide +kernel
theorem dX1_findReferred_41 : decode cX1_findReferred 41 = .ok (.iinc 5 1, 3) := by decide +kernel
theorem dX1_findReferred_44 : decode cX1_findReferred 44 = .ok (.goto (-28), 3) := by decide +kernel
theorem dX1_findReferred_47 : decode cX1_findReferred 47 = .ok (.iload 4, 2) := by decide +kernel
theorem dX1_findReferred_49 : decode cX1_findReferred 49 = .ok (.ireturn, 1) := by decide +kernel
set_option maxRecDepth 20000 in
theorem ggX1_find_X0_has : GoodIn wsX1_find wsX0_has := goodIn_r _ [7, 8, 28] (by decide +kernel) (by decide +kernel)
set_option maxRecDepth 20000 in
theorem gX1_find_X0_has : GoodIn wsX1_find (wsV RX1 116 RX0 yX0_has wsX0_has) := goodIn_app (goodIn_of _ (by decide +kernel)) ggX1_find_X0_has
set_option maxRecDepth 20000 in
theorem ggX1_find_X0_put : GoodIn wsX1_find wsX0_put := goodIn_r _ [12, 8, 28] (by decide +kernel) (by decide +kernel)
set_option maxRecDepth 20000 in
theorem gX1_find_X0_put : GoodIn wsX1_find (wsV RX1 73 RX0 yX0_put wsX0_put) := goodIn_app (goodIn_of _ (by decide +kernel)) ggX1_find_X0_put
theorem dX1_find_0 : decode cX1_find 0 = .ok (.iload_n 1, 1) := by decide +kernel
theorem dX1_find_1 : decode cX1_find 1 = .ok (.ifCond .eq 14, 3) := by decide +kernel
theorem dX1_find_4 : decode cX1_find 4 = .ok (.aload_n 0, 1) := by decide +kernel
theorem dX1_find_5 : decode cX1_find 5 = .ok (.getfield 51, 3) := by decide +kernel
theorem dX1_find_8 : decode cX1_find 8 = .ok (.iload_n 1, 1) := by decide +kernel
theorem dX1_find_9 : decode cX1_find 9 = .ok (.invokevirtual 116, 3) := by decide +kernel
theorem dX1_find_12 : decode cX1_find 12 = .ok (.ifCond .eq 5, 3) := by decide +kernel
theorem dX1_find_15 : decode cX1_find 15 = .ok (.iload_n 2, 1) := by decide +kernel
theorem dX1_find_16 : decode cX1_find 16 = .ok (.ireturn, 1) := by decide +kernel
theorem dX1_find_17 : decode cX1_find 17 = .ok (.aload_n 0, 1) := by decide +kernel
theorem dX1_find_18 : decode cX1_find 18 = .ok (.getfield 51, 3) := by decide +kernel
theorem dX1_find_21 : decode cX1_find 21 = .ok (.iload_n 1, 1) := by decide +kernel
theorem dX1_find_22 : decode cX1_find 22 = .ok (.invokevirtual 73, 3) := by decide +kernel
theorem dX1_find_25 : decode cX1_find 25 = .ok (.aload_n 0, 1) := by decide +kernel
theorem dX1_find_26 : decode cX1_find 26 = .ok (.getfield 48, 3) := by decide +kernel
theorem dX1_find_29 : decode cX1_find 29 = .ok (.iload_n 2, 1) := by decide +kernel
theorem dX1_find_30 : decode cX1_find 30 = .ok (.iload_n 1, 1) := by decide +kernel
theorem dX1_find_31 : decode cX1_find 31 = .ok (.iastore, 1) := by decide +kernel
theorem dX1_find_32 : decode cX1_find 32 = .ok (.iload_n 2, 1) := by decide +kernel
theorem dX1_find_33 : decode cX1_find 33 = .ok (.iconst 1, 1) := by decide +kernel
theorem dX1_find_34 : decode cX1_find 34 = .ok (.iadd, 1) := by decide +kernel
theorem dX1_find_35 : decode cX1_find 35 = .ok (.ireturn, 1) := by decide +kernel
set_option maxRecDepth 20000 in
theorem ggX1_markLiving_X1_findWithin : GoodIn wsX1_markLiving wsX1_findWithin := goodIn_r _ [9, 10, 11, 3, 12, 13, 14, 15, 16, 17, 18, 19, 20, 21, 22, 23, 24, 8, 25, 26, 27, 28, 29, 30, 31, 32, 33, 34, 35, 36, 37, 4, 38, 39, 40, 47, 48, 49, 50, 51, 52, 53, 54, 55, 56, 57, 58, 59, 60, 61, 62] (by decide +kernel) (by decide +kernel)
set_option maxRecDepth 20000 in
theorem gX1_markLiving_X1_findWithin : GoodIn wsX1_markLiving (wsV RX1 125 RX1 yX1_findWithin wsX1_findWithin) := goodIn_app (goodIn_of _ (by decide +kernel)) ggX1_markLiving_X1_findWithin
set_option maxRecDepth 20000 in
theorem ggX1_markLiving_X0_clear : GoodIn wsX1_markLiving wsX0_clear := goodIn_r _ [16, 17, 18, 19, 20, 21, 62] (by decide +kernel) (by decide +kernel)
set_option maxRecDepth 20000 in
theorem gX1_markLiving_X0_clear : GoodIn wsX1_markLiving (wsV RX1 141 RX0 yX0_clear wsX0_clear) := goodIn_app (goodIn_of _ (by decide +kernel)) ggX1_markLiving_X0_clear
set_option maxRecDepth 20000 in
theorem ggX1_markLiving_X1_sizeBy : GoodIn wsX1_markLiving wsX1_sizeBy := goodIn_r _ [43, 38, 39, 8, 40, 44, 45, 46] (by decide +kernel) (by decide +kernel)
set_option maxRecDepth 20000 in
theorem gX1_markLiving_X1_sizeBy : GoodIn wsX1_markLiving (va_wsS RX1 69 yX1_sizeBy wsX1_sizeBy) := goodIn_app (goodIn_of _ (by decide +kernel)) ggX1_markLiving_X1_sizeBy
set_option maxRecDepth 20000 in
theorem ggX1_markLiving_X0_put : GoodIn wsX1_markLiving wsX0_put := goodIn_r _ [33, 17, 62] (by decide +kernel) (by decide +kernel)
set_option maxRecDepth 20000 in
theorem gX1_markLiving_X0_put : GoodIn wsX1_markLiving (wsV RX1 73 RX0 yX0_put wsX0_put) := goodIn_app (goodIn_of _ (by decide +kernel)) ggX1_markLiving_X0_put
theorem dX1_markLiving_0 : decode cX1_markLiving 0 = .ok (.aload_n 0, 1) := by decide +kernel
theorem dX1_markLiving_1 : decode cX1_markLiving 1 = .ok (.aload_n 0, 1) := by decide +kernel
theorem dX1_markLiving_2 : decode cX1_markLiving 2 = .ok (.getfield 18, 3) := by decide +kernel
theorem dX1_markLiving_5 : decode cX1_markLiving 5 = .ok (.invokevirtual 125, 3) := by decide +kernel
theorem dX1_markLiving_8 : decode cX1_markLiving 8 = .ok (.istore_n 1, 1) := by decide +kernel
theorem dX1_markLiving_9 : decode cX1_markLiving 9 = .ok (.aload_n 0, 1) := by decide +kernel
theorem dX1_markLiving_10 : decode cX1_markLiving 10 = .ok (.getfield 41, 3) := by decide +kernel
theorem dX1_markLiving_13 : decode cX1_markLiving 13 = .ok (.invokevirtual 141, 3) := by decide +kernel
theorem dX1_markLiving_16 : decode cX1_markLiving 16 = .ok (.iconst 0, 1) := by decide +kernel
theorem dX1_markLiving_17 : decode cX1_markLiving 17 = .ok (.istore_n 2, 1) := by decide +kernel
theorem dX1_markLiving_18 : decode cX1_markLiving 18 = .ok (.iload_n 2, 1) := by decide +kernel
theorem dX1_markLiving_19 : decode cX1_markLiving 19 = .ok (.iload_n 1, 1) := by decide +kernel
theorem dX1_markLiving_20 : decode cX1_markLiving 20 = .ok (.if_icmp .ge 60, 3) := by decide +kernel
theorem dX1_markLiving_23 : decode cX1_markLiving 23 = .ok (.aload_n 0, 1) := by decide +kernel
theorem dX1_markLiving_24 : decode cX1_markLiving 24 = .ok (.getfield 48, 3) := by decide +kernel
theorem dX1_markLiving_27 : decode cX1_markLiving 27 = .ok (.iload_n 2, 1) := by decide +kernel
theorem dX1_markLiving_28 : decode cX1_markLiving 28 = .ok (.iaload, 1) := by decide +kernel
theorem dX1_markLiving_29 : decode cX1_markLiving 29 = .ok (.aload_n 0, 1) := by decide +kernel
theorem dX1_markLiving_30 : decode cX1_markLiving 30 = .ok (.getfield 57, 3) := by decide +kernel
theorem dX1_markLiving_33 : decode cX1_markLiving 33 = .ok (.aload_n 0, 1) := by decide +kernel
theorem dX1_markLiving_34 : decode cX1_markLiving 34 = .ok (.getfield 48, 3) := by decide +kernel
theorem dX1_markLiving_37 : decode cX1_markLiving 37 = .ok (.iload_n 2, 1) := by decide +kernel
theorem dX1_markLiving_38 : decode cX1_markLiving 38 = .ok (.iaload, 1) := by decide +kernel
theorem dX1_markLiving_39 : decode cX1_markLiving 39 = .ok (.iaload, 1) := by decide +kernel
theorem dX1_markLiving_40 : decode cX1_markLiving 40 = .ok (.invokestatic 69, 3) := by decide +kernel
theorem dX1_markLiving_43 : decode cX1_markLiving 43 = .ok (.iadd, 1) := by decide +kernel
theorem dX1_markLiving_44 : decode cX1_markLiving 44 = .ok (.istore_n 3, 1) := by decide +kernel
theorem dX1_markLiving_45 : decode cX1_markLiving 45 = .ok (.aload_n 0, 1) := by decide +kernel
theorem dX1_markLiving_46 : decode cX1_markLiving 46 = .ok (.getfield 48, 3) := by decide +kernel
theorem dX1_markLiving_49 : decode cX1_markLiving 49 = .ok (.iload_n 2, 1) := by decide +kernel
theorem dX1_markLiving_50 : decode cX1_markLiving 50 = .ok (.iaload, 1) := by decide +kernel
theorem dX1_markLiving_51 : decode cX1_markLiving 51 = .ok (.istore 4, 2) := by decide +kernel
theorem dX1_markLiving_53 : decode cX1_markLiving 53 = .ok (.iload 4, 2) := by decide +kernel
theorem dX1_markLiving_55 : decode cX1_markLiving 55 = .ok (.iload_n 3, 1) := by decide +kernel
theorem dX1_markLiving_56 : decode cX1_markLiving 56 = .ok (.if_icmp .ge 18, 3) := by decide +kernel
theorem dX1_markLiving_59 : decode cX1_markLiving 59 = .ok (.aload_n 0, 1) := by decide +kernel
theorem dX1_markLiving_60 : decode cX1_markLiving 60 = .ok (.getfield 41, 3) := by decide +kernel
theorem dX1_markLiving_63 : decode cX1_markLiving 63 = .ok (.iload 4, 2) := by decide +kernel
theorem dX1_markLiving_65 : decode cX1_markLiving 65 = .ok (.invokevirtual 73, 3) := by decide +kernel
theorem dX1_markLiving_68 : decode cX1_markLiving 68 = .ok (.iinc 4 1, 3) := by decide +kernel
theorem dX1_markLiving_71 : decode cX1_markLiving 71 = .ok (.goto (-18), 3) := by decide +kernel
theorem dX1_markLiving_74 : decode cX1_markLiving 74 = .ok (.iinc 2 1, 3) := by decide +kernel
theorem dX1_markLiving_77 : decode cX1_markLiving 77 = .ok (.goto (-59), 3) := by decide +kernel
theorem dX1_markLiving_80 : decode cX1_markLiving 80 = .ok (.return_, 1) := by decide +kernel
set_option maxRecDepth 20000 in
theorem ggX1_fillOffsets_X0_has : GoodIn wsX1_fillOffsets wsX0_has := goodIn_r _ [9, 10, 26] (by decide +kernel) (by decide +kernel)
set_option maxRecDepth 20000 in
theorem gX1_fillOffsets_X0_has : GoodIn wsX1_fillOffsets (wsV RX1 116 RX0 yX0_has wsX0_has) := goodIn_app (goodIn_of _ (by decide +kernel)) ggX1_fillOffsets_X0_has
theorem dX1_fillOffsets_0 : decode cX1_fillOffsets 0 = .ok (.iconst 0, 1) := by decide +kernel
theorem dX1_fillOffsets_1 : decode cX1_fillOffsets 1 = .ok (.istore_n 1, 1) := by decide +kernel
theorem dX1_fillOffsets_2 : decode cX1_fillOffsets 2 = .ok (.iconst 0, 1) := by decide +kernel
theorem dX1_fillOffsets_3 : decode cX1_fillOffsets 3 = .ok (.istore_n 2, 1) := by decide +kernel
theorem dX1_fillOffsets_4 : decode cX1_fillOffsets 4 = .ok (.iload_n 2, 1) := by decide +kernel
theorem dX1_fillOffsets_5 : decode cX1_fillOffsets 5 = .ok (.aload_n 0, 1) := by decide +kernel
theorem dX1_fillOffsets_6 : decode cX1_fillOffsets 6 = .ok (.getfield 18, 3) := by decide +kernel
theorem dX1_fillOffsets_9 : decode cX1_fillOffsets 9 = .ok (.if_icmp .gt 44, 3) := by decide +kernel
theorem dX1_fillOffsets_12 : decode cX1_fillOffsets 12 = .ok (.iload_n 2, 1) := by decide +kernel
theorem dX1_fillOffsets_13 : decode cX1_fillOffsets 13 = .ok (.aload_n 0, 1) := by decide +kernel
theorem dX1_fillOffsets_14 : decode cX1_fillOffsets 14 = .ok (.getfield 26, 3) := by decide +kernel
theorem dX1_fillOffsets_17 : decode cX1_fillOffsets 17 = .ok (.irem, 1) := by decide +kernel
theorem dX1_fillOffsets_18 : decode cX1_fillOffsets 18 = .ok (.ifCond .ne 15, 3) := by decide +kernel
theorem dX1_fillOffsets_21 : decode cX1_fillOffsets 21 = .ok (.aload_n 0, 1) := by decide +kernel
theorem dX1_fillOffsets_22 : decode cX1_fillOffsets 22 = .ok (.getfield 45, 3) := by decide +kernel
theorem dX1_fillOffsets_25 : decode cX1_fillOffsets 25 = .ok (.iload_n 2, 1) := by decide +kernel
theorem dX1_fillOffsets_26 : decode cX1_fillOffsets 26 = .ok (.aload_n 0, 1) := by decide +kernel
theorem dX1_fillOffsets_27 : decode cX1_fillOffsets 27 = .ok (.getfield 26, 3) := by decide +kernel
theorem dX1_fillOffsets_30 : decode cX1_fillOffsets 30 = .ok (.idiv, 1) := by decide +kernel
theorem dX1_fillOffsets_31 : decode cX1_fillOffsets 31 = .ok (.iload_n 1, 1) := by decide +kernel
theorem dX1_fillOffsets_32 : decode cX1_fillOffsets 32 = .ok (.iastore, 1) := by decide +kernel
theorem dX1_fillOffsets_33 : decode cX1_fillOffsets 33 = .ok (.aload_n 0, 1) := by decide +kernel
theorem dX1_fillOffsets_34 : decode cX1_fillOffsets 34 = .ok (.getfield 41, 3) := by decide +kernel
theorem dX1_fillOffsets_37 : decode cX1_fillOffsets 37 = .ok (.iload_n 2, 1) := by decide +kernel
theorem dX1_fillOffsets_38 : decode cX1_fillOffsets 38 = .ok (.invokevirtual 116, 3) := by decide +kernel
theorem dX1_fillOffsets_41 : decode cX1_fillOffsets 41 = .ok (.ifCond .eq 6, 3) := by decide +kernel
theorem dX1_fillOffsets_44 : decode cX1_fillOffsets 44 = .ok (.iinc 1 1, 3) := by decide +kernel
theorem dX1_fillOffsets_47 : decode cX1_fillOffsets 47 = .ok (.iinc 2 1, 3) := by decide +kernel
theorem dX1_fillOffsets_50 : decode cX1_fillOffsets 50 = .ok (.goto (-46), 3) := by decide +kernel
theorem dX1_fillOffsets_53 : decode cX1_fillOffsets 53 = .ok (.iload_n 1, 1) := by decide +kernel
theorem dX1_fillOffsets_54 : decode cX1_fillOffsets 54 = .ok (.ireturn, 1) := by decide +kernel
set_option maxRecDepth 20000 in
theorem ggX1_newAddress_X0_between : GoodIn wsX1_newAddress wsX0_between := goodIn_r _ [8, 9, 10, 11, 12, 13, 14, 15, 16, 17, 33] (by decide +kernel) (by decide +kernel)
set_option maxRecDepth 20000 in
theorem gX1_newAddress_X0_between : GoodIn wsX1_newAddress (wsV RX1 150 RX0 yX0_between wsX0_between) := goodIn_app (goodIn_of _ (by decide +kernel)) ggX1_newAddress_X0_between
theorem dX1_newAddress_0 : decode cX1_newAddress 0 = .ok (.iload_n 1, 1) := by decide +kernel
theorem dX1_newAddress_1 : decode cX1_newAddress 1 = .ok (.aload_n 0, 1) := by decide +kernel
theorem dX1_newAddress_2 : decode cX1_newAddress 2 = .ok (.getfield 26, 3) := by decide +kernel
theorem dX1_newAddress_5 : decode cX1_newAddress 5 = .ok (.idiv, 1) := by decide +kernel
theorem dX1_newAddress_6 : decode cX1_newAddress 6 = .ok (.istore_n 2, 1) := by decide +kernel
theorem dX1_newAddress_7 : decode cX1_newAddress 7 = .ok (.iconst 1, 1) := by decide +kernel
theorem dX1_newAddress_8 : decode cX1_newAddress 8 = .ok (.aload_n 0, 1) := by decide +kernel
theorem dX1_newAddress_9 : decode cX1_newAddress 9 = .ok (.getfield 45, 3) := by decide +kernel
theorem dX1_newAddress_12 : decode cX1_newAddress 12 = .ok (.iload_n 2, 1) := by decide +kernel
theorem dX1_newAddress_13 : decode cX1_newAddress 13 = .ok (.iaload, 1) := by decide +kernel
theorem dX1_newAddress_14 : decode cX1_newAddress 14 = .ok (.iadd, 1) := by decide +kernel
theorem dX1_newAddress_15 : decode cX1_newAddress 15 = .ok (.aload_n 0, 1) := by decide +kernel
theorem dX1_newAddress_16 : decode cX1_newAddress 16 = .ok (.getfield 41, 3) := by decide +kernel
theorem dX1_newAddress_19 : decode cX1_newAddress 19 = .ok (.iload_n 2, 1) := by decide +kernel
theorem dX1_newAddress_20 : decode cX1_newAddress 20 = .ok (.aload_n 0, 1) := by decide +kernel
theorem dX1_newAddress_21 : decode cX1_newAddress 21 = .ok (.getfield 26, 3) := by decide +kernel
theorem dX1_newAddress_24 : decode cX1_newAddress 24 = .ok (.imul, 1) := by decide +kernel
theorem dX1_newAddress_25 : decode cX1_newAddress 25 = .ok (.iload_n 1, 1) := by decide +kernel
theorem dX1_newAddress_26 : decode cX1_newAddress 26 = .ok (.invokevirtual 150, 3) := by decide +kernel
theorem dX1_newAddress_29 : decode cX1_newAddress 29 = .ok (.iadd, 1) := by decide +kernel
theorem dX1_newAddress_30 : decode cX1_newAddress 30 = .ok (.ireturn, 1) := by decide +kernel
set_option maxRecDepth 20000 in
theorem ggX1_newAddressOrNone_X1_newAddress : GoodIn wsX1_newAddressOrNone wsX1_newAddress := goodIn_r _ [5, 6, 7, 8, 9, 10, 11, 12, 13, 14, 15, 16, 17, 18, 19, 20, 21, 22, 23, 24, 25, 26, 27, 28, 29, 30, 31, 32, 33, 34, 35, 36, 37, 38] (by decide +kernel) (by decide +kernel)
set_option maxRecDepth 20000 in
theorem gX1_newAddressOrNone_X1_newAddress : GoodIn wsX1_newAddressOrNone (wsV RX1 119 RX1 yX1_newAddress wsX1_newAddress) := goodIn_app (goodIn_of _ (by decide +kernel)) ggX1_newAddressOrNone_X1_newAddress
theorem dX1_newAddressOrNone_0 : decode cX1_newAddressOrNone 0 = .ok (.iload_n 1, 1) := by decide +kernel
theorem dX1_newAddressOrNone_1 : decode cX1_newAddressOrNone 1 = .ok (.ifCond .ne 7, 3) := by decide +kernel
theorem dX1_newAddressOrNone_4 : decode cX1_newAddressOrNone 4 = .ok (.iconst 0, 1) := by decide +kernel
theorem dX1_newAddressOrNone_5 : decode cX1_newAddressOrNone 5 = .ok (.goto 8, 3) := by decide +kernel
theorem dX1_newAddressOrNone_8 : decode cX1_newAddressOrNone 8 = .ok (.aload_n 0, 1) := by decide +kernel
theorem dX1_newAddressOrNone_9 : decode cX1_newAddressOrNone 9 = .ok (.iload_n 1, 1) := by decide +kernel
theorem dX1_newAddressOrNone_10 : decode cX1_newAddressOrNone 10 = .ok (.invokevirtual 119, 3) := by decide +kernel
theorem dX1_newAddressOrNone_13 : decode cX1_newAddressOrNone 13 = .ok (.ireturn, 1) := by decide +kernel
set_option maxRecDepth 20000 in
theorem ggX1_copyLiving_J7_fill_53178 : GoodIn wsX1_copyLiving wsJ7_fill_53178 := goodIn_r _ [11] (by decide +kernel) (by decide +kernel)
set_option maxRecDepth 20000 in
theorem gX1_copyLiving_J7_fill_53178 : GoodIn wsX1_copyLiving (va_wsS RX1 153 yJ7_fill_53178 wsJ7_fill_53178) := goodIn_app (goodIn_of _ (by decide +kernel)) ggX1_copyLiving_J7_fill_53178
set_option maxRecDepth 20000 in
theorem ggX1_copyLiving_X0_clear : GoodIn wsX1_copyLiving wsX0_clear := goodIn_r _ [16, 17, 18, 19, 10, 20, 73] (by decide +kernel) (by decide +kernel)
set_option maxRecDepth 20000 in
theorem gX1_copyLiving_X0_clear : GoodIn wsX1_copyLiving (wsV RX1 141 RX0 yX0_clear wsX0_clear) := goodIn_app (goodIn_of _ (by decide +kernel)) ggX1_copyLiving_X0_clear
set_option maxRecDepth 20000 in
theorem ggX1_copyLiving_X0_has : GoodIn wsX1_copyLiving wsX0_has := goodIn_r _ [24, 17, 73] (by decide +kernel) (by decide +kernel)
set_option maxRecDepth 20000 in
theorem gX1_copyLiving_X0_has : GoodIn wsX1_copyLiving (wsV RX1 116 RX0 yX0_has wsX0_has) := goodIn_app (goodIn_of _ (by decide +kernel)) ggX1_copyLiving_X0_has
set_option maxRecDepth 20000 in
theorem ggX1_copyLiving_X1_newAddress : GoodIn wsX1_copyLiving wsX1_newAddress := goodIn_r _ [29, 30, 31, 6, 32, 33, 34, 15, 35, 36, 17, 37, 38, 39, 40, 41, 42, 43, 58, 59, 60, 61, 62, 63, 64, 65, 66, 67, 68, 69, 70, 71, 72, 73] (by decide +kernel) (by decide +kernel)
set_option maxRecDepth 20000 in
theorem gX1_copyLiving_X1_newAddress : GoodIn wsX1_copyLiving (wsV RX1 119 RX1 yX1_newAddress wsX1_newAddress) := goodIn_app (goodIn_of _ (by decide +kernel)) ggX1_copyLiving_X1_newAddress
set_option maxRecDepth 20000 in
theorem ggX1_copyLiving_X1_newAddressOrNone : GoodIn wsX1_copyLiving wsX1_newAddressOrNone := goodIn_r _ [47, 25, 26, 27, 28, 29, 30, 31, 6, 32, 33, 34, 15, 35, 36, 17, 37, 38, 39, 40, 41, 42, 43, 58, 59, 60, 61, 62, 63, 64, 65, 66, 67, 68, 69, 70, 71, 72, 73] (by decide +kernel) (by decide +kernel)
set_option maxRecDepth 20000 in
theorem gX1_copyLiving_X1_newAddressOrNone : GoodIn wsX1_copyLiving (wsV RX1 159 RX1 yX1_newAddressOrNone wsX1_newAddressOrNone) := goodIn_app (goodIn_of _ (by decide +kernel)) ggX1_copyLiving_X1_newAddressOrNone
set_option maxRecDepth 20000 in
theorem ggX1_copyLiving_X1_referencesBy : GoodIn wsX1_copyLiving wsX1_referencesBy := goodIn_r _ [50] (by decide +kernel) (by decide +kernel)
set_option maxRecDepth 20000 in
theorem gX1_copyLiving_X1_referencesBy : GoodIn wsX1_copyLiving (va_wsS RX1 82 yX1_referencesBy wsX1_referencesBy) := goodIn_app (goodIn_of _ (by decide +kernel)) ggX1_copyLiving_X1_referencesBy
set_option maxRecDepth 20000 in
theorem ggX1_copyLiving_X1_plainBy : GoodIn wsX1_copyLiving wsX1_plainBy := goodIn_r _ [53] (by decide +kernel) (by decide +kernel)
set_option maxRecDepth 20000 in
theorem gX1_copyLiving_X1_plainBy : GoodIn wsX1_copyLiving (va_wsS RX1 88 yX1_plainBy wsX1_plainBy) := goodIn_app (goodIn_of _ (by decide +kernel)) ggX1_copyLiving_X1_plainBy
set_option maxRecDepth 20000 in
theorem ggX1_copyLiving_X0_put : GoodIn wsX1_copyLiving wsX0_put := goodIn_r _ [57, 17, 73] (by decide +kernel) (by decide +kernel)
set_option maxRecDepth 20000 in
theorem gX1_copyLiving_X0_put : GoodIn wsX1_copyLiving (wsV RX1 73 RX0 yX0_put wsX0_put) := goodIn_app (goodIn_of _ (by decide +kernel)) ggX1_copyLiving_X0_put
theorem dX1_copyLiving_0 : decode cX1_copyLiving 0 = .ok (.aload_n 0, 1) := by decide +kernel
theorem dX1_copyLiving_1 : decode cX1_copyLiving 1 = .ok (.getfield 60, 3) := by decide +kernel
theorem dX1_copyLiving_4 : decode cX1_copyLiving 4 = .ok (.iconst 0, 1) := by decide +kernel
theorem dX1_copyLiving_5 : decode cX1_copyLiving 5 = .ok (.invokestatic 153, 3) := by decide +kernel
theorem dX1_copyLiving_8 : decode cX1_copyLiving 8 = .ok (.aload_n 0, 1) := by decide +kernel
theorem dX1_copyLiving_9 : decode cX1_copyLiving 9 = .ok (.getfield 54, 3) := by decide +kernel
theorem dX1_copyLiving_12 : decode cX1_copyLiving 12 = .ok (.invokevirtual 141, 3) := by decide +kernel
theorem dX1_copyLiving_15 : decode cX1_copyLiving 15 = .ok (.aload_n 0, 1) := by decide +kernel
theorem dX1_copyLiving_16 : decode cX1_copyLiving 16 = .ok (.iconst 0, 1) := by decide +kernel
theorem dX1_copyLiving_17 : decode cX1_copyLiving 17 = .ok (.putfield 122, 3) := by decide +kernel
theorem dX1_copyLiving_20 : decode cX1_copyLiving 20 = .ok (.aload_n 0, 1) := by decide +kernel
theorem dX1_copyLiving_21 : decode cX1_copyLiving 21 = .ok (.iconst 0, 1) := by decide +kernel
theorem dX1_copyLiving_22 : decode cX1_copyLiving 22 = .ok (.putfield 76, 3) := by decide +kernel
theorem dX1_copyLiving_25 : decode cX1_copyLiving 25 = .ok (.iconst 0, 1) := by decide +kernel
theorem dX1_copyLiving_26 : decode cX1_copyLiving 26 = .ok (.istore_n 1, 1) := by decide +kernel
theorem dX1_copyLiving_27 : decode cX1_copyLiving 27 = .ok (.iconst 0, 1) := by decide +kernel
theorem dX1_copyLiving_28 : decode cX1_copyLiving 28 = .ok (.istore_n 2, 1) := by decide +kernel
theorem dX1_copyLiving_29 : decode cX1_copyLiving 29 = .ok (.iconst 1, 1) := by decide +kernel
theorem dX1_copyLiving_30 : decode cX1_copyLiving 30 = .ok (.istore_n 3, 1) := by decide +kernel
theorem dX1_copyLiving_31 : decode cX1_copyLiving 31 = .ok (.iload_n 3, 1) := by decide +kernel
theorem dX1_copyLiving_32 : decode cX1_copyLiving 32 = .ok (.aload_n 0, 1) := by decide +kernel
theorem dX1_copyLiving_33 : decode cX1_copyLiving 33 = .ok (.getfield 63, 3) := by decide +kernel
theorem dX1_copyLiving_36 : decode cX1_copyLiving 36 = .ok (.if_icmp .ge 130, 3) := by decide +kernel
theorem dX1_copyLiving_39 : decode cX1_copyLiving 39 = .ok (.aload_n 0, 1) := by decide +kernel
theorem dX1_copyLiving_40 : decode cX1_copyLiving 40 = .ok (.getfield 41, 3) := by decide +kernel
theorem dX1_copyLiving_43 : decode cX1_copyLiving 43 = .ok (.iload_n 3, 1) := by decide +kernel
theorem dX1_copyLiving_44 : decode cX1_copyLiving 44 = .ok (.invokevirtual 116, 3) := by decide +kernel
theorem dX1_copyLiving_47 : decode cX1_copyLiving 47 = .ok (.ifCond .ne 6, 3) := by decide +kernel
theorem dX1_copyLiving_50 : decode cX1_copyLiving 50 = .ok (.goto 110, 3) := by decide +kernel
theorem dX1_copyLiving_53 : decode cX1_copyLiving 53 = .ok (.aload_n 0, 1) := by decide +kernel
theorem dX1_copyLiving_54 : decode cX1_copyLiving 54 = .ok (.getfield 57, 3) := by decide +kernel
theorem dX1_copyLiving_57 : decode cX1_copyLiving 57 = .ok (.iload_n 3, 1) := by decide +kernel
theorem dX1_copyLiving_58 : decode cX1_copyLiving 58 = .ok (.iaload, 1) := by decide +kernel
theorem dX1_copyLiving_59 : decode cX1_copyLiving 59 = .ok (.istore 4, 2) := by decide +kernel
theorem dX1_copyLiving_61 : decode cX1_copyLiving 61 = .ok (.aload_n 0, 1) := by decide +kernel
theorem dX1_copyLiving_62 : decode cX1_copyLiving 62 = .ok (.dup, 1) := by decide +kernel
theorem dX1_copyLiving_63 : decode cX1_copyLiving 63 = .ok (.getfield 122, 3) := by decide +kernel
theorem dX1_copyLiving_66 : decode cX1_copyLiving 66 = .ok (.iconst 1, 1) := by decide +kernel
theorem dX1_copyLiving_67 : decode cX1_copyLiving 67 = .ok (.iadd, 1) := by decide +kernel
theorem dX1_copyLiving_68 : decode cX1_copyLiving 68 = .ok (.putfield 122, 3) := by decide +kernel
theorem dX1_copyLiving_71 : decode cX1_copyLiving 71 = .ok (.aload_n 0, 1) := by decide +kernel
theorem dX1_copyLiving_72 : decode cX1_copyLiving 72 = .ok (.iload_n 3, 1) := by decide +kernel
theorem dX1_copyLiving_73 : decode cX1_copyLiving 73 = .ok (.invokevirtual 119, 3) := by decide +kernel
theorem dX1_copyLiving_76 : decode cX1_copyLiving 76 = .ok (.istore 5, 2) := by decide +kernel
theorem dX1_copyLiving_78 : decode cX1_copyLiving 78 = .ok (.iload_n 1, 1) := by decide +kernel
theorem dX1_copyLiving_79 : decode cX1_copyLiving 79 = .ok (.ifCond .le 22, 3) := by decide +kernel
theorem dX1_copyLiving_82 : decode cX1_copyLiving 82 = .ok (.iinc 1 (-1), 3) := by decide +kernel
theorem dX1_copyLiving_85 : decode cX1_copyLiving 85 = .ok (.aload_n 0, 1) := by decide +kernel
theorem dX1_copyLiving_86 : decode cX1_copyLiving 86 = .ok (.getfield 60, 3) := by decide +kernel
theorem dX1_copyLiving_89 : decode cX1_copyLiving 89 = .ok (.iload 5, 2) := by decide +kernel
theorem dX1_copyLiving_91 : decode cX1_copyLiving 91 = .ok (.aload_n 0, 1) := by decide +kernel
theorem dX1_copyLiving_92 : decode cX1_copyLiving 92 = .ok (.iload 4, 2) := by decide +kernel
theorem dX1_copyLiving_94 : decode cX1_copyLiving 94 = .ok (.invokevirtual 159, 3) := by decide +kernel
theorem dX1_copyLiving_97 : decode cX1_copyLiving 97 = .ok (.iastore, 1) := by decide +kernel
theorem dX1_copyLiving_98 : decode cX1_copyLiving 98 = .ok (.goto 62, 3) := by decide +kernel
theorem dX1_copyLiving_101 : decode cX1_copyLiving 101 = .ok (.iload_n 2, 1) := by decide +kernel
theorem dX1_copyLiving_102 : decode cX1_copyLiving 102 = .ok (.ifCond .le 18, 3) := by decide +kernel
theorem dX1_copyLiving_105 : decode cX1_copyLiving 105 = .ok (.iinc 2 (-1), 3) := by decide +kernel
theorem dX1_copyLiving_108 : decode cX1_copyLiving 108 = .ok (.aload_n 0, 1) := by decide +kernel
theorem dX1_copyLiving_109 : decode cX1_copyLiving 109 = .ok (.getfield 60, 3) := by decide +kernel
theorem dX1_copyLiving_112 : decode cX1_copyLiving 112 = .ok (.iload 5, 2) := by decide +kernel
theorem dX1_copyLiving_114 : decode cX1_copyLiving 114 = .ok (.iload 4, 2) := by decide +kernel
theorem dX1_copyLiving_116 : decode cX1_copyLiving 116 = .ok (.iastore, 1) := by decide +kernel
theorem dX1_copyLiving_117 : decode cX1_copyLiving 117 = .ok (.goto 43, 3) := by decide +kernel
theorem dX1_copyLiving_120 : decode cX1_copyLiving 120 = .ok (.iload 4, 2) := by decide +kernel
theorem dX1_copyLiving_122 : decode cX1_copyLiving 122 = .ok (.invokestatic 82, 3) := by decide +kernel
theorem dX1_copyLiving_125 : decode cX1_copyLiving 125 = .ok (.istore_n 1, 1) := by decide +kernel
theorem dX1_copyLiving_126 : decode cX1_copyLiving 126 = .ok (.iload 4, 2) := by decide +kernel
theorem dX1_copyLiving_128 : decode cX1_copyLiving 128 = .ok (.invokestatic 88, 3) := by decide +kernel
theorem dX1_copyLiving_131 : decode cX1_copyLiving 131 = .ok (.istore_n 2, 1) := by decide +kernel
theorem dX1_copyLiving_132 : decode cX1_copyLiving 132 = .ok (.aload_n 0, 1) := by decide +kernel
theorem dX1_copyLiving_133 : decode cX1_copyLiving 133 = .ok (.getfield 60, 3) := by decide +kernel
theorem dX1_copyLiving_136 : decode cX1_copyLiving 136 = .ok (.iload 5, 2) := by decide +kernel
theorem dX1_copyLiving_138 : decode cX1_copyLiving 138 = .ok (.iload 4, 2) := by decide +kernel
theorem dX1_copyLiving_140 : decode cX1_copyLiving 140 = .ok (.iastore, 1) := by decide +kernel
theorem dX1_copyLiving_141 : decode cX1_copyLiving 141 = .ok (.aload_n 0, 1) := by decide +kernel
theorem dX1_copyLiving_142 : decode cX1_copyLiving 142 = .ok (.getfield 54, 3) := by decide +kernel
theorem dX1_copyLiving_145 : decode cX1_copyLiving 145 = .ok (.iload 5, 2) := by decide +kernel
theorem dX1_copyLiving_147 : decode cX1_copyLiving 147 = .ok (.invokevirtual 73, 3) := by decide +kernel
theorem dX1_copyLiving_150 : decode cX1_copyLiving 150 = .ok (.aload_n 0, 1) := by decide +kernel
theorem dX1_copyLiving_151 : decode cX1_copyLiving 151 = .ok (.dup, 1) := by decide +kernel
theorem dX1_copyLiving_152 : decode cX1_copyLiving 152 = .ok (.getfield 76, 3) := by decide +kernel
theorem dX1_copyLiving_155 : decode cX1_copyLiving 155 = .ok (.iconst 1, 1) := by decide +kernel
theorem dX1_copyLiving_156 : decode cX1_copyLiving 156 = .ok (.iadd, 1) := by decide +kernel
theorem dX1_copyLiving_157 : decode cX1_copyLiving 157 = .ok (.putfield 76, 3) := by decide +kernel
theorem dX1_copyLiving_160 : decode cX1_copyLiving 160 = .ok (.iinc 3 1, 3) := by decide +kernel
theorem dX1_copyLiving_163 : decode cX1_copyLiving 163 = .ok (.goto (-132), 3) := by decide +kernel
theorem dX1_copyLiving_166 : decode cX1_copyLiving 166 = .ok (.return_, 1) := by decide +kernel
set_option maxRecDepth 20000 in
theorem ggX1_leadRootsAnew_X1_newAddressOrNone : GoodIn wsX1_leadRootsAnew wsX1_newAddressOrNone := goodIn_r _ [6, 7, 8, 9, 5, 10, 11, 12, 13, 14, 15, 16, 17, 18, 19, 20, 21, 22, 23, 24, 25, 26, 27, 28, 29, 30, 31, 32, 33, 34, 35, 36, 37, 38, 39, 40, 41, 42, 43] (by decide +kernel) (by decide +kernel)
set_option maxRecDepth 20000 in
theorem gX1_leadRootsAnew_X1_newAddressOrNone : GoodIn wsX1_leadRootsAnew (wsV RX1 159 RX1 yX1_newAddressOrNone wsX1_newAddressOrNone) := goodIn_app (goodIn_of _ (by decide +kernel)) ggX1_leadRootsAnew_X1_newAddressOrNone
theorem dX1_leadRootsAnew_0 : decode cX1_leadRootsAnew 0 = .ok (.iconst 0, 1) := by decide +kernel
theorem dX1_leadRootsAnew_1 : decode cX1_leadRootsAnew 1 = .ok (.istore_n 1, 1) := by decide +kernel
theorem dX1_leadRootsAnew_2 : decode cX1_leadRootsAnew 2 = .ok (.iload_n 1, 1) := by decide +kernel
theorem dX1_leadRootsAnew_3 : decode cX1_leadRootsAnew 3 = .ok (.bipush 8, 2) := by decide +kernel
theorem dX1_leadRootsAnew_5 : decode cX1_leadRootsAnew 5 = .ok (.if_icmp .ge 25, 3) := by decide +kernel
theorem dX1_leadRootsAnew_8 : decode cX1_leadRootsAnew 8 = .ok (.aload_n 0, 1) := by decide +kernel
theorem dX1_leadRootsAnew_9 : decode cX1_leadRootsAnew 9 = .ok (.getfield 32, 3) := by decide +kernel
theorem dX1_leadRootsAnew_12 : decode cX1_leadRootsAnew 12 = .ok (.iload_n 1, 1) := by decide +kernel
theorem dX1_leadRootsAnew_13 : decode cX1_leadRootsAnew 13 = .ok (.aload_n 0, 1) := by decide +kernel
theorem dX1_leadRootsAnew_14 : decode cX1_leadRootsAnew 14 = .ok (.aload_n 0, 1) := by decide +kernel
theorem dX1_leadRootsAnew_15 : decode cX1_leadRootsAnew 15 = .ok (.getfield 32, 3) := by decide +kernel
theorem dX1_leadRootsAnew_18 : decode cX1_leadRootsAnew 18 = .ok (.iload_n 1, 1) := by decide +kernel
theorem dX1_leadRootsAnew_19 : decode cX1_leadRootsAnew 19 = .ok (.iaload, 1) := by decide +kernel
theorem dX1_leadRootsAnew_20 : decode cX1_leadRootsAnew 20 = .ok (.invokevirtual 159, 3) := by decide +kernel
theorem dX1_leadRootsAnew_23 : decode cX1_leadRootsAnew 23 = .ok (.iastore, 1) := by decide +kernel
theorem dX1_leadRootsAnew_24 : decode cX1_leadRootsAnew 24 = .ok (.iinc 1 1, 3) := by decide +kernel
theorem dX1_leadRootsAnew_27 : decode cX1_leadRootsAnew 27 = .ok (.goto (-25), 3) := by decide +kernel
theorem dX1_leadRootsAnew_30 : decode cX1_leadRootsAnew 30 = .ok (.return_, 1) := by decide +kernel
theorem dX1_swapSpaces_0 : decode cX1_swapSpaces 0 = .ok (.aload_n 0, 1) := by decide +kernel
theorem dX1_swapSpaces_1 : decode cX1_swapSpaces 1 = .ok (.getfield 57, 3) := by decide +kernel
theorem dX1_swapSpaces_4 : decode cX1_swapSpaces 4 = .ok (.astore_n 1, 1) := by decide +kernel
theorem dX1_swapSpaces_5 : decode cX1_swapSpaces 5 = .ok (.aload_n 0, 1) := by decide +kernel
theorem dX1_swapSpaces_6 : decode cX1_swapSpaces 6 = .ok (.aload_n 0, 1) := by decide +kernel
theorem dX1_swapSpaces_7 : decode cX1_swapSpaces 7 = .ok (.getfield 60, 3) := by decide +kernel
theorem dX1_swapSpaces_10 : decode cX1_swapSpaces 10 = .ok (.putfield 57, 3) := by decide +kernel
theorem dX1_swapSpaces_13 : decode cX1_swapSpaces 13 = .ok (.aload_n 0, 1) := by decide +kernel
theorem dX1_swapSpaces_14 : decode cX1_swapSpaces 14 = .ok (.aload_n 1, 1) := by decide +kernel
theorem dX1_swapSpaces_15 : decode cX1_swapSpaces 15 = .ok (.putfield 60, 3) := by decide +kernel
theorem dX1_swapSpaces_18 : decode cX1_swapSpaces 18 = .ok (.return_, 1) := by decide +kernel
set_option maxRecDepth 20000 in
theorem ggX1_objectsLieInARow_X0_has : GoodIn wsX1_objectsLieInARow wsX0_has := goodIn_r _ [8, 9, 35] (by decide +kernel) (by decide +kernel)
set_option maxRecDepth 20000 in
theorem gX1_objectsLieInARow_X0_has : GoodIn wsX1_objectsLieInARow (wsV RX1 116 RX0 yX0_has wsX0_has) := goodIn_app (goodIn_of _ (by decide +kernel)) ggX1_objectsLieInARow_X0_has
set_option maxRecDepth 20000 in
theorem ggX1_objectsLieInARow_X1_sizeBy : GoodIn wsX1_objectsLieInARow wsX1_sizeBy := goodIn_r _ [13, 14, 15, 12, 16, 17, 18, 19] (by decide +kernel) (by decide +kernel)
set_option maxRecDepth 20000 in
theorem gX1_objectsLieInARow_X1_sizeBy : GoodIn wsX1_objectsLieInARow (va_wsS RX1 69 yX1_sizeBy wsX1_sizeBy) := goodIn_app (goodIn_of _ (by decide +kernel)) ggX1_objectsLieInARow_X1_sizeBy
theorem dX1_objectsLieInARow_0 : decode cX1_objectsLieInARow 0 = .ok (.iconst 1, 1) := by decide +kernel
theorem dX1_objectsLieInARow_1 : decode cX1_objectsLieInARow 1 = .ok (.istore_n 1, 1) := by decide +kernel
theorem dX1_objectsLieInARow_2 : decode cX1_objectsLieInARow 2 = .ok (.iconst 1, 1) := by decide +kernel
theorem dX1_objectsLieInARow_3 : decode cX1_objectsLieInARow 3 = .ok (.istore_n 2, 1) := by decide +kernel
theorem dX1_objectsLieInARow_4 : decode cX1_objectsLieInARow 4 = .ok (.iload_n 2, 1) := by decide +kernel
theorem dX1_objectsLieInARow_5 : decode cX1_objectsLieInARow 5 = .ok (.aload_n 0, 1) := by decide +kernel
theorem dX1_objectsLieInARow_6 : decode cX1_objectsLieInARow 6 = .ok (.getfield 63, 3) := by decide +kernel
theorem dX1_objectsLieInARow_9 : decode cX1_objectsLieInARow 9 = .ok (.if_icmp .ge 49, 3) := by decide +kernel
theorem dX1_objectsLieInARow_12 : decode cX1_objectsLieInARow 12 = .ok (.aload_n 0, 1) := by decide +kernel
theorem dX1_objectsLieInARow_13 : decode cX1_objectsLieInARow 13 = .ok (.getfield 54, 3) := by decide +kernel
theorem dX1_objectsLieInARow_16 : decode cX1_objectsLieInARow 16 = .ok (.iload_n 2, 1) := by decide +kernel
theorem dX1_objectsLieInARow_17 : decode cX1_objectsLieInARow 17 = .ok (.invokevirtual 116, 3) := by decide +kernel
theorem dX1_objectsLieInARow_20 : decode cX1_objectsLieInARow 20 = .ok (.iload_n 2, 1) := by decide +kernel
theorem dX1_objectsLieInARow_21 : decode cX1_objectsLieInARow 21 = .ok (.iload_n 1, 1) := by decide +kernel
theorem dX1_objectsLieInARow_22 : decode cX1_objectsLieInARow 22 = .ok (.if_icmp .ne 7, 3) := by decide +kernel
theorem dX1_objectsLieInARow_25 : decode cX1_objectsLieInARow 25 = .ok (.iconst 1, 1) := by decide +kernel
theorem dX1_objectsLieInARow_26 : decode cX1_objectsLieInARow 26 = .ok (.goto 4, 3) := by decide +kernel
theorem dX1_objectsLieInARow_29 : decode cX1_objectsLieInARow 29 = .ok (.iconst 0, 1) := by decide +kernel
theorem dX1_objectsLieInARow_30 : decode cX1_objectsLieInARow 30 = .ok (.if_icmp .eq 5, 3) := by decide +kernel
theorem dX1_objectsLieInARow_33 : decode cX1_objectsLieInARow 33 = .ok (.iconst 0, 1) := by decide +kernel
theorem dX1_objectsLieInARow_34 : decode cX1_objectsLieInARow 34 = .ok (.ireturn, 1) := by decide +kernel
theorem dX1_objectsLieInARow_35 : decode cX1_objectsLieInARow 35 = .ok (.iload_n 2, 1) := by decide +kernel
theorem dX1_objectsLieInARow_36 : decode cX1_objectsLieInARow 36 = .ok (.iload_n 1, 1) := by decide +kernel
theorem dX1_objectsLieInARow_37 : decode cX1_objectsLieInARow 37 = .ok (.if_icmp .ne 15, 3) := by decide +kernel
theorem dX1_objectsLieInARow_40 : decode cX1_objectsLieInARow 40 = .ok (.iload_n 2, 1) := by decide +kernel
theorem dX1_objectsLieInARow_41 : decode cX1_objectsLieInARow 41 = .ok (.aload_n 0, 1) := by decide +kernel
theorem dX1_objectsLieInARow_42 : decode cX1_objectsLieInARow 42 = .ok (.getfield 57, 3) := by decide +kernel
theorem dX1_objectsLieInARow_45 : decode cX1_objectsLieInARow 45 = .ok (.iload_n 2, 1) := by decide +kernel
theorem dX1_objectsLieInARow_46 : decode cX1_objectsLieInARow 46 = .ok (.iaload, 1) := by decide +kernel
theorem dX1_objectsLieInARow_47 : decode cX1_objectsLieInARow 47 = .ok (.invokestatic 69, 3) := by decide +kernel
theorem dX1_objectsLieInARow_50 : decode cX1_objectsLieInARow 50 = .ok (.iadd, 1) := by decide +kernel
theorem dX1_objectsLieInARow_51 : decode cX1_objectsLieInARow 51 = .ok (.istore_n 1, 1) := by decide +kernel
theorem dX1_objectsLieInARow_52 : decode cX1_objectsLieInARow 52 = .ok (.iinc 2 1, 3) := by decide +kernel
theorem dX1_objectsLieInARow_55 : decode cX1_objectsLieInARow 55 = .ok (.goto (-51), 3) := by decide +kernel
theorem dX1_objectsLieInARow_58 : decode cX1_objectsLieInARow 58 = .ok (.iload_n 1, 1) := by decide +kernel
theorem dX1_objectsLieInARow_59 : decode cX1_objectsLieInARow 59 = .ok (.aload_n 0, 1) := by decide +kernel
theorem dX1_objectsLieInARow_60 : decode cX1_objectsLieInARow 60 = .ok (.getfield 63, 3) := by decide +kernel
theorem dX1_objectsLieInARow_63 : decode cX1_objectsLieInARow 63 = .ok (.if_icmp .ne 7, 3) := by decide +kernel
theorem dX1_objectsLieInARow_66 : decode cX1_objectsLieInARow 66 = .ok (.iconst 1, 1) := by decide +kernel
theorem dX1_objectsLieInARow_67 : decode cX1_objectsLieInARow 67 = .ok (.goto 4, 3) := by decide +kernel
theorem dX1_objectsLieInARow_70 : decode cX1_objectsLieInARow 70 = .ok (.iconst 0, 1) := by decide +kernel
theorem dX1_objectsLieInARow_71 : decode cX1_objectsLieInARow 71 = .ok (.ireturn, 1) := by decide +kernel
set_option maxRecDepth 20000 in
theorem ggX1_rootsLeadToHeaders_X1_isObjectOrNone : GoodIn wsX1_rootsLeadToHeaders wsX1_isObjectOrNone := goodIn_r _ [6, 7, 8, 9, 5, 10, 11, 12, 13, 14, 15, 16, 17, 18, 19, 20, 21, 22, 23, 24, 25, 26, 27, 28, 29, 30, 31, 32, 33, 34] (by decide +kernel) (by decide +kernel)
set_option maxRecDepth 20000 in
theorem gX1_rootsLeadToHeaders_X1_isObjectOrNone : GoodIn wsX1_rootsLeadToHeaders (wsV RX1 85 RX1 yX1_isObjectOrNone wsX1_isObjectOrNone) := goodIn_app (goodIn_of _ (by decide +kernel)) ggX1_rootsLeadToHeaders_X1_isObjectOrNone
theorem dX1_rootsLeadToHeaders_0 : decode cX1_rootsLeadToHeaders 0 = .ok (.iconst 0, 1) := by decide +kernel
theorem dX1_rootsLeadToHeaders_1 : decode cX1_rootsLeadToHeaders 1 = .ok (.istore_n 1, 1) := by decide +kernel
theorem dX1_rootsLeadToHeaders_2 : decode cX1_rootsLeadToHeaders 2 = .ok (.iload_n 1, 1) := by decide +kernel
theorem dX1_rootsLeadToHeaders_3 : decode cX1_rootsLeadToHeaders 3 = .ok (.bipush 8, 2) := by decide +kernel
theorem dX1_rootsLeadToHeaders_5 : decode cX1_rootsLeadToHeaders 5 = .ok (.if_icmp .ge 24, 3) := by decide +kernel
theorem dX1_rootsLeadToHeaders_8 : decode cX1_rootsLeadToHeaders 8 = .ok (.aload_n 0, 1) := by decide +kernel
theorem dX1_rootsLeadToHeaders_9 : decode cX1_rootsLeadToHeaders 9 = .ok (.aload_n 0, 1) := by decide +kernel
theorem dX1_rootsLeadToHeaders_10 : decode cX1_rootsLeadToHeaders 10 = .ok (.getfield 32, 3) := by decide +kernel
theorem dX1_rootsLeadToHeaders_13 : decode cX1_rootsLeadToHeaders 13 = .ok (.iload_n 1, 1) := by decide +kernel
theorem dX1_rootsLeadToHeaders_14 : decode cX1_rootsLeadToHeaders 14 = .ok (.iaload, 1) := by decide +kernel
theorem dX1_rootsLeadToHeaders_15 : decode cX1_rootsLeadToHeaders 15 = .ok (.invokevirtual 85, 3) := by decide +kernel
theorem dX1_rootsLeadToHeaders_18 : decode cX1_rootsLeadToHeaders 18 = .ok (.ifCond .ne 5, 3) := by decide +kernel
theorem dX1_rootsLeadToHeaders_21 : decode cX1_rootsLeadToHeaders 21 = .ok (.iconst 0, 1) := by decide +kernel
theorem dX1_rootsLeadToHeaders_22 : decode cX1_rootsLeadToHeaders 22 = .ok (.ireturn, 1) := by decide +kernel
theorem dX1_rootsLeadToHeaders_23 : decode cX1_rootsLeadToHeaders 23 = .ok (.iinc 1 1, 3) := by decide +kernel
theorem dX1_rootsLeadToHeaders_26 : decode cX1_rootsLeadToHeaders 26 = .ok (.goto (-24), 3) := by decide +kernel
theorem dX1_rootsLeadToHeaders_29 : decode cX1_rootsLeadToHeaders 29 = .ok (.iconst 1, 1) := by decide +kernel
theorem dX1_rootsLeadToHeaders_30 : decode cX1_rootsLeadToHeaders 30 = .ok (.ireturn, 1) := by decide +kernel
set_option maxRecDepth 20000 in
theorem ggX1_referencesLeadToHeaders_X0_has : GoodIn wsX1_referencesLeadToHeaders wsX0_has := goodIn_r _ [7, 8, 41] (by decide +kernel) (by decide +kernel)
set_option maxRecDepth 20000 in
theorem gX1_referencesLeadToHeaders_X0_has : GoodIn wsX1_referencesLeadToHeaders (wsV RX1 116 RX0 yX0_has wsX0_has) := goodIn_app (goodIn_of _ (by decide +kernel)) ggX1_referencesLeadToHeaders_X0_has
set_option maxRecDepth 20000 in
theorem ggX1_referencesLeadToHeaders_X1_referencesOfLeadToHeaders : GoodIn wsX1_referencesLeadToHeaders wsX1_referencesOfLeadToHeaders := goodIn_r _ [13, 14, 15, 16, 12, 17, 18, 19, 20, 21, 22, 23, 24, 25, 1, 2, 3, 4, 5, 6, 7, 8, 26, 27, 28, 29, 30, 31, 32, 33, 34, 35, 36, 37, 38, 39, 40, 41] (by decide +kernel) (by decide +kernel)
set_option maxRecDepth 20000 in
theorem gX1_referencesLeadToHeaders_X1_referencesOfLeadToHeaders : GoodIn wsX1_referencesLeadToHeaders (wsV RX1 162 RX1 yX1_referencesOfLeadToHeaders wsX1_referencesOfLeadToHeaders) := goodIn_app (goodIn_of _ (by decide +kernel)) ggX1_referencesLeadToHeaders_X1_referencesOfLeadToHeaders
theorem dX1_referencesLeadToHeaders_0 : decode cX1_referencesLeadToHeaders 0 = .ok (.iconst 1, 1) := by decide +kernel
theorem dX1_referencesLeadToHeaders_1 : decode cX1_referencesLeadToHeaders 1 = .ok (.istore_n 1, 1) := by decide +kernel
theorem dX1_referencesLeadToHeaders_2 : decode cX1_referencesLeadToHeaders 2 = .ok (.iload_n 1, 1) := by decide +kernel
theorem dX1_referencesLeadToHeaders_3 : decode cX1_referencesLeadToHeaders 3 = .ok (.aload_n 0, 1) := by decide +kernel
theorem dX1_referencesLeadToHeaders_4 : decode cX1_referencesLeadToHeaders 4 = .ok (.getfield 63, 3) := by decide +kernel
theorem dX1_referencesLeadToHeaders_7 : decode cX1_referencesLeadToHeaders 7 = .ok (.if_icmp .ge 30, 3) := by decide +kernel
theorem dX1_referencesLeadToHeaders_10 : decode cX1_referencesLeadToHeaders 10 = .ok (.aload_n 0, 1) := by decide +kernel
theorem dX1_referencesLeadToHeaders_11 : decode cX1_referencesLeadToHeaders 11 = .ok (.getfield 54, 3) := by decide +kernel
theorem dX1_referencesLeadToHeaders_14 : decode cX1_referencesLeadToHeaders 14 = .ok (.iload_n 1, 1) := by decide +kernel
theorem dX1_referencesLeadToHeaders_15 : decode cX1_referencesLeadToHeaders 15 = .ok (.invokevirtual 116, 3) := by decide +kernel
theorem dX1_referencesLeadToHeaders_18 : decode cX1_referencesLeadToHeaders 18 = .ok (.ifCond .eq 13, 3) := by decide +kernel
theorem dX1_referencesLeadToHeaders_21 : decode cX1_referencesLeadToHeaders 21 = .ok (.aload_n 0, 1) := by decide +kernel
theorem dX1_referencesLeadToHeaders_22 : decode cX1_referencesLeadToHeaders 22 = .ok (.iload_n 1, 1) := by decide +kernel
theorem dX1_referencesLeadToHeaders_23 : decode cX1_referencesLeadToHeaders 23 = .ok (.invokevirtual 162, 3) := by decide +kernel
theorem dX1_referencesLeadToHeaders_26 : decode cX1_referencesLeadToHeaders 26 = .ok (.ifCond .ne 5, 3) := by decide +kernel
theorem dX1_referencesLeadToHeaders_29 : decode cX1_referencesLeadToHeaders 29 = .ok (.iconst 0, 1) := by decide +kernel
theorem dX1_referencesLeadToHeaders_30 : decode cX1_referencesLeadToHeaders 30 = .ok (.ireturn, 1) := by decide +kernel
theorem dX1_referencesLeadToHeaders_31 : decode cX1_referencesLeadToHeaders 31 = .ok (.iinc 1 1, 3) := by decide +kernel
theorem dX1_referencesLeadToHeaders_34 : decode cX1_referencesLeadToHeaders 34 = .ok (.goto (-32), 3) := by decide +kernel
theorem dX1_referencesLeadToHeaders_37 : decode cX1_referencesLeadToHeaders 37 = .ok (.iconst 1, 1) := by decide +kernel
theorem dX1_referencesLeadToHeaders_38 : decode cX1_referencesLeadToHeaders 38 = .ok (.ireturn, 1) := by decide +kernel
set_option maxRecDepth 20000 in
theorem ggX1_referencesOfLeadToHeaders_X1_referencesBy : GoodIn wsX1_referencesOfLeadToHeaders wsX1_referencesBy := goodIn_r _ [5] (by decide +kernel) (by decide +kernel)
set_option maxRecDepth 20000 in
theorem gX1_referencesOfLeadToHeaders_X1_referencesBy : GoodIn wsX1_referencesOfLeadToHeaders (va_wsS RX1 82 yX1_referencesBy wsX1_referencesBy) := goodIn_app (goodIn_of _ (by decide +kernel)) ggX1_referencesOfLeadToHeaders_X1_referencesBy
set_option maxRecDepth 20000 in
theorem ggX1_referencesOfLeadToHeaders_X1_isObjectOrNone : GoodIn wsX1_referencesOfLeadToHeaders wsX1_isObjectOrNone := goodIn_r _ [9, 10, 11, 12, 4, 13, 14, 15, 16, 17, 18, 19, 20, 21, 22, 23, 24, 25, 26, 27, 28, 29, 30, 31, 32, 33, 34, 35, 36, 37] (by decide +kernel) (by decide +kernel)
set_option maxRecDepth 20000 in
theorem gX1_referencesOfLeadToHeaders_X1_isObjectOrNone : GoodIn wsX1_referencesOfLeadToHeaders (wsV RX1 85 RX1 yX1_isObjectOrNone wsX1_isObjectOrNone) := goodIn_app (goodIn_of _ (by decide +kernel)) ggX1_referencesOfLeadToHeaders_X1_isObjectOrNone
theorem dX1_referencesOfLeadToHeaders_0 : decode cX1_referencesOfLeadToHeaders 0 = .ok (.aload_n 0, 1) := by decide +kernel
theorem dX1_referencesOfLeadToHeaders_1 : decode cX1_referencesOfLeadToHeaders 1 = .ok (.getfield 57, 3) := by decide +kernel
theorem dX1_referencesOfLeadToHeaders_4 : decode cX1_referencesOfLeadToHeaders 4 = .ok (.iload_n 1, 1) := by decide +kernel
theorem dX1_referencesOfLeadToHeaders_5 : decode cX1_referencesOfLeadToHeaders 5 = .ok (.iaload, 1) := by decide +kernel
theorem dX1_referencesOfLeadToHeaders_6 : decode cX1_referencesOfLeadToHeaders 6 = .ok (.invokestatic 82, 3) := by decide +kernel
theorem dX1_referencesOfLeadToHeaders_9 : decode cX1_referencesOfLeadToHeaders 9 = .ok (.istore_n 2, 1) := by decide +kernel
theorem dX1_referencesOfLeadToHeaders_10 : decode cX1_referencesOfLeadToHeaders 10 = .ok (.iconst 0, 1) := by decide +kernel
theorem dX1_referencesOfLeadToHeaders_11 : decode cX1_referencesOfLeadToHeaders 11 = .ok (.istore_n 3, 1) := by decide +kernel
theorem dX1_referencesOfLeadToHeaders_12 : decode cX1_referencesOfLeadToHeaders 12 = .ok (.iload_n 3, 1) := by decide +kernel
theorem dX1_referencesOfLeadToHeaders_13 : decode cX1_referencesOfLeadToHeaders 13 = .ok (.iload_n 2, 1) := by decide +kernel
theorem dX1_referencesOfLeadToHeaders_14 : decode cX1_referencesOfLeadToHeaders 14 = .ok (.if_icmp .ge 28, 3) := by decide +kernel
theorem dX1_referencesOfLeadToHeaders_17 : decode cX1_referencesOfLeadToHeaders 17 = .ok (.aload_n 0, 1) := by decide +kernel
theorem dX1_referencesOfLeadToHeaders_18 : decode cX1_referencesOfLeadToHeaders 18 = .ok (.aload_n 0, 1) := by decide +kernel
theorem dX1_referencesOfLeadToHeaders_19 : decode cX1_referencesOfLeadToHeaders 19 = .ok (.getfield 57, 3) := by decide +kernel
theorem dX1_referencesOfLeadToHeaders_22 : decode cX1_referencesOfLeadToHeaders 22 = .ok (.iload_n 1, 1) := by decide +kernel
theorem dX1_referencesOfLeadToHeaders_23 : decode cX1_referencesOfLeadToHeaders 23 = .ok (.iconst 1, 1) := by decide +kernel
theorem dX1_referencesOfLeadToHeaders_24 : decode cX1_referencesOfLeadToHeaders 24 = .ok (.iadd, 1) := by decide +kernel
theorem dX1_referencesOfLeadToHeaders_25 : decode cX1_referencesOfLeadToHeaders 25 = .ok (.iload_n 3, 1) := by decide +kernel
theorem dX1_referencesOfLeadToHeaders_26 : decode cX1_referencesOfLeadToHeaders 26 = .ok (.iadd, 1) := by decide +kernel
theorem dX1_referencesOfLeadToHeaders_27 : decode cX1_referencesOfLeadToHeaders 27 = .ok (.iaload, 1) := by decide +kernel
theorem dX1_referencesOfLeadToHeaders_28 : decode cX1_referencesOfLeadToHeaders 28 = .ok (.invokevirtual 85, 3) := by decide +kernel
theorem dX1_referencesOfLeadToHeaders_31 : decode cX1_referencesOfLeadToHeaders 31 = .ok (.ifCond .ne 5, 3) := by decide +kernel
theorem dX1_referencesOfLeadToHeaders_34 : decode cX1_referencesOfLeadToHeaders 34 = .ok (.iconst 0, 1) := by decide +kernel
theorem dX1_referencesOfLeadToHeaders_35 : decode cX1_referencesOfLeadToHeaders 35 = .ok (.ireturn, 1) := by decide +kernel
theorem dX1_referencesOfLeadToHeaders_36 : decode cX1_referencesOfLeadToHeaders 36 = .ok (.iinc 3 1, 3) := by decide +kernel
theorem dX1_referencesOfLeadToHeaders_39 : decode cX1_referencesOfLeadToHeaders 39 = .ok (.goto (-27), 3) := by decide +kernel
theorem dX1_referencesOfLeadToHeaders_42 : decode cX1_referencesOfLeadToHeaders 42 = .ok (.iconst 1, 1) := by decide +kernel
theorem dX1_referencesOfLeadToHeaders_43 : decode cX1_referencesOfLeadToHeaders 43 = .ok (.ireturn, 1) := by decide +kernel
set_option maxRecDepth 20000 in
theorem ggX1_newAddressesFollowFromBits_X0_has : GoodIn wsX1_newAddressesFollowFromBits wsX0_has := goodIn_r _ [7, 8, 43] (by decide +kernel) (by decide +kernel)
set_option maxRecDepth 20000 in
theorem gX1_newAddressesFollowFromBits_X0_has : GoodIn wsX1_newAddressesFollowFromBits (wsV RX1 116 RX0 yX0_has wsX0_has) := goodIn_app (goodIn_of _ (by decide +kernel)) ggX1_newAddressesFollowFromBits_X0_has
set_option maxRecDepth 20000 in
theorem ggX1_newAddressesFollowFromBits_X1_newAddress : GoodIn wsX1_newAddressesFollowFromBits wsX1_newAddress := goodIn_r _ [13, 14, 15, 2, 16, 17, 18, 6, 19, 20, 8, 21, 22, 23, 24, 25, 26, 27, 28, 29, 30, 31, 32, 33, 34, 35, 36, 37, 38, 39, 40, 41, 42, 43] (by decide +kernel) (by decide +kernel)
set_option maxRecDepth 20000 in
theorem gX1_newAddressesFollowFromBits_X1_newAddress : GoodIn wsX1_newAddressesFollowFromBits (wsV RX1 119 RX1 yX1_newAddress wsX1_newAddress) := goodIn_app (goodIn_of _ (by decide +kernel)) ggX1_newAddressesFollowFromBits_X1_newAddress
theorem dX1_newAddressesFollowFromBits_0 : decode cX1_newAddressesFollowFromBits 0 = .ok (.iconst 0, 1) := by decide +kernel
theorem dX1_newAddressesFollowFromBits_1 : decode cX1_newAddressesFollowFromBits 1 = .ok (.istore_n 1, 1) := by decide +kernel
theorem dX1_newAddressesFollowFromBits_2 : decode cX1_newAddressesFollowFromBits 2 = .ok (.iconst 0, 1) := by decide +kernel
theorem dX1_newAddressesFollowFromBits_3 : decode cX1_newAddressesFollowFromBits 3 = .ok (.istore_n 2, 1) := by decide +kernel
theorem dX1_newAddressesFollowFromBits_4 : decode cX1_newAddressesFollowFromBits 4 = .ok (.iload_n 2, 1) := by decide +kernel
theorem dX1_newAddressesFollowFromBits_5 : decode cX1_newAddressesFollowFromBits 5 = .ok (.aload_n 0, 1) := by decide +kernel
theorem dX1_newAddressesFollowFromBits_6 : decode cX1_newAddressesFollowFromBits 6 = .ok (.getfield 18, 3) := by decide +kernel
theorem dX1_newAddressesFollowFromBits_9 : decode cX1_newAddressesFollowFromBits 9 = .ok (.if_icmp .gt 36, 3) := by decide +kernel
theorem dX1_newAddressesFollowFromBits_12 : decode cX1_newAddressesFollowFromBits 12 = .ok (.aload_n 0, 1) := by decide +kernel
theorem dX1_newAddressesFollowFromBits_13 : decode cX1_newAddressesFollowFromBits 13 = .ok (.getfield 41, 3) := by decide +kernel
theorem dX1_newAddressesFollowFromBits_16 : decode cX1_newAddressesFollowFromBits 16 = .ok (.iload_n 2, 1) := by decide +kernel
theorem dX1_newAddressesFollowFromBits_17 : decode cX1_newAddressesFollowFromBits 17 = .ok (.invokevirtual 116, 3) := by decide +kernel
theorem dX1_newAddressesFollowFromBits_20 : decode cX1_newAddressesFollowFromBits 20 = .ok (.ifCond .eq 19, 3) := by decide +kernel
theorem dX1_newAddressesFollowFromBits_23 : decode cX1_newAddressesFollowFromBits 23 = .ok (.aload_n 0, 1) := by decide +kernel
theorem dX1_newAddressesFollowFromBits_24 : decode cX1_newAddressesFollowFromBits 24 = .ok (.iload_n 2, 1) := by decide +kernel
theorem dX1_newAddressesFollowFromBits_25 : decode cX1_newAddressesFollowFromBits 25 = .ok (.invokevirtual 119, 3) := by decide +kernel
theorem dX1_newAddressesFollowFromBits_28 : decode cX1_newAddressesFollowFromBits 28 = .ok (.iconst 1, 1) := by decide +kernel
theorem dX1_newAddressesFollowFromBits_29 : decode cX1_newAddressesFollowFromBits 29 = .ok (.iload_n 1, 1) := by decide +kernel
theorem dX1_newAddressesFollowFromBits_30 : decode cX1_newAddressesFollowFromBits 30 = .ok (.iadd, 1) := by decide +kernel
theorem dX1_newAddressesFollowFromBits_31 : decode cX1_newAddressesFollowFromBits 31 = .ok (.if_icmp .eq 5, 3) := by decide +kernel
theorem dX1_newAddressesFollowFromBits_34 : decode cX1_newAddressesFollowFromBits 34 = .ok (.iconst 0, 1) := by decide +kernel
theorem dX1_newAddressesFollowFromBits_35 : decode cX1_newAddressesFollowFromBits 35 = .ok (.ireturn, 1) := by decide +kernel
theorem dX1_newAddressesFollowFromBits_36 : decode cX1_newAddressesFollowFromBits 36 = .ok (.iinc 1 1, 3) := by decide +kernel
theorem dX1_newAddressesFollowFromBits_39 : decode cX1_newAddressesFollowFromBits 39 = .ok (.iinc 2 1, 3) := by decide +kernel
theorem dX1_newAddressesFollowFromBits_42 : decode cX1_newAddressesFollowFromBits 42 = .ok (.goto (-38), 3) := by decide +kernel
theorem dX1_newAddressesFollowFromBits_45 : decode cX1_newAddressesFollowFromBits 45 = .ok (.iconst 1, 1) := by decide +kernel
theorem dX1_newAddressesFollowFromBits_46 : decode cX1_newAddressesFollowFromBits 46 = .ok (.ireturn, 1) := by decide +kernel
theorem dX2_init_0 : decode cX2_init 0 = .ok (.aload_n 0, 1) := by decide +kernel
theorem dX2_init_1 : decode cX2_init 1 = .ok (.invokespecial 1, 3) := by decide +kernel
theorem dX2_init_4 : decode cX2_init 4 = .ok (.aload_n 0, 1) := by decide +kernel
theorem dX2_init_5 : decode cX2_init 5 = .ok (.iconst 1, 1) := by decide +kernel
theorem dX2_init_6 : decode cX2_init 6 = .ok (.putfield 7, 3) := by decide +kernel
theorem dX2_init_9 : decode cX2_init 9 = .ok (.aload_n 0, 1) := by decide +kernel
theorem dX2_init_10 : decode cX2_init 10 = .ok (.sipush 4001, 3) := by decide +kernel
theorem dX2_init_13 : decode cX2_init 13 = .ok (.newarray .int, 2) := by decide +kernel
theorem dX2_init_15 : decode cX2_init 15 = .ok (.putfield 13, 3) := by decide +kernel
theorem dX2_init_18 : decode cX2_init 18 = .ok (.aload_n 0, 1) := by decide +kernel
theorem dX2_init_19 : decode cX2_init 19 = .ok (.sipush 4001, 3) := by decide +kernel
theorem dX2_init_22 : decode cX2_init 22 = .ok (.newarray .int, 2) := by decide +kernel
theorem dX2_init_24 : decode cX2_init 24 = .ok (.putfield 17, 3) := by decide +kernel
theorem dX2_init_27 : decode cX2_init 27 = .ok (.aload_n 0, 1) := by decide +kernel
theorem dX2_init_28 : decode cX2_init 28 = .ok (.sipush 4002, 3) := by decide +kernel
theorem dX2_init_31 : decode cX2_init 31 = .ok (.newarray .boolean, 2) := by decide +kernel
theorem dX2_init_33 : decode cX2_init 33 = .ok (.putfield 20, 3) := by decide +kernel
theorem dX2_init_36 : decode cX2_init 36 = .ok (.aload_n 0, 1) := by decide +kernel
theorem dX2_init_37 : decode cX2_init 37 = .ok (.sipush 4002, 3) := by decide +kernel
theorem dX2_init_40 : decode cX2_init 40 = .ok (.newarray .boolean, 2) := by decide +kernel
theorem dX2_init_42 : decode cX2_init 42 = .ok (.putfield 24, 3) := by decide +kernel
theorem dX2_init_45 : decode cX2_init 45 = .ok (.aload_n 0, 1) := by decide +kernel
theorem dX2_init_46 : decode cX2_init 46 = .ok (.bipush 8, 2) := by decide +kernel
theorem dX2_init_48 : decode cX2_init 48 = .ok (.newarray .int, 2) := by decide +kernel
theorem dX2_init_50 : decode cX2_init 50 = .ok (.putfield 27, 3) := by decide +kernel
theorem dX2_init_53 : decode cX2_init 53 = .ok (.aload_n 0, 1) := by decide +kernel
theorem dX2_init_54 : decode cX2_init 54 = .ok (.sipush 4001, 3) := by decide +kernel
theorem dX2_init_57 : decode cX2_init 57 = .ok (.newarray .int, 2) := by decide +kernel
theorem dX2_init_59 : decode cX2_init 59 = .ok (.putfield 30, 3) := by decide +kernel
theorem dX2_init_62 : decode cX2_init 62 = .ok (.aload_n 0, 1) := by decide +kernel
theorem dX2_init_63 : decode cX2_init 63 = .ok (.sipush 4001, 3) := by decide +kernel
theorem dX2_init_66 : decode cX2_init 66 = .ok (.newarray .int, 2) := by decide +kernel
theorem dX2_init_68 : decode cX2_init 68 = .ok (.putfield 33, 3) := by decide +kernel
theorem dX2_init_71 : decode cX2_init 71 = .ok (.aload_n 0, 1) := by decide +kernel
theorem dX2_init_72 : decode cX2_init 72 = .ok (.iload_n 1, 1) := by decide +kernel
theorem dX2_init_73 : decode cX2_init 73 = .ok (.bipush 16, 2) := by decide +kernel
theorem dX2_init_75 : decode cX2_init 75 = .ok (.if_icmp .ge 8, 3) := by decide +kernel
theorem dX2_init_78 : decode cX2_init 78 = .ok (.bipush 16, 2) := by decide +kernel
theorem dX2_init_80 : decode cX2_init 80 = .ok (.goto 17, 3) := by decide +kernel
theorem dX2_init_83 : decode cX2_init 83 = .ok (.iload_n 1, 1) := by decide +kernel
theorem dX2_init_84 : decode cX2_init 84 = .ok (.sipush 4000, 3) := by decide +kernel
theorem dX2_init_87 : decode cX2_init 87 = .ok (.if_icmp .le 9, 3) := by decide +kernel
theorem dX2_init_90 : decode cX2_init 90 = .ok (.sipush 4000, 3) := by decide +kernel
theorem dX2_init_93 : decode cX2_init 93 = .ok (.goto 4, 3) := by decide +kernel
theorem dX2_init_96 : decode cX2_init 96 = .ok (.iload_n 1, 1) := by decide +kernel
theorem dX2_init_97 : decode cX2_init 97 = .ok (.putfield 36, 3) := by decide +kernel
theorem dX2_init_100 : decode cX2_init 100 = .ok (.aload_n 0, 1) := by decide +kernel
theorem dX2_init_101 : decode cX2_init 101 = .ok (.iload_n 2, 1) := by decide +kernel
theorem dX2_init_102 : decode cX2_init 102 = .ok (.bipush 8, 2) := by decide +kernel
theorem dX2_init_104 : decode cX2_init 104 = .ok (.if_icmp .eq 15, 3) := by decide +kernel
theorem dX2_init_107 : decode cX2_init 107 = .ok (.iload_n 2, 1) := by decide +kernel
theorem dX2_init_108 : decode cX2_init 108 = .ok (.bipush 16, 2) := by decide +kernel
theorem dX2_init_110 : decode cX2_init 110 = .ok (.if_icmp .eq 9, 3) := by decide +kernel
theorem dX2_init_113 : decode cX2_init 113 = .ok (.iload_n 2, 1) := by decide +kernel
theorem dX2_init_114 : decode cX2_init 114 = .ok (.bipush 64, 2) := by decide +kernel
theorem dX2_init_116 : decode cX2_init 116 = .ok (.if_icmp .ne 7, 3) := by decide +kernel
theorem dX2_init_119 : decode cX2_init 119 = .ok (.iload_n 2, 1) := by decide +kernel
theorem dX2_init_120 : decode cX2_init 120 = .ok (.goto 5, 3) := by decide +kernel
theorem dX2_init_123 : decode cX2_init 123 = .ok (.bipush 32, 2) := by decide +kernel
theorem dX2_init_125 : decode cX2_init 125 = .ok (.putfield 39, 3) := by decide +kernel
theorem dX2_init_128 : decode cX2_init 128 = .ok (.return_, 1) := by decide +kernel
theorem dX2_isIn_0 : decode cX2_isIn 0 = .ok (.iload_n 0, 1) := by decide +kernel
theorem dX2_isIn_1 : decode cX2_isIn 1 = .ok (.iload_n 1, 1) := by decide +kernel
theorem dX2_isIn_2 : decode cX2_isIn 2 = .ok (.if_icmp .lt 12, 3) := by decide +kernel
theorem dX2_isIn_5 : decode cX2_isIn 5 = .ok (.iload_n 0, 1) := by decide +kernel
theorem dX2_isIn_6 : decode cX2_isIn 6 = .ok (.iload_n 2, 1) := by decide +kernel
theorem dX2_isIn_7 : decode cX2_isIn 7 = .ok (.if_icmp .gt 7, 3) := by decide +kernel
theorem dX2_isIn_10 : decode cX2_isIn 10 = .ok (.iconst 1, 1) := by decide +kernel
theorem dX2_isIn_11 : decode cX2_isIn 11 = .ok (.goto 4, 3) := by decide +kernel
theorem dX2_isIn_14 : decode cX2_isIn 14 = .ok (.iconst 0, 1) := by decide +kernel
theorem dX2_isIn_15 : decode cX2_isIn 15 = .ok (.ireturn, 1) := by decide +kernel
theorem dX2_plain_0 : decode cX2_plain 0 = .ok (.aload_n 0, 1) := by decide +kernel
theorem dX2_plain_1 : decode cX2_plain 1 = .ok (.getfield 13, 3) := by decide +kernel
theorem dX2_plain_4 : decode cX2_plain 4 = .ok (.iload_n 1, 1) := by decide +kernel
theorem dX2_plain_5 : decode cX2_plain 5 = .ok (.iaload, 1) := by decide +kernel
theorem dX2_plain_6 : decode cX2_plain 6 = .ok (.sipush 256, 3) := by decide +kernel
theorem dX2_plain_9 : decode cX2_plain 9 = .ok (.idiv, 1) := by decide +kernel
theorem dX2_plain_10 : decode cX2_plain 10 = .ok (.ireturn, 1) := by decide +kernel
theorem dX2_references_0 : decode cX2_references 0 = .ok (.aload_n 0, 1) := by decide +kernel
theorem dX2_references_1 : decode cX2_references 1 = .ok (.getfield 13, 3) := by decide +kernel
theorem dX2_references_4 : decode cX2_references 4 = .ok (.iload_n 1, 1) := by decide +kernel
theorem dX2_references_5 : decode cX2_references 5 = .ok (.iaload, 1) := by decide +kernel
theorem dX2_references_6 : decode cX2_references 6 = .ok (.bipush 16, 2) := by decide +kernel
theorem dX2_references_8 : decode cX2_references 8 = .ok (.idiv, 1) := by decide +kernel
theorem dX2_references_9 : decode cX2_references 9 = .ok (.bipush 16, 2) := by decide +kernel
theorem dX2_references_11 : decode cX2_references 11 = .ok (.irem, 1) := by decide +kernel
theorem dX2_references_12 : decode cX2_references 12 = .ok (.ireturn, 1) := by decide +kernel
set_option maxRecDepth 20000 in
theorem ggX2_length_X2_references : GoodIn wsX2_length wsX2_references := goodIn_r _ [5, 6, 11, 12, 13, 14, 15, 16, 17, 18, 19, 20, 21, 22, 23, 24] (by decide +kernel) (by decide +kernel)
set_option maxRecDepth 20000 in
theorem gX2_length_X2_references : GoodIn wsX2_length (wsV RX2 45 RX2 yX2_references wsX2_references) := goodIn_app (goodIn_of _ (by decide +kernel)) ggX2_length_X2_references
set_option maxRecDepth 20000 in
theorem ggX2_length_X2_plain : GoodIn wsX2_length wsX2_plain := goodIn_r _ [10, 6, 11, 12, 13, 14, 15, 16, 17, 18, 19, 20, 21, 22, 23, 24] (by decide +kernel) (by decide +kernel)
set_option maxRecDepth 20000 in
theorem gX2_length_X2_plain : GoodIn wsX2_length (wsV RX2 49 RX2 yX2_plain wsX2_plain) := goodIn_app (goodIn_of _ (by decide +kernel)) ggX2_length_X2_plain
theorem dX2_length_0 : decode cX2_length 0 = .ok (.iconst 1, 1) := by decide +kernel
theorem dX2_length_1 : decode cX2_length 1 = .ok (.aload_n 0, 1) := by decide +kernel
theorem dX2_length_2 : decode cX2_length 2 = .ok (.iload_n 1, 1) := by decide +kernel
theorem dX2_length_3 : decode cX2_length 3 = .ok (.invokevirtual 45, 3) := by decide +kernel
theorem dX2_length_6 : decode cX2_length 6 = .ok (.iadd, 1) := by decide +kernel
theorem dX2_length_7 : decode cX2_length 7 = .ok (.aload_n 0, 1) := by decide +kernel
theorem dX2_length_8 : decode cX2_length 8 = .ok (.iload_n 1, 1) := by decide +kernel
theorem dX2_length_9 : decode cX2_length 9 = .ok (.invokevirtual 49, 3) := by decide +kernel
theorem dX2_length_12 : decode cX2_length 12 = .ok (.iadd, 1) := by decide +kernel
theorem dX2_length_13 : decode cX2_length 13 = .ok (.ireturn, 1) := by decide +kernel
set_option maxRecDepth 20000 in
theorem ggX2_make_X2_isIn : GoodIn wsX2_make wsX2_isIn := goodIn_r _ [9] (by decide +kernel) (by decide +kernel)
set_option maxRecDepth 20000 in
theorem gX2_make_X2_isIn : GoodIn wsX2_make (va_wsS RX2 52 yX2_isIn wsX2_isIn) := goodIn_app (goodIn_of _ (by decide +kernel)) ggX2_make_X2_isIn
theorem dX2_make_0 : decode cX2_make 0 = .ok (.iload_n 1, 1) := by decide +kernel
theorem dX2_make_1 : decode cX2_make 1 = .ok (.iconst 0, 1) := by decide +kernel
theorem dX2_make_2 : decode cX2_make 2 = .ok (.bipush 15, 2) := by decide +kernel
theorem dX2_make_4 : decode cX2_make 4 = .ok (.invokestatic 52, 3) := by decide +kernel
theorem dX2_make_7 : decode cX2_make 7 = .ok (.ifCond .eq 13, 3) := by decide +kernel
theorem dX2_make_10 : decode cX2_make 10 = .ok (.iload_n 2, 1) := by decide +kernel
theorem dX2_make_11 : decode cX2_make 11 = .ok (.iconst 0, 1) := by decide +kernel
theorem dX2_make_12 : decode cX2_make 12 = .ok (.bipush 100, 2) := by decide +kernel
theorem dX2_make_14 : decode cX2_make 14 = .ok (.invokestatic 52, 3) := by decide +kernel
theorem dX2_make_17 : decode cX2_make 17 = .ok (.ifCond .ne 5, 3) := by decide +kernel
theorem dX2_make_20 : decode cX2_make 20 = .ok (.iconst (-1), 1) := by decide +kernel
theorem dX2_make_21 : decode cX2_make 21 = .ok (.ireturn, 1) := by decide +kernel
theorem dX2_make_22 : decode cX2_make 22 = .ok (.aload_n 0, 1) := by decide +kernel
theorem dX2_make_23 : decode cX2_make 23 = .ok (.getfield 7, 3) := by decide +kernel
theorem dX2_make_26 : decode cX2_make 26 = .ok (.iload_n 1, 1) := by decide +kernel
theorem dX2_make_27 : decode cX2_make 27 = .ok (.iadd, 1) := by decide +kernel
theorem dX2_make_28 : decode cX2_make 28 = .ok (.iload_n 2, 1) := by decide +kernel
theorem dX2_make_29 : decode cX2_make 29 = .ok (.iadd, 1) := by decide +kernel
theorem dX2_make_30 : decode cX2_make 30 = .ok (.aload_n 0, 1) := by decide +kernel
theorem dX2_make_31 : decode cX2_make 31 = .ok (.getfield 36, 3) := by decide +kernel
theorem dX2_make_34 : decode cX2_make 34 = .ok (.if_icmp .le 5, 3) := by decide +kernel
theorem dX2_make_37 : decode cX2_make 37 = .ok (.iconst 0, 1) := by decide +kernel
theorem dX2_make_38 : decode cX2_make 38 = .ok (.ireturn, 1) := by decide +kernel
theorem dX2_make_39 : decode cX2_make 39 = .ok (.aload_n 0, 1) := by decide +kernel
theorem dX2_make_40 : decode cX2_make 40 = .ok (.getfield 7, 3) := by decide +kernel
theorem dX2_make_43 : decode cX2_make 43 = .ok (.istore_n 3, 1) := by decide +kernel
theorem dX2_make_44 : decode cX2_make 44 = .ok (.aload_n 0, 1) := by decide +kernel
theorem dX2_make_45 : decode cX2_make 45 = .ok (.getfield 13, 3) := by decide +kernel
theorem dX2_make_48 : decode cX2_make 48 = .ok (.iload_n 3, 1) := by decide +kernel
theorem dX2_make_49 : decode cX2_make 49 = .ok (.sipush 256, 3) := by decide +kernel
theorem dX2_make_52 : decode cX2_make 52 = .ok (.iload_n 2, 1) := by decide +kernel
theorem dX2_make_53 : decode cX2_make 53 = .ok (.imul, 1) := by decide +kernel
theorem dX2_make_54 : decode cX2_make 54 = .ok (.bipush 16, 2) := by decide +kernel
theorem dX2_make_56 : decode cX2_make 56 = .ok (.iload_n 1, 1) := by decide +kernel
theorem dX2_make_57 : decode cX2_make 57 = .ok (.imul, 1) := by decide +kernel
theorem dX2_make_58 : decode cX2_make 58 = .ok (.iadd, 1) := by decide +kernel
theorem dX2_make_59 : decode cX2_make 59 = .ok (.iastore, 1) := by decide +kernel
theorem dX2_make_60 : decode cX2_make 60 = .ok (.iconst 1, 1) := by decide +kernel
theorem dX2_make_61 : decode cX2_make 61 = .ok (.istore 4, 2) := by decide +kernel
theorem dX2_make_63 : decode cX2_make 63 = .ok (.iload 4, 2) := by decide +kernel
theorem dX2_make_65 : decode cX2_make 65 = .ok (.iload_n 1, 1) := by decide +kernel
theorem dX2_make_66 : decode cX2_make 66 = .ok (.iload_n 2, 1) := by decide +kernel
theorem dX2_make_67 : decode cX2_make 67 = .ok (.iadd, 1) := by decide +kernel
theorem dX2_make_68 : decode cX2_make 68 = .ok (.if_icmp .gt 19, 3) := by decide +kernel
