theorem dX3_needsAt_41 : decode cX3_needsAt 41 = .ok (.goto (-37), 3) := by decide +kernel
theorem dX3_needsAt_44 : decode cX3_needsAt 44 = .ok (.iload_n 2, 1) := by decide +kernel
theorem dX3_needsAt_45 : decode cX3_needsAt 45 = .ok (.ireturn, 1) := by decide +kernel
theorem dX4_init_0 : decode cX4_init 0 = .ok (.aload_n 0, 1) := by decide +kernel
theorem dX4_init_1 : decode cX4_init 1 = .ok (.invokespecial 5, 3) := by decide +kernel
theorem dX4_init_4 : decode cX4_init 4 = .ok (.aload_n 0, 1) := by decide +kernel
theorem dX4_init_5 : decode cX4_init 5 = .ok (.bipush 25, 2) := by decide +kernel
theorem dX4_init_7 : decode cX4_init 7 = .ok (.newarray .int, 2) := by decide +kernel
theorem dX4_init_9 : decode cX4_init 9 = .ok (.putfield 11, 3) := by decide +kernel
theorem dX4_init_12 : decode cX4_init 12 = .ok (.aload_n 0, 1) := by decide +kernel
theorem dX4_init_13 : decode cX4_init 13 = .ok (.bipush 10, 2) := by decide +kernel
theorem dX4_init_15 : decode cX4_init 15 = .ok (.newarray .int, 2) := by decide +kernel
theorem dX4_init_17 : decode cX4_init 17 = .ok (.putfield 17, 3) := by decide +kernel
theorem dX4_init_20 : decode cX4_init 20 = .ok (.return_, 1) := by decide +kernel
set_option maxRecDepth 20000 in
theorem ggX4_leastMoves_X4_number : GoodIn wsX4_leastMoves wsX4_number := goodIn_r _ [9, 4, 3, 10, 11, 12, 13, 14, 15, 16, 17, 18, 43, 44, 45, 46, 47, 48, 49, 50, 51, 52, 53] (by decide +kernel) (by decide +kernel)
set_option maxRecDepth 20000 in
theorem gX4_leastMoves_X4_number : GoodIn wsX4_leastMoves (wsV RX4 20 RX4 yX4_number wsX4_number) := goodIn_app (goodIn_of _ (by decide +kernel)) ggX4_leastMoves_X4_number
set_option maxRecDepth 20000 in
theorem ggX4_leastMoves_X4_join : GoodIn wsX4_leastMoves wsX4_join := goodIn_r _ [22, 23, 10, 24, 25, 26, 27, 11, 12, 13, 14, 15, 16, 17, 18, 28, 29, 30, 8, 31, 43, 44, 45, 46, 47, 48, 49, 50, 51, 52, 53] (by decide +kernel) (by decide +kernel)
set_option maxRecDepth 20000 in
theorem gX4_leastMoves_X4_join : GoodIn wsX4_leastMoves (wsV RX4 24 RX4 yX4_join wsX4_join) := goodIn_app (goodIn_of _ (by decide +kernel)) ggX4_leastMoves_X4_join
set_option maxRecDepth 20000 in
theorem ggX4_leastMoves_J7_fill_53178 : GoodIn wsX4_leastMoves wsJ7_fill_53178 := goodIn_r _ [27] (by decide +kernel) (by decide +kernel)
set_option maxRecDepth 20000 in
theorem gX4_leastMoves_J7_fill_53178 : GoodIn wsX4_leastMoves (va_wsS RX4 30 yJ7_fill_53178 wsJ7_fill_53178) := goodIn_app (goodIn_of _ (by decide +kernel)) ggX4_leastMoves_J7_fill_53178
set_option maxRecDepth 20000 in
theorem ggX4_leastMoves_X4_frontOf : GoodIn wsX4_leastMoves wsX4_frontOf := goodIn_r _ [34] (by decide +kernel) (by decide +kernel)
set_option maxRecDepth 20000 in
theorem gX4_leastMoves_X4_frontOf : GoodIn wsX4_leastMoves (va_wsS RX4 40 yX4_frontOf wsX4_frontOf) := goodIn_app (goodIn_of _ (by decide +kernel)) ggX4_leastMoves_X4_frontOf
set_option maxRecDepth 20000 in
theorem ggX4_leastMoves_X4_moveOn : GoodIn wsX4_leastMoves wsX4_moveOn := goodIn_r _ [38, 4, 1, 39, 40, 41, 8, 42, 23, 32, 33, 34, 43, 44, 45, 46, 47] (by decide +kernel) (by decide +kernel)
set_option maxRecDepth 20000 in
theorem gX4_leastMoves_X4_moveOn : GoodIn wsX4_leastMoves (wsV RX4 47 RX4 yX4_moveOn wsX4_moveOn) := goodIn_app (goodIn_of _ (by decide +kernel)) ggX4_leastMoves_X4_moveOn
theorem dX4_leastMoves_0 : decode cX4_leastMoves 0 = .ok (.aload_n 0, 1) := by decide +kernel
theorem dX4_leastMoves_1 : decode cX4_leastMoves 1 = .ok (.aload_n 1, 1) := by decide +kernel
theorem dX4_leastMoves_2 : decode cX4_leastMoves 2 = .ok (.invokevirtual 20, 3) := by decide +kernel
theorem dX4_leastMoves_5 : decode cX4_leastMoves 5 = .ok (.aload_n 0, 1) := by decide +kernel
theorem dX4_leastMoves_6 : decode cX4_leastMoves 6 = .ok (.aload_n 1, 1) := by decide +kernel
theorem dX4_leastMoves_7 : decode cX4_leastMoves 7 = .ok (.invokevirtual 24, 3) := by decide +kernel
theorem dX4_leastMoves_10 : decode cX4_leastMoves 10 = .ok (.aload_n 0, 1) := by decide +kernel
theorem dX4_leastMoves_11 : decode cX4_leastMoves 11 = .ok (.getfield 27, 3) := by decide +kernel
theorem dX4_leastMoves_14 : decode cX4_leastMoves 14 = .ok (.ifnonnull 12, 3) := by decide +kernel
theorem dX4_leastMoves_17 : decode cX4_leastMoves 17 = .ok (.aload_n 0, 1) := by decide +kernel
theorem dX4_leastMoves_18 : decode cX4_leastMoves 18 = .ok (.sipush 1024, 3) := by decide +kernel
theorem dX4_leastMoves_21 : decode cX4_leastMoves 21 = .ok (.newarray .int, 2) := by decide +kernel
theorem dX4_leastMoves_23 : decode cX4_leastMoves 23 = .ok (.putfield 27, 3) := by decide +kernel
theorem dX4_leastMoves_26 : decode cX4_leastMoves 26 = .ok (.aload_n 0, 1) := by decide +kernel
theorem dX4_leastMoves_27 : decode cX4_leastMoves 27 = .ok (.getfield 27, 3) := by decide +kernel
theorem dX4_leastMoves_30 : decode cX4_leastMoves 30 = .ok (.iconst 0, 1) := by decide +kernel
theorem dX4_leastMoves_31 : decode cX4_leastMoves 31 = .ok (.invokestatic 30, 3) := by decide +kernel
theorem dX4_leastMoves_34 : decode cX4_leastMoves 34 = .ok (.aload_n 0, 1) := by decide +kernel
theorem dX4_leastMoves_35 : decode cX4_leastMoves 35 = .ok (.getfield 27, 3) := by decide +kernel
theorem dX4_leastMoves_38 : decode cX4_leastMoves 38 = .ok (.iconst 1, 1) := by decide +kernel
theorem dX4_leastMoves_39 : decode cX4_leastMoves 39 = .ok (.aload_n 0, 1) := by decide +kernel
theorem dX4_leastMoves_40 : decode cX4_leastMoves 40 = .ok (.getfield 36, 3) := by decide +kernel
theorem dX4_leastMoves_43 : decode cX4_leastMoves 43 = .ok (.ishl, 1) := by decide +kernel
theorem dX4_leastMoves_44 : decode cX4_leastMoves 44 = .ok (.iconst 1, 1) := by decide +kernel
theorem dX4_leastMoves_45 : decode cX4_leastMoves 45 = .ok (.aload_n 0, 1) := by decide +kernel
theorem dX4_leastMoves_46 : decode cX4_leastMoves 46 = .ok (.getfield 36, 3) := by decide +kernel
theorem dX4_leastMoves_49 : decode cX4_leastMoves 49 = .ok (.ishl, 1) := by decide +kernel
theorem dX4_leastMoves_50 : decode cX4_leastMoves 50 = .ok (.invokestatic 40, 3) := by decide +kernel
theorem dX4_leastMoves_53 : decode cX4_leastMoves 53 = .ok (.iastore, 1) := by decide +kernel
theorem dX4_leastMoves_54 : decode cX4_leastMoves 54 = .ok (.iconst 2, 1) := by decide +kernel
theorem dX4_leastMoves_55 : decode cX4_leastMoves 55 = .ok (.aload_n 0, 1) := by decide +kernel
theorem dX4_leastMoves_56 : decode cX4_leastMoves 56 = .ok (.getfield 44, 3) := by decide +kernel
theorem dX4_leastMoves_59 : decode cX4_leastMoves 59 = .ok (.iconst 1, 1) := by decide +kernel
theorem dX4_leastMoves_60 : decode cX4_leastMoves 60 = .ok (.isub, 1) := by decide +kernel
theorem dX4_leastMoves_61 : decode cX4_leastMoves 61 = .ok (.imul, 1) := by decide +kernel
theorem dX4_leastMoves_62 : decode cX4_leastMoves 62 = .ok (.istore_n 2, 1) := by decide +kernel
theorem dX4_leastMoves_63 : decode cX4_leastMoves 63 = .ok (.iconst 1, 1) := by decide +kernel
theorem dX4_leastMoves_64 : decode cX4_leastMoves 64 = .ok (.aload_n 0, 1) := by decide +kernel
theorem dX4_leastMoves_65 : decode cX4_leastMoves 65 = .ok (.getfield 44, 3) := by decide +kernel
theorem dX4_leastMoves_68 : decode cX4_leastMoves 68 = .ok (.ishl, 1) := by decide +kernel
theorem dX4_leastMoves_69 : decode cX4_leastMoves 69 = .ok (.iconst 1, 1) := by decide +kernel
theorem dX4_leastMoves_70 : decode cX4_leastMoves 70 = .ok (.isub, 1) := by decide +kernel
theorem dX4_leastMoves_71 : decode cX4_leastMoves 71 = .ok (.istore_n 3, 1) := by decide +kernel
theorem dX4_leastMoves_72 : decode cX4_leastMoves 72 = .ok (.iconst 0, 1) := by decide +kernel
theorem dX4_leastMoves_73 : decode cX4_leastMoves 73 = .ok (.istore 4, 2) := by decide +kernel
theorem dX4_leastMoves_75 : decode cX4_leastMoves 75 = .ok (.iload 4, 2) := by decide +kernel
theorem dX4_leastMoves_77 : decode cX4_leastMoves 77 = .ok (.iload_n 2, 1) := by decide +kernel
theorem dX4_leastMoves_78 : decode cX4_leastMoves 78 = .ok (.if_icmp .gt 35, 3) := by decide +kernel
theorem dX4_leastMoves_81 : decode cX4_leastMoves 81 = .ok (.aload_n 0, 1) := by decide +kernel
theorem dX4_leastMoves_82 : decode cX4_leastMoves 82 = .ok (.getfield 27, 3) := by decide +kernel
theorem dX4_leastMoves_85 : decode cX4_leastMoves 85 = .ok (.iload_n 3, 1) := by decide +kernel
theorem dX4_leastMoves_86 : decode cX4_leastMoves 86 = .ok (.iaload, 1) := by decide +kernel
theorem dX4_leastMoves_87 : decode cX4_leastMoves 87 = .ok (.iconst 1, 1) := by decide +kernel
theorem dX4_leastMoves_88 : decode cX4_leastMoves 88 = .ok (.aload_n 0, 1) := by decide +kernel
theorem dX4_leastMoves_89 : decode cX4_leastMoves 89 = .ok (.getfield 36, 3) := by decide +kernel
theorem dX4_leastMoves_92 : decode cX4_leastMoves 92 = .ok (.ishl, 1) := by decide +kernel
theorem dX4_leastMoves_93 : decode cX4_leastMoves 93 = .ok (.invokestatic 40, 3) := by decide +kernel
theorem dX4_leastMoves_96 : decode cX4_leastMoves 96 = .ok (.iand, 1) := by decide +kernel
theorem dX4_leastMoves_97 : decode cX4_leastMoves 97 = .ok (.ifCond .eq 6, 3) := by decide +kernel
theorem dX4_leastMoves_100 : decode cX4_leastMoves 100 = .ok (.iload 4, 2) := by decide +kernel
theorem dX4_leastMoves_102 : decode cX4_leastMoves 102 = .ok (.ireturn, 1) := by decide +kernel
theorem dX4_leastMoves_103 : decode cX4_leastMoves 103 = .ok (.aload_n 0, 1) := by decide +kernel
theorem dX4_leastMoves_104 : decode cX4_leastMoves 104 = .ok (.invokevirtual 47, 3) := by decide +kernel
theorem dX4_leastMoves_107 : decode cX4_leastMoves 107 = .ok (.iinc 4 1, 3) := by decide +kernel
theorem dX4_leastMoves_110 : decode cX4_leastMoves 110 = .ok (.goto (-35), 3) := by decide +kernel
theorem dX4_leastMoves_113 : decode cX4_leastMoves 113 = .ok (.bipush (-9), 2) := by decide +kernel
theorem dX4_leastMoves_115 : decode cX4_leastMoves 115 = .ok (.ireturn, 1) := by decide +kernel
set_option maxRecDepth 20000 in
theorem ggX4_number_X0_sign : GoodIn wsX4_number wsX0_sign := goodIn_r _ [8, 9, 10, 11, 17, 18, 19, 20, 21, 22] (by decide +kernel) (by decide +kernel)
set_option maxRecDepth 20000 in
theorem gX4_number_X0_sign : GoodIn wsX4_number (wsV RX4 56 RX0 yX0_sign wsX0_sign) := goodIn_app (goodIn_of _ (by decide +kernel)) ggX4_number_X0_sign
theorem dX4_number_0 : decode cX4_number 0 = .ok (.aload_n 0, 1) := by decide +kernel
theorem dX4_number_1 : decode cX4_number 1 = .ok (.iconst 0, 1) := by decide +kernel
theorem dX4_number_2 : decode cX4_number 2 = .ok (.putfield 44, 3) := by decide +kernel
theorem dX4_number_5 : decode cX4_number 5 = .ok (.aload_n 0, 1) := by decide +kernel
theorem dX4_number_6 : decode cX4_number 6 = .ok (.iconst 0, 1) := by decide +kernel
theorem dX4_number_7 : decode cX4_number 7 = .ok (.putfield 36, 3) := by decide +kernel
theorem dX4_number_10 : decode cX4_number 10 = .ok (.iconst 0, 1) := by decide +kernel
theorem dX4_number_11 : decode cX4_number 11 = .ok (.istore_n 2, 1) := by decide +kernel
theorem dX4_number_12 : decode cX4_number 12 = .ok (.iload_n 2, 1) := by decide +kernel
theorem dX4_number_13 : decode cX4_number 13 = .ok (.aload_n 1, 1) := by decide +kernel
theorem dX4_number_14 : decode cX4_number 14 = .ok (.getfield 50, 3) := by decide +kernel
theorem dX4_number_17 : decode cX4_number 17 = .ok (.if_icmp .ge 85, 3) := by decide +kernel
theorem dX4_number_20 : decode cX4_number 20 = .ok (.iconst 0, 1) := by decide +kernel
theorem dX4_number_21 : decode cX4_number 21 = .ok (.istore_n 3, 1) := by decide +kernel
theorem dX4_number_22 : decode cX4_number 22 = .ok (.iload_n 3, 1) := by decide +kernel
theorem dX4_number_23 : decode cX4_number 23 = .ok (.aload_n 1, 1) := by decide +kernel
theorem dX4_number_24 : decode cX4_number 24 = .ok (.getfield 53, 3) := by decide +kernel
theorem dX4_number_27 : decode cX4_number 27 = .ok (.if_icmp .ge 69, 3) := by decide +kernel
theorem dX4_number_30 : decode cX4_number 30 = .ok (.aload_n 1, 1) := by decide +kernel
theorem dX4_number_31 : decode cX4_number 31 = .ok (.iload_n 2, 1) := by decide +kernel
theorem dX4_number_32 : decode cX4_number 32 = .ok (.iload_n 3, 1) := by decide +kernel
theorem dX4_number_33 : decode cX4_number 33 = .ok (.invokevirtual 56, 3) := by decide +kernel
theorem dX4_number_36 : decode cX4_number 36 = .ok (.istore 4, 2) := by decide +kernel
theorem dX4_number_38 : decode cX4_number 38 = .ok (.iload 4, 2) := by decide +kernel
theorem dX4_number_40 : decode cX4_number 40 = .ok (.iconst 2, 1) := by decide +kernel
theorem dX4_number_41 : decode cX4_number 41 = .ok (.if_icmp .ne 11, 3) := by decide +kernel
theorem dX4_number_44 : decode cX4_number 44 = .ok (.aload_n 0, 1) := by decide +kernel
theorem dX4_number_45 : decode cX4_number 45 = .ok (.aload_n 0, 1) := by decide +kernel
theorem dX4_number_46 : decode cX4_number 46 = .ok (.getfield 44, 3) := by decide +kernel
theorem dX4_number_49 : decode cX4_number 49 = .ok (.putfield 36, 3) := by decide +kernel
theorem dX4_number_52 : decode cX4_number 52 = .ok (.iload 4, 2) := by decide +kernel
theorem dX4_number_54 : decode cX4_number 54 = .ok (.ifCond .eq 36, 3) := by decide +kernel
theorem dX4_number_57 : decode cX4_number 57 = .ok (.aload_n 0, 1) := by decide +kernel
theorem dX4_number_58 : decode cX4_number 58 = .ok (.getfield 44, 3) := by decide +kernel
theorem dX4_number_61 : decode cX4_number 61 = .ok (.bipush 10, 2) := by decide +kernel
theorem dX4_number_63 : decode cX4_number 63 = .ok (.if_icmp .ge 27, 3) := by decide +kernel
theorem dX4_number_66 : decode cX4_number 66 = .ok (.aload_n 0, 1) := by decide +kernel
theorem dX4_number_67 : decode cX4_number 67 = .ok (.getfield 11, 3) := by decide +kernel
theorem dX4_number_70 : decode cX4_number 70 = .ok (.iload_n 2, 1) := by decide +kernel
theorem dX4_number_71 : decode cX4_number 71 = .ok (.iconst 5, 1) := by decide +kernel
theorem dX4_number_72 : decode cX4_number 72 = .ok (.imul, 1) := by decide +kernel
theorem dX4_number_73 : decode cX4_number 73 = .ok (.iload_n 3, 1) := by decide +kernel
theorem dX4_number_74 : decode cX4_number 74 = .ok (.iadd, 1) := by decide +kernel
theorem dX4_number_75 : decode cX4_number 75 = .ok (.aload_n 0, 1) := by decide +kernel
theorem dX4_number_76 : decode cX4_number 76 = .ok (.getfield 44, 3) := by decide +kernel
theorem dX4_number_79 : decode cX4_number 79 = .ok (.iastore, 1) := by decide +kernel
theorem dX4_number_80 : decode cX4_number 80 = .ok (.aload_n 0, 1) := by decide +kernel
theorem dX4_number_81 : decode cX4_number 81 = .ok (.dup, 1) := by decide +kernel
theorem dX4_number_82 : decode cX4_number 82 = .ok (.getfield 44, 3) := by decide +kernel
theorem dX4_number_85 : decode cX4_number 85 = .ok (.iconst 1, 1) := by decide +kernel
theorem dX4_number_86 : decode cX4_number 86 = .ok (.iadd, 1) := by decide +kernel
theorem dX4_number_87 : decode cX4_number 87 = .ok (.putfield 44, 3) := by decide +kernel
theorem dX4_number_90 : decode cX4_number 90 = .ok (.iinc 3 1, 3) := by decide +kernel
theorem dX4_number_93 : decode cX4_number 93 = .ok (.goto (-71), 3) := by decide +kernel
theorem dX4_number_96 : decode cX4_number 96 = .ok (.iinc 2 1, 3) := by decide +kernel
theorem dX4_number_99 : decode cX4_number 99 = .ok (.goto (-87), 3) := by decide +kernel
theorem dX4_number_102 : decode cX4_number 102 = .ok (.return_, 1) := by decide +kernel
set_option maxRecDepth 20000 in
theorem ggX4_join_J7_fill_53178 : GoodIn wsX4_join wsJ7_fill_53178 := goodIn_r _ [6] (by decide +kernel) (by decide +kernel)
set_option maxRecDepth 20000 in
theorem gX4_join_J7_fill_53178 : GoodIn wsX4_join (va_wsS RX4 30 yJ7_fill_53178 wsJ7_fill_53178) := goodIn_app (goodIn_of _ (by decide +kernel)) ggX4_join_J7_fill_53178
set_option maxRecDepth 20000 in
theorem ggX4_join_X0_sign : GoodIn wsX4_join wsX0_sign := goodIn_r _ [11, 12, 13, 14, 25, 26, 27, 28, 29, 30] (by decide +kernel) (by decide +kernel)
set_option maxRecDepth 20000 in
theorem gX4_join_X0_sign : GoodIn wsX4_join (wsV RX4 56 RX0 yX0_sign wsX0_sign) := goodIn_app (goodIn_of _ (by decide +kernel)) ggX4_join_X0_sign
set_option maxRecDepth 20000 in
theorem ggX4_join_X4_joinTwo : GoodIn wsX4_join wsX4_joinTwo := goodIn_r _ [19, 1, 20, 21, 22, 23, 24] (by decide +kernel) (by decide +kernel)
set_option maxRecDepth 20000 in
theorem gX4_join_X4_joinTwo : GoodIn wsX4_join (wsV RX4 60 RX4 yX4_joinTwo wsX4_joinTwo) := goodIn_app (goodIn_of _ (by decide +kernel)) ggX4_join_X4_joinTwo
theorem dX4_join_0 : decode cX4_join 0 = .ok (.aload_n 0, 1) := by decide +kernel
theorem dX4_join_1 : decode cX4_join 1 = .ok (.getfield 17, 3) := by decide +kernel
theorem dX4_join_4 : decode cX4_join 4 = .ok (.iconst 0, 1) := by decide +kernel
theorem dX4_join_5 : decode cX4_join 5 = .ok (.invokestatic 30, 3) := by decide +kernel
theorem dX4_join_8 : decode cX4_join 8 = .ok (.iconst 0, 1) := by decide +kernel
theorem dX4_join_9 : decode cX4_join 9 = .ok (.istore_n 2, 1) := by decide +kernel
theorem dX4_join_10 : decode cX4_join 10 = .ok (.iload_n 2, 1) := by decide +kernel
theorem dX4_join_11 : decode cX4_join 11 = .ok (.aload_n 1, 1) := by decide +kernel
theorem dX4_join_12 : decode cX4_join 12 = .ok (.getfield 50, 3) := by decide +kernel
theorem dX4_join_15 : decode cX4_join 15 = .ok (.if_icmp .ge 103, 3) := by decide +kernel
theorem dX4_join_18 : decode cX4_join 18 = .ok (.iconst 0, 1) := by decide +kernel
theorem dX4_join_19 : decode cX4_join 19 = .ok (.istore_n 3, 1) := by decide +kernel
theorem dX4_join_20 : decode cX4_join 20 = .ok (.iload_n 3, 1) := by decide +kernel
theorem dX4_join_21 : decode cX4_join 21 = .ok (.aload_n 1, 1) := by decide +kernel
theorem dX4_join_22 : decode cX4_join 22 = .ok (.getfield 53, 3) := by decide +kernel
theorem dX4_join_25 : decode cX4_join 25 = .ok (.if_icmp .ge 87, 3) := by decide +kernel
theorem dX4_join_28 : decode cX4_join 28 = .ok (.aload_n 1, 1) := by decide +kernel
theorem dX4_join_29 : decode cX4_join 29 = .ok (.iload_n 2, 1) := by decide +kernel
theorem dX4_join_30 : decode cX4_join 30 = .ok (.iload_n 3, 1) := by decide +kernel
theorem dX4_join_31 : decode cX4_join 31 = .ok (.invokevirtual 56, 3) := by decide +kernel
theorem dX4_join_34 : decode cX4_join 34 = .ok (.ifCond .eq 72, 3) := by decide +kernel
theorem dX4_join_37 : decode cX4_join 37 = .ok (.iload_n 2, 1) := by decide +kernel
theorem dX4_join_38 : decode cX4_join 38 = .ok (.iconst 5, 1) := by decide +kernel
theorem dX4_join_39 : decode cX4_join 39 = .ok (.imul, 1) := by decide +kernel
theorem dX4_join_40 : decode cX4_join 40 = .ok (.iload_n 3, 1) := by decide +kernel
theorem dX4_join_41 : decode cX4_join 41 = .ok (.iadd, 1) := by decide +kernel
theorem dX4_join_42 : decode cX4_join 42 = .ok (.istore 4, 2) := by decide +kernel
theorem dX4_join_44 : decode cX4_join 44 = .ok (.aload_n 1, 1) := by decide +kernel
theorem dX4_join_45 : decode cX4_join 45 = .ok (.iload_n 2, 1) := by decide +kernel
theorem dX4_join_46 : decode cX4_join 46 = .ok (.iload_n 3, 1) := by decide +kernel
theorem dX4_join_47 : decode cX4_join 47 = .ok (.iconst 1, 1) := by decide +kernel
theorem dX4_join_48 : decode cX4_join 48 = .ok (.iadd, 1) := by decide +kernel
theorem dX4_join_49 : decode cX4_join 49 = .ok (.invokevirtual 56, 3) := by decide +kernel
theorem dX4_join_52 : decode cX4_join 52 = .ok (.ifCond .eq 23, 3) := by decide +kernel
theorem dX4_join_55 : decode cX4_join 55 = .ok (.aload_n 0, 1) := by decide +kernel
theorem dX4_join_56 : decode cX4_join 56 = .ok (.aload_n 0, 1) := by decide +kernel
theorem dX4_join_57 : decode cX4_join 57 = .ok (.getfield 11, 3) := by decide +kernel
theorem dX4_join_60 : decode cX4_join 60 = .ok (.iload 4, 2) := by decide +kernel
theorem dX4_join_62 : decode cX4_join 62 = .ok (.iaload, 1) := by decide +kernel
theorem dX4_join_63 : decode cX4_join 63 = .ok (.aload_n 0, 1) := by decide +kernel
theorem dX4_join_64 : decode cX4_join 64 = .ok (.getfield 11, 3) := by decide +kernel
theorem dX4_join_67 : decode cX4_join 67 = .ok (.iload 4, 2) := by decide +kernel
theorem dX4_join_69 : decode cX4_join 69 = .ok (.iconst 1, 1) := by decide +kernel
theorem dX4_join_70 : decode cX4_join 70 = .ok (.iadd, 1) := by decide +kernel
theorem dX4_join_71 : decode cX4_join 71 = .ok (.iaload, 1) := by decide +kernel
theorem dX4_join_72 : decode cX4_join 72 = .ok (.invokevirtual 60, 3) := by decide +kernel
theorem dX4_join_75 : decode cX4_join 75 = .ok (.aload_n 1, 1) := by decide +kernel
theorem dX4_join_76 : decode cX4_join 76 = .ok (.iload_n 2, 1) := by decide +kernel
theorem dX4_join_77 : decode cX4_join 77 = .ok (.iconst 1, 1) := by decide +kernel
theorem dX4_join_78 : decode cX4_join 78 = .ok (.iadd, 1) := by decide +kernel
theorem dX4_join_79 : decode cX4_join 79 = .ok (.iload_n 3, 1) := by decide +kernel
theorem dX4_join_80 : decode cX4_join 80 = .ok (.invokevirtual 56, 3) := by decide +kernel
theorem dX4_join_83 : decode cX4_join 83 = .ok (.ifCond .eq 23, 3) := by decide +kernel
theorem dX4_join_86 : decode cX4_join 86 = .ok (.aload_n 0, 1) := by decide +kernel
theorem dX4_join_87 : decode cX4_join 87 = .ok (.aload_n 0, 1) := by decide +kernel
theorem dX4_join_88 : decode cX4_join 88 = .ok (.getfield 11, 3) := by decide +kernel
theorem dX4_join_91 : decode cX4_join 91 = .ok (.iload 4, 2) := by decide +kernel
theorem dX4_join_93 : decode cX4_join 93 = .ok (.iaload, 1) := by decide +kernel
theorem dX4_join_94 : decode cX4_join 94 = .ok (.aload_n 0, 1) := by decide +kernel
theorem dX4_join_95 : decode cX4_join 95 = .ok (.getfield 11, 3) := by decide +kernel
theorem dX4_join_98 : decode cX4_join 98 = .ok (.iload 4, 2) := by decide +kernel
theorem dX4_join_100 : decode cX4_join 100 = .ok (.iconst 5, 1) := by decide +kernel
theorem dX4_join_101 : decode cX4_join 101 = .ok (.iadd, 1) := by decide +kernel
theorem dX4_join_102 : decode cX4_join 102 = .ok (.iaload, 1) := by decide +kernel
theorem dX4_join_103 : decode cX4_join 103 = .ok (.invokevirtual 60, 3) := by decide +kernel
theorem dX4_join_106 : decode cX4_join 106 = .ok (.iinc 3 1, 3) := by decide +kernel
theorem dX4_join_109 : decode cX4_join 109 = .ok (.goto (-89), 3) := by decide +kernel
theorem dX4_join_112 : decode cX4_join 112 = .ok (.iinc 2 1, 3) := by decide +kernel
theorem dX4_join_115 : decode cX4_join 115 = .ok (.goto (-105), 3) := by decide +kernel
theorem dX4_join_118 : decode cX4_join 118 = .ok (.return_, 1) := by decide +kernel
theorem dX4_joinTwo_0 : decode cX4_joinTwo 0 = .ok (.aload_n 0, 1) := by decide +kernel
theorem dX4_joinTwo_1 : decode cX4_joinTwo 1 = .ok (.getfield 17, 3) := by decide +kernel
theorem dX4_joinTwo_4 : decode cX4_joinTwo 4 = .ok (.iload_n 1, 1) := by decide +kernel
theorem dX4_joinTwo_5 : decode cX4_joinTwo 5 = .ok (.dup2, 1) := by decide +kernel
theorem dX4_joinTwo_6 : decode cX4_joinTwo 6 = .ok (.iaload, 1) := by decide +kernel
theorem dX4_joinTwo_7 : decode cX4_joinTwo 7 = .ok (.iconst 1, 1) := by decide +kernel
theorem dX4_joinTwo_8 : decode cX4_joinTwo 8 = .ok (.iload_n 2, 1) := by decide +kernel
theorem dX4_joinTwo_9 : decode cX4_joinTwo 9 = .ok (.ishl, 1) := by decide +kernel
theorem dX4_joinTwo_10 : decode cX4_joinTwo 10 = .ok (.ior, 1) := by decide +kernel
theorem dX4_joinTwo_11 : decode cX4_joinTwo 11 = .ok (.iastore, 1) := by decide +kernel
theorem dX4_joinTwo_12 : decode cX4_joinTwo 12 = .ok (.aload_n 0, 1) := by decide +kernel
theorem dX4_joinTwo_13 : decode cX4_joinTwo 13 = .ok (.getfield 17, 3) := by decide +kernel
theorem dX4_joinTwo_16 : decode cX4_joinTwo 16 = .ok (.iload_n 2, 1) := by decide +kernel
theorem dX4_joinTwo_17 : decode cX4_joinTwo 17 = .ok (.dup2, 1) := by decide +kernel
theorem dX4_joinTwo_18 : decode cX4_joinTwo 18 = .ok (.iaload, 1) := by decide +kernel
theorem dX4_joinTwo_19 : decode cX4_joinTwo 19 = .ok (.iconst 1, 1) := by decide +kernel
theorem dX4_joinTwo_20 : decode cX4_joinTwo 20 = .ok (.iload_n 1, 1) := by decide +kernel
theorem dX4_joinTwo_21 : decode cX4_joinTwo 21 = .ok (.ishl, 1) := by decide +kernel
theorem dX4_joinTwo_22 : decode cX4_joinTwo 22 = .ok (.ior, 1) := by decide +kernel
theorem dX4_joinTwo_23 : decode cX4_joinTwo 23 = .ok (.iastore, 1) := by decide +kernel
theorem dX4_joinTwo_24 : decode cX4_joinTwo 24 = .ok (.return_, 1) := by decide +kernel
theorem dX4_frontOf_0 : decode cX4_frontOf 0 = .ok (.iload_n 0, 1) := by decide +kernel
theorem dX4_frontOf_1 : decode cX4_frontOf 1 = .ok (.bipush 10, 2) := by decide +kernel
theorem dX4_frontOf_3 : decode cX4_frontOf 3 = .ok (.ishl, 1) := by decide +kernel
theorem dX4_frontOf_4 : decode cX4_frontOf 4 = .ok (.ireturn, 1) := by decide +kernel
set_option maxRecDepth 20000 in
theorem ggX4_moveOn_X4_moveFrom : GoodIn wsX4_moveOn wsX4_moveFrom := goodIn_r _ [7, 1, 8, 2, 12, 13, 14, 15, 16] (by decide +kernel) (by decide +kernel)
set_option maxRecDepth 20000 in
theorem gX4_moveOn_X4_moveFrom : GoodIn wsX4_moveOn (wsV RX4 64 RX4 yX4_moveFrom wsX4_moveFrom) := goodIn_app (goodIn_of _ (by decide +kernel)) ggX4_moveOn_X4_moveFrom
set_option maxRecDepth 20000 in
theorem ggX4_moveOn_X4_frontOf : GoodIn wsX4_moveOn wsX4_frontOf := goodIn_r _ [11] (by decide +kernel) (by decide +kernel)
set_option maxRecDepth 20000 in
theorem gX4_moveOn_X4_frontOf : GoodIn wsX4_moveOn (va_wsS RX4 40 yX4_frontOf wsX4_frontOf) := goodIn_app (goodIn_of _ (by decide +kernel)) ggX4_moveOn_X4_frontOf
theorem dX4_moveOn_0 : decode cX4_moveOn 0 = .ok (.iconst 0, 1) := by decide +kernel
theorem dX4_moveOn_1 : decode cX4_moveOn 1 = .ok (.istore_n 1, 1) := by decide +kernel
theorem dX4_moveOn_2 : decode cX4_moveOn 2 = .ok (.iload_n 1, 1) := by decide +kernel
theorem dX4_moveOn_3 : decode cX4_moveOn 3 = .ok (.iconst 1, 1) := by decide +kernel
theorem dX4_moveOn_4 : decode cX4_moveOn 4 = .ok (.aload_n 0, 1) := by decide +kernel
theorem dX4_moveOn_5 : decode cX4_moveOn 5 = .ok (.getfield 44, 3) := by decide +kernel
theorem dX4_moveOn_8 : decode cX4_moveOn 8 = .ok (.ishl, 1) := by decide +kernel
theorem dX4_moveOn_9 : decode cX4_moveOn 9 = .ok (.if_icmp .ge 57, 3) := by decide +kernel
theorem dX4_moveOn_12 : decode cX4_moveOn 12 = .ok (.aload_n 0, 1) := by decide +kernel
theorem dX4_moveOn_13 : decode cX4_moveOn 13 = .ok (.getfield 27, 3) := by decide +kernel
theorem dX4_moveOn_16 : decode cX4_moveOn 16 = .ok (.iload_n 1, 1) := by decide +kernel
theorem dX4_moveOn_17 : decode cX4_moveOn 17 = .ok (.iaload, 1) := by decide +kernel
theorem dX4_moveOn_18 : decode cX4_moveOn 18 = .ok (.bipush 10, 2) := by decide +kernel
theorem dX4_moveOn_20 : decode cX4_moveOn 20 = .ok (.ishr, 1) := by decide +kernel
theorem dX4_moveOn_21 : decode cX4_moveOn 21 = .ok (.sipush 1023, 3) := by decide +kernel
theorem dX4_moveOn_24 : decode cX4_moveOn 24 = .ok (.iand, 1) := by decide +kernel
theorem dX4_moveOn_25 : decode cX4_moveOn 25 = .ok (.istore_n 2, 1) := by decide +kernel
theorem dX4_moveOn_26 : decode cX4_moveOn 26 = .ok (.iconst 0, 1) := by decide +kernel
theorem dX4_moveOn_27 : decode cX4_moveOn 27 = .ok (.istore_n 3, 1) := by decide +kernel
theorem dX4_moveOn_28 : decode cX4_moveOn 28 = .ok (.iload_n 2, 1) := by decide +kernel
theorem dX4_moveOn_29 : decode cX4_moveOn 29 = .ok (.ifCond .eq 31, 3) := by decide +kernel
theorem dX4_moveOn_32 : decode cX4_moveOn 32 = .ok (.iload_n 3, 1) := by decide +kernel
theorem dX4_moveOn_33 : decode cX4_moveOn 33 = .ok (.aload_n 0, 1) := by decide +kernel
theorem dX4_moveOn_34 : decode cX4_moveOn 34 = .ok (.getfield 44, 3) := by decide +kernel
theorem dX4_moveOn_37 : decode cX4_moveOn 37 = .ok (.if_icmp .ge 23, 3) := by decide +kernel
theorem dX4_moveOn_40 : decode cX4_moveOn 40 = .ok (.iload_n 2, 1) := by decide +kernel
theorem dX4_moveOn_41 : decode cX4_moveOn 41 = .ok (.iload_n 3, 1) := by decide +kernel
theorem dX4_moveOn_42 : decode cX4_moveOn 42 = .ok (.ishr, 1) := by decide +kernel
theorem dX4_moveOn_43 : decode cX4_moveOn 43 = .ok (.iconst 1, 1) := by decide +kernel
theorem dX4_moveOn_44 : decode cX4_moveOn 44 = .ok (.iand, 1) := by decide +kernel
theorem dX4_moveOn_45 : decode cX4_moveOn 45 = .ok (.ifCond .eq 9, 3) := by decide +kernel
theorem dX4_moveOn_48 : decode cX4_moveOn 48 = .ok (.aload_n 0, 1) := by decide +kernel
theorem dX4_moveOn_49 : decode cX4_moveOn 49 = .ok (.iload_n 1, 1) := by decide +kernel
theorem dX4_moveOn_50 : decode cX4_moveOn 50 = .ok (.iload_n 3, 1) := by decide +kernel
theorem dX4_moveOn_51 : decode cX4_moveOn 51 = .ok (.invokevirtual 64, 3) := by decide +kernel
theorem dX4_moveOn_54 : decode cX4_moveOn 54 = .ok (.iinc 3 1, 3) := by decide +kernel
theorem dX4_moveOn_57 : decode cX4_moveOn 57 = .ok (.goto (-29), 3) := by decide +kernel
theorem dX4_moveOn_60 : decode cX4_moveOn 60 = .ok (.iinc 1 1, 3) := by decide +kernel
theorem dX4_moveOn_63 : decode cX4_moveOn 63 = .ok (.goto (-61), 3) := by decide +kernel
theorem dX4_moveOn_66 : decode cX4_moveOn 66 = .ok (.iconst 0, 1) := by decide +kernel
theorem dX4_moveOn_67 : decode cX4_moveOn 67 = .ok (.istore_n 1, 1) := by decide +kernel
theorem dX4_moveOn_68 : decode cX4_moveOn 68 = .ok (.iload_n 1, 1) := by decide +kernel
theorem dX4_moveOn_69 : decode cX4_moveOn 69 = .ok (.iconst 1, 1) := by decide +kernel
theorem dX4_moveOn_70 : decode cX4_moveOn 70 = .ok (.aload_n 0, 1) := by decide +kernel
theorem dX4_moveOn_71 : decode cX4_moveOn 71 = .ok (.getfield 44, 3) := by decide +kernel
theorem dX4_moveOn_74 : decode cX4_moveOn 74 = .ok (.ishl, 1) := by decide +kernel
theorem dX4_moveOn_75 : decode cX4_moveOn 75 = .ok (.if_icmp .ge 60, 3) := by decide +kernel
theorem dX4_moveOn_78 : decode cX4_moveOn 78 = .ok (.aload_n 0, 1) := by decide +kernel
theorem dX4_moveOn_79 : decode cX4_moveOn 79 = .ok (.getfield 27, 3) := by decide +kernel
theorem dX4_moveOn_82 : decode cX4_moveOn 82 = .ok (.iload_n 1, 1) := by decide +kernel
theorem dX4_moveOn_83 : decode cX4_moveOn 83 = .ok (.iaload, 1) := by decide +kernel
theorem dX4_moveOn_84 : decode cX4_moveOn 84 = .ok (.sipush 1023, 3) := by decide +kernel
theorem dX4_moveOn_87 : decode cX4_moveOn 87 = .ok (.iand, 1) := by decide +kernel
theorem dX4_moveOn_88 : decode cX4_moveOn 88 = .ok (.aload_n 0, 1) := by decide +kernel
theorem dX4_moveOn_89 : decode cX4_moveOn 89 = .ok (.getfield 27, 3) := by decide +kernel
theorem dX4_moveOn_92 : decode cX4_moveOn 92 = .ok (.iload_n 1, 1) := by decide +kernel
theorem dX4_moveOn_93 : decode cX4_moveOn 93 = .ok (.iaload, 1) := by decide +kernel
theorem dX4_moveOn_94 : decode cX4_moveOn 94 = .ok (.bipush 10, 2) := by decide +kernel
theorem dX4_moveOn_96 : decode cX4_moveOn 96 = .ok (.ishr, 1) := by decide +kernel
theorem dX4_moveOn_97 : decode cX4_moveOn 97 = .ok (.sipush 1023, 3) := by decide +kernel
theorem dX4_moveOn_100 : decode cX4_moveOn 100 = .ok (.iand, 1) := by decide +kernel
theorem dX4_moveOn_101 : decode cX4_moveOn 101 = .ok (.ior, 1) := by decide +kernel
theorem dX4_moveOn_102 : decode cX4_moveOn 102 = .ok (.istore_n 2, 1) := by decide +kernel
theorem dX4_moveOn_103 : decode cX4_moveOn 103 = .ok (.aload_n 0, 1) := by decide +kernel
theorem dX4_moveOn_104 : decode cX4_moveOn 104 = .ok (.getfield 27, 3) := by decide +kernel
theorem dX4_moveOn_107 : decode cX4_moveOn 107 = .ok (.iload_n 1, 1) := by decide +kernel
theorem dX4_moveOn_108 : decode cX4_moveOn 108 = .ok (.iaload, 1) := by decide +kernel
theorem dX4_moveOn_109 : decode cX4_moveOn 109 = .ok (.bipush 20, 2) := by decide +kernel
theorem dX4_moveOn_111 : decode cX4_moveOn 111 = .ok (.ishr, 1) := by decide +kernel
theorem dX4_moveOn_112 : decode cX4_moveOn 112 = .ok (.iload_n 2, 1) := by decide +kernel
theorem dX4_moveOn_113 : decode cX4_moveOn 113 = .ok (.iconst (-1), 1) := by decide +kernel
theorem dX4_moveOn_114 : decode cX4_moveOn 114 = .ok (.ixor, 1) := by decide +kernel
theorem dX4_moveOn_115 : decode cX4_moveOn 115 = .ok (.iand, 1) := by decide +kernel
theorem dX4_moveOn_116 : decode cX4_moveOn 116 = .ok (.istore_n 3, 1) := by decide +kernel
theorem dX4_moveOn_117 : decode cX4_moveOn 117 = .ok (.aload_n 0, 1) := by decide +kernel
theorem dX4_moveOn_118 : decode cX4_moveOn 118 = .ok (.getfield 27, 3) := by decide +kernel
theorem dX4_moveOn_121 : decode cX4_moveOn 121 = .ok (.iload_n 1, 1) := by decide +kernel
theorem dX4_moveOn_122 : decode cX4_moveOn 122 = .ok (.iload_n 2, 1) := by decide +kernel
theorem dX4_moveOn_123 : decode cX4_moveOn 123 = .ok (.iload_n 3, 1) := by decide +kernel
theorem dX4_moveOn_124 : decode cX4_moveOn 124 = .ok (.invokestatic 40, 3) := by decide +kernel
theorem dX4_moveOn_127 : decode cX4_moveOn 127 = .ok (.ior, 1) := by decide +kernel
theorem dX4_moveOn_128 : decode cX4_moveOn 128 = .ok (.iastore, 1) := by decide +kernel
theorem dX4_moveOn_129 : decode cX4_moveOn 129 = .ok (.iinc 1 1, 3) := by decide +kernel
theorem dX4_moveOn_132 : decode cX4_moveOn 132 = .ok (.goto (-64), 3) := by decide +kernel
theorem dX4_moveOn_135 : decode cX4_moveOn 135 = .ok (.return_, 1) := by decide +kernel
theorem dX4_moveFrom_0 : decode cX4_moveFrom 0 = .ok (.iconst 0, 1) := by decide +kernel
theorem dX4_moveFrom_1 : decode cX4_moveFrom 1 = .ok (.istore_n 3, 1) := by decide +kernel
theorem dX4_moveFrom_2 : decode cX4_moveFrom 2 = .ok (.iload_n 3, 1) := by decide +kernel
theorem dX4_moveFrom_3 : decode cX4_moveFrom 3 = .ok (.aload_n 0, 1) := by decide +kernel
theorem dX4_moveFrom_4 : decode cX4_moveFrom 4 = .ok (.getfield 44, 3) := by decide +kernel
theorem dX4_moveFrom_7 : decode cX4_moveFrom 7 = .ok (.if_icmp .ge 41, 3) := by decide +kernel
theorem dX4_moveFrom_10 : decode cX4_moveFrom 10 = .ok (.aload_n 0, 1) := by decide +kernel
theorem dX4_moveFrom_11 : decode cX4_moveFrom 11 = .ok (.getfield 17, 3) := by decide +kernel
theorem dX4_moveFrom_14 : decode cX4_moveFrom 14 = .ok (.iload_n 2, 1) := by decide +kernel
theorem dX4_moveFrom_15 : decode cX4_moveFrom 15 = .ok (.iaload, 1) := by decide +kernel
theorem dX4_moveFrom_16 : decode cX4_moveFrom 16 = .ok (.iload_n 3, 1) := by decide +kernel
theorem dX4_moveFrom_17 : decode cX4_moveFrom 17 = .ok (.ishr, 1) := by decide +kernel
theorem dX4_moveFrom_18 : decode cX4_moveFrom 18 = .ok (.iconst 1, 1) := by decide +kernel
theorem dX4_moveFrom_19 : decode cX4_moveFrom 19 = .ok (.iand, 1) := by decide +kernel
theorem dX4_moveFrom_20 : decode cX4_moveFrom 20 = .ok (.ifCond .eq 22, 3) := by decide +kernel
theorem dX4_moveFrom_23 : decode cX4_moveFrom 23 = .ok (.aload_n 0, 1) := by decide +kernel
theorem dX4_moveFrom_24 : decode cX4_moveFrom 24 = .ok (.getfield 27, 3) := by decide +kernel
theorem dX4_moveFrom_27 : decode cX4_moveFrom 27 = .ok (.iload_n 1, 1) := by decide +kernel
theorem dX4_moveFrom_28 : decode cX4_moveFrom 28 = .ok (.iconst 1, 1) := by decide +kernel
theorem dX4_moveFrom_29 : decode cX4_moveFrom 29 = .ok (.iload_n 3, 1) := by decide +kernel
theorem dX4_moveFrom_30 : decode cX4_moveFrom 30 = .ok (.ishl, 1) := by decide +kernel
theorem dX4_moveFrom_31 : decode cX4_moveFrom 31 = .ok (.ior, 1) := by decide +kernel
theorem dX4_moveFrom_32 : decode cX4_moveFrom 32 = .ok (.dup2, 1) := by decide +kernel
theorem dX4_moveFrom_33 : decode cX4_moveFrom 33 = .ok (.iaload, 1) := by decide +kernel
theorem dX4_moveFrom_34 : decode cX4_moveFrom 34 = .ok (.iconst 1, 1) := by decide +kernel
theorem dX4_moveFrom_35 : decode cX4_moveFrom 35 = .ok (.bipush 20, 2) := by decide +kernel
theorem dX4_moveFrom_37 : decode cX4_moveFrom 37 = .ok (.iload_n 3, 1) := by decide +kernel
theorem dX4_moveFrom_38 : decode cX4_moveFrom 38 = .ok (.iadd, 1) := by decide +kernel
theorem dX4_moveFrom_39 : decode cX4_moveFrom 39 = .ok (.ishl, 1) := by decide +kernel
theorem dX4_moveFrom_40 : decode cX4_moveFrom 40 = .ok (.ior, 1) := by decide +kernel
theorem dX4_moveFrom_41 : decode cX4_moveFrom 41 = .ok (.iastore, 1) := by decide +kernel
theorem dX4_moveFrom_42 : decode cX4_moveFrom 42 = .ok (.iinc 3 1, 3) := by decide +kernel
theorem dX4_moveFrom_45 : decode cX4_moveFrom 45 = .ok (.goto (-43), 3) := by decide +kernel
theorem dX4_moveFrom_48 : decode cX4_moveFrom 48 = .ok (.return_, 1) := by decide +kernel
theorem dX5_init_0 : decode cX5_init 0 = .ok (.aload_n 0, 1) := by decide +kernel
theorem dX5_init_1 : decode cX5_init 1 = .ok (.invokespecial 1, 3) := by decide +kernel
theorem dX5_init_4 : decode cX5_init 4 = .ok (.aload_n 0, 1) := by decide +kernel
theorem dX5_init_5 : decode cX5_init 5 = .ok (.bipush 8, 2) := by decide +kernel
theorem dX5_init_7 : decode cX5_init 7 = .ok (.newarray .int, 2) := by decide +kernel
theorem dX5_init_9 : decode cX5_init 9 = .ok (.putfield 9, 3) := by decide +kernel
theorem dX5_init_12 : decode cX5_init 12 = .ok (.aload_n 0, 1) := by decide +kernel
theorem dX5_init_13 : decode cX5_init 13 = .ok (.bipush 8, 2) := by decide +kernel
theorem dX5_init_15 : decode cX5_init 15 = .ok (.newarray .int, 2) := by decide +kernel
theorem dX5_init_17 : decode cX5_init 17 = .ok (.putfield 13, 3) := by decide +kernel
theorem dX5_init_20 : decode cX5_init 20 = .ok (.return_, 1) := by decide +kernel
theorem dX5_become_0 : decode cX5_become 0 = .ok (.aload_n 0, 1) := by decide +kernel
theorem dX5_become_1 : decode cX5_become 1 = .ok (.aload_n 1, 1) := by decide +kernel
theorem dX5_become_2 : decode cX5_become 2 = .ok (.getfield 16, 3) := by decide +kernel
theorem dX5_become_5 : decode cX5_become 5 = .ok (.putfield 16, 3) := by decide +kernel
theorem dX5_become_8 : decode cX5_become 8 = .ok (.aload_n 1, 1) := by decide +kernel
theorem dX5_become_9 : decode cX5_become 9 = .ok (.getfield 9, 3) := by decide +kernel
theorem dX5_become_12 : decode cX5_become 12 = .ok (.iconst 0, 1) := by decide +kernel
theorem dX5_become_13 : decode cX5_become 13 = .ok (.aload_n 0, 1) := by decide +kernel
theorem dX5_become_14 : decode cX5_become 14 = .ok (.getfield 9, 3) := by decide +kernel
theorem dX5_become_17 : decode cX5_become 17 = .ok (.iconst 0, 1) := by decide +kernel
theorem dX5_become_18 : decode cX5_become 18 = .ok (.bipush 8, 2) := by decide +kernel
theorem dX5_become_20 : decode cX5_become 20 = .ok (.invokestatic 20, 3) := by decide +kernel
theorem dX5_become_23 : decode cX5_become 23 = .ok (.aload_n 1, 1) := by decide +kernel
theorem dX5_become_24 : decode cX5_become 24 = .ok (.getfield 13, 3) := by decide +kernel
theorem dX5_become_27 : decode cX5_become 27 = .ok (.iconst 0, 1) := by decide +kernel
theorem dX5_become_28 : decode cX5_become 28 = .ok (.aload_n 0, 1) := by decide +kernel
theorem dX5_become_29 : decode cX5_become 29 = .ok (.getfield 13, 3) := by decide +kernel
theorem dX5_become_32 : decode cX5_become 32 = .ok (.iconst 0, 1) := by decide +kernel
theorem dX5_become_33 : decode cX5_become 33 = .ok (.bipush 8, 2) := by decide +kernel
theorem dX5_become_35 : decode cX5_become 35 = .ok (.invokestatic 20, 3) := by decide +kernel
theorem dX5_become_38 : decode cX5_become 38 = .ok (.return_, 1) := by decide +kernel
theorem dX5_isFull_0 : decode cX5_isFull 0 = .ok (.aload_n 0, 1) := by decide +kernel
theorem dX5_isFull_1 : decode cX5_isFull 1 = .ok (.getfield 16, 3) := by decide +kernel
theorem dX5_isFull_4 : decode cX5_isFull 4 = .ok (.bipush 8, 2) := by decide +kernel
theorem dX5_isFull_6 : decode cX5_isFull 6 = .ok (.if_icmp .lt 7, 3) := by decide +kernel
theorem dX5_isFull_9 : decode cX5_isFull 9 = .ok (.iconst 1, 1) := by decide +kernel
theorem dX5_isFull_10 : decode cX5_isFull 10 = .ok (.goto 4, 3) := by decide +kernel
theorem dX5_isFull_13 : decode cX5_isFull 13 = .ok (.iconst 0, 1) := by decide +kernel
theorem dX5_isFull_14 : decode cX5_isFull 14 = .ok (.ireturn, 1) := by decide +kernel
theorem dX5_append_0 : decode cX5_append 0 = .ok (.aload_n 0, 1) := by decide +kernel
theorem dX5_append_1 : decode cX5_append 1 = .ok (.getfield 16, 3) := by decide +kernel
theorem dX5_append_4 : decode cX5_append 4 = .ok (.bipush 8, 2) := by decide +kernel
theorem dX5_append_6 : decode cX5_append 6 = .ok (.if_icmp .ge 33, 3) := by decide +kernel
theorem dX5_append_9 : decode cX5_append 9 = .ok (.aload_n 0, 1) := by decide +kernel
theorem dX5_append_10 : decode cX5_append 10 = .ok (.getfield 9, 3) := by decide +kernel
theorem dX5_append_13 : decode cX5_append 13 = .ok (.aload_n 0, 1) := by decide +kernel
theorem dX5_append_14 : decode cX5_append 14 = .ok (.getfield 16, 3) := by decide +kernel
theorem dX5_append_17 : decode cX5_append 17 = .ok (.iload_n 1, 1) := by decide +kernel
theorem dX5_append_18 : decode cX5_append 18 = .ok (.iastore, 1) := by decide +kernel
theorem dX5_append_19 : decode cX5_append 19 = .ok (.aload_n 0, 1) := by decide +kernel
theorem dX5_append_20 : decode cX5_append 20 = .ok (.getfield 13, 3) := by decide +kernel
theorem dX5_append_23 : decode cX5_append 23 = .ok (.aload_n 0, 1) := by decide +kernel
theorem dX5_append_24 : decode cX5_append 24 = .ok (.getfield 16, 3) := by decide +kernel
theorem dX5_append_27 : decode cX5_append 27 = .ok (.iload_n 2, 1) := by decide +kernel
theorem dX5_append_28 : decode cX5_append 28 = .ok (.iastore, 1) := by decide +kernel
theorem dX5_append_29 : decode cX5_append 29 = .ok (.aload_n 0, 1) := by decide +kernel
theorem dX5_append_30 : decode cX5_append 30 = .ok (.dup, 1) := by decide +kernel
theorem dX5_append_31 : decode cX5_append 31 = .ok (.getfield 16, 3) := by decide +kernel
theorem dX5_append_34 : decode cX5_append 34 = .ok (.iconst 1, 1) := by decide +kernel
theorem dX5_append_35 : decode cX5_append 35 = .ok (.iadd, 1) := by decide +kernel
theorem dX5_append_36 : decode cX5_append 36 = .ok (.putfield 16, 3) := by decide +kernel
theorem dX5_append_39 : decode cX5_append 39 = .ok (.return_, 1) := by decide +kernel
theorem dX5_shorten_0 : decode cX5_shorten 0 = .ok (.iload_n 1, 1) := by decide +kernel
theorem dX5_shorten_1 : decode cX5_shorten 1 = .ok (.ifCond .lt 16, 3) := by decide +kernel
theorem dX5_shorten_4 : decode cX5_shorten 4 = .ok (.iload_n 1, 1) := by decide +kernel
theorem dX5_shorten_5 : decode cX5_shorten 5 = .ok (.aload_n 0, 1) := by decide +kernel
theorem dX5_shorten_6 : decode cX5_shorten 6 = .ok (.getfield 16, 3) := by decide +kernel
theorem dX5_shorten_9 : decode cX5_shorten 9 = .ok (.if_icmp .ge 8, 3) := by decide +kernel
theorem dX5_shorten_12 : decode cX5_shorten 12 = .ok (.aload_n 0, 1) := by decide +kernel
theorem dX5_shorten_13 : decode cX5_shorten 13 = .ok (.iload_n 1, 1) := by decide +kernel
theorem dX5_shorten_14 : decode cX5_shorten 14 = .ok (.putfield 16, 3) := by decide +kernel
theorem dX5_shorten_17 : decode cX5_shorten 17 = .ok (.return_, 1) := by decide +kernel
set_option maxRecDepth 20000 in
theorem ggX6_init_X1_init : GoodIn wsX6_init wsX1_init := goodIn_r _ [19, 20, 2, 3, 16, 21, 22, 23, 24, 34, 35, 36, 37, 38, 39, 40] (by decide +kernel) (by decide +kernel)
set_option maxRecDepth 20000 in
theorem gX6_init_X1_init_n9 : GoodIn wsX6_init (wsX1_init) := ggX6_init_X1_init
set_option maxRecDepth 20000 in
theorem ggX6_init_X5_init : GoodIn wsX6_init wsX5_init := goodIn_r _ [26, 27, 2, 3, 16, 28, 29, 46, 47, 48] (by decide +kernel) (by decide +kernel)
set_option maxRecDepth 20000 in
theorem gX6_init_X5_init_n18 : GoodIn wsX6_init (wsX5_init) := ggX6_init_X5_init
set_option maxRecDepth 20000 in
theorem ggX6_init_X0_init : GoodIn wsX6_init wsX0_init := goodIn_r _ [31, 32, 2, 3, 16, 33, 49, 50, 51, 52, 53, 54] (by decide +kernel) (by decide +kernel)
set_option maxRecDepth 20000 in
theorem gX6_init_X0_init_n25 : GoodIn wsX6_init (wsX0_init) := ggX6_init_X0_init
theorem dX6_init_0 : decode cX6_init 0 = .ok (.aload_n 0, 1) := by decide +kernel
theorem dX6_init_1 : decode cX6_init 1 = .ok (.invokespecial 1, 3) := by decide +kernel
theorem dX6_init_4 : decode cX6_init 4 = .ok (.aload_n 0, 1) := by decide +kernel
theorem dX6_init_5 : decode cX6_init 5 = .ok (.new 7, 3) := by decide +kernel
theorem dX6_init_8 : decode cX6_init 8 = .ok (.dup, 1) := by decide +kernel
theorem dX6_init_9 : decode cX6_init 9 = .ok (.invokespecial 9, 3) := by decide +kernel
theorem dX6_init_12 : decode cX6_init 12 = .ok (.putfield 10, 3) := by decide +kernel
theorem dX6_init_15 : decode cX6_init 15 = .ok (.aload_n 0, 1) := by decide +kernel
theorem dX6_init_16 : decode cX6_init 16 = .ok (.new 16, 3) := by decide +kernel
theorem dX6_init_19 : decode cX6_init 19 = .ok (.dup, 1) := by decide +kernel
theorem dX6_init_20 : decode cX6_init 20 = .ok (.invokespecial 18, 3) := by decide +kernel
theorem dX6_init_23 : decode cX6_init 23 = .ok (.putfield 19, 3) := by decide +kernel
theorem dX6_init_26 : decode cX6_init 26 = .ok (.aload_n 0, 1) := by decide +kernel
theorem dX6_init_27 : decode cX6_init 27 = .ok (.new 23, 3) := by decide +kernel
theorem dX6_init_30 : decode cX6_init 30 = .ok (.dup, 1) := by decide +kernel
theorem dX6_init_31 : decode cX6_init 31 = .ok (.invokespecial 25, 3) := by decide +kernel
theorem dX6_init_34 : decode cX6_init 34 = .ok (.putfield 26, 3) := by decide +kernel
theorem dX6_init_37 : decode cX6_init 37 = .ok (.aload_n 0, 1) := by decide +kernel
theorem dX6_init_38 : decode cX6_init 38 = .ok (.iconst 4, 1) := by decide +kernel
theorem dX6_init_39 : decode cX6_init 39 = .ok (.newarray .int, 2) := by decide +kernel
theorem dX6_init_41 : decode cX6_init 41 = .ok (.dup, 1) := by decide +kernel
theorem dX6_init_42 : decode cX6_init 42 = .ok (.iconst 0, 1) := by decide +kernel
theorem dX6_init_43 : decode cX6_init 43 = .ok (.bipush 6, 2) := by decide +kernel
theorem dX6_init_45 : decode cX6_init 45 = .ok (.iastore, 1) := by decide +kernel
theorem dX6_init_46 : decode cX6_init 46 = .ok (.dup, 1) := by decide +kernel
theorem dX6_init_47 : decode cX6_init 47 = .ok (.iconst 1, 1) := by decide +kernel
theorem dX6_init_48 : decode cX6_init 48 = .ok (.iconst 2, 1) := by decide +kernel
theorem dX6_init_49 : decode cX6_init 49 = .ok (.iastore, 1) := by decide +kernel
theorem dX6_init_50 : decode cX6_init 50 = .ok (.dup, 1) := by decide +kernel
theorem dX6_init_51 : decode cX6_init 51 = .ok (.iconst 2, 1) := by decide +kernel
theorem dX6_init_52 : decode cX6_init 52 = .ok (.bipush 48, 2) := by decide +kernel
theorem dX6_init_54 : decode cX6_init 54 = .ok (.iastore, 1) := by decide +kernel
theorem dX6_init_55 : decode cX6_init 55 = .ok (.dup, 1) := by decide +kernel
theorem dX6_init_56 : decode cX6_init 56 = .ok (.iconst 3, 1) := by decide +kernel
theorem dX6_init_57 : decode cX6_init 57 = .ok (.iconst 1, 1) := by decide +kernel
theorem dX6_init_58 : decode cX6_init 58 = .ok (.iastore, 1) := by decide +kernel
theorem dX6_init_59 : decode cX6_init 59 = .ok (.putfield 30, 3) := by decide +kernel
theorem dX6_init_62 : decode cX6_init 62 = .ok (.return_, 1) := by decide +kernel
set_option maxRecDepth 20000 in
theorem ggX6_become_X1_become : GoodIn wsX6_become wsX1_become := goodIn_r _ [14, 15, 16, 17, 18, 19, 6, 7, 8, 20, 21, 22, 49, 50, 51, 52, 53, 54, 55] (by decide +kernel) (by decide +kernel)
set_option maxRecDepth 20000 in
theorem gX6_become_X1_become : GoodIn wsX6_become (wsV RX6 34 RX1 yX1_become wsX1_become) := goodIn_app (goodIn_of _ (by decide +kernel)) ggX6_become_X1_become
set_option maxRecDepth 20000 in
theorem ggX6_become_X5_become : GoodIn wsX6_become wsX5_become := goodIn_r _ [27, 28, 29, 30, 6, 7, 8, 31, 56, 57, 58] (by decide +kernel) (by decide +kernel)
set_option maxRecDepth 20000 in
theorem gX6_become_X5_become : GoodIn wsX6_become (wsV RX6 38 RX5 yX5_become wsX5_become) := goodIn_app (goodIn_of _ (by decide +kernel)) ggX6_become_X5_become
set_option maxRecDepth 20000 in
theorem ggX6_become_X0_become : GoodIn wsX6_become wsX0_become := goodIn_r _ [36, 37, 38, 6, 7, 8, 39, 40, 41, 42, 43, 59, 60, 61, 62, 63, 64] (by decide +kernel) (by decide +kernel)
set_option maxRecDepth 20000 in
theorem gX6_become_X0_become : GoodIn wsX6_become (wsV RX6 41 RX0 yX0_become wsX0_become) := goodIn_app (goodIn_of _ (by decide +kernel)) ggX6_become_X0_become
theorem dX6_become_0 : decode cX6_become 0 = .ok (.aload_n 0, 1) := by decide +kernel
theorem dX6_become_1 : decode cX6_become 1 = .ok (.getfield 10, 3) := by decide +kernel
theorem dX6_become_4 : decode cX6_become 4 = .ok (.aload_n 1, 1) := by decide +kernel
theorem dX6_become_5 : decode cX6_become 5 = .ok (.getfield 10, 3) := by decide +kernel
theorem dX6_become_8 : decode cX6_become 8 = .ok (.invokevirtual 34, 3) := by decide +kernel
theorem dX6_become_11 : decode cX6_become 11 = .ok (.aload_n 0, 1) := by decide +kernel
theorem dX6_become_12 : decode cX6_become 12 = .ok (.getfield 19, 3) := by decide +kernel
theorem dX6_become_15 : decode cX6_become 15 = .ok (.aload_n 1, 1) := by decide +kernel
theorem dX6_become_16 : decode cX6_become 16 = .ok (.getfield 19, 3) := by decide +kernel
theorem dX6_become_19 : decode cX6_become 19 = .ok (.invokevirtual 38, 3) := by decide +kernel
theorem dX6_become_22 : decode cX6_become 22 = .ok (.aload_n 0, 1) := by decide +kernel
theorem dX6_become_23 : decode cX6_become 23 = .ok (.getfield 26, 3) := by decide +kernel
theorem dX6_become_26 : decode cX6_become 26 = .ok (.aload_n 1, 1) := by decide +kernel
theorem dX6_become_27 : decode cX6_become 27 = .ok (.getfield 26, 3) := by decide +kernel
theorem dX6_become_30 : decode cX6_become 30 = .ok (.invokevirtual 41, 3) := by decide +kernel
theorem dX6_become_33 : decode cX6_become 33 = .ok (.aload_n 1, 1) := by decide +kernel
theorem dX6_become_34 : decode cX6_become 34 = .ok (.getfield 30, 3) := by decide +kernel
theorem dX6_become_37 : decode cX6_become 37 = .ok (.iconst 0, 1) := by decide +kernel
theorem dX6_become_38 : decode cX6_become 38 = .ok (.aload_n 0, 1) := by decide +kernel
theorem dX6_become_39 : decode cX6_become 39 = .ok (.getfield 30, 3) := by decide +kernel
theorem dX6_become_42 : decode cX6_become 42 = .ok (.iconst 0, 1) := by decide +kernel
theorem dX6_become_43 : decode cX6_become 43 = .ok (.iconst 4, 1) := by decide +kernel
theorem dX6_become_44 : decode cX6_become 44 = .ok (.invokestatic 44, 3) := by decide +kernel
theorem dX6_become_47 : decode cX6_become 47 = .ok (.aload_n 0, 1) := by decide +kernel
theorem dX6_become_48 : decode cX6_become 48 = .ok (.aload_n 1, 1) := by decide +kernel
theorem dX6_become_49 : decode cX6_become 49 = .ok (.getfield 50, 3) := by decide +kernel
theorem dX6_become_52 : decode cX6_become 52 = .ok (.putfield 50, 3) := by decide +kernel
theorem dX6_become_55 : decode cX6_become 55 = .ok (.return_, 1) := by decide +kernel
theorem dX6_coatHours_0 : decode cX6_coatHours 0 = .ok (.aload_n 0, 1) := by decide +kernel
theorem dX6_coatHours_1 : decode cX6_coatHours 1 = .ok (.getfield 30, 3) := by decide +kernel
theorem dX6_coatHours_4 : decode cX6_coatHours 4 = .ok (.iconst 3, 1) := by decide +kernel
theorem dX6_coatHours_5 : decode cX6_coatHours 5 = .ok (.iaload, 1) := by decide +kernel
theorem dX6_coatHours_6 : decode cX6_coatHours 6 = .ok (.istore_n 2, 1) := by decide +kernel
theorem dX6_coatHours_7 : decode cX6_coatHours 7 = .ok (.iload_n 2, 1) := by decide +kernel
theorem dX6_coatHours_8 : decode cX6_coatHours 8 = .ok (.iconst 1, 1) := by decide +kernel
theorem dX6_coatHours_9 : decode cX6_coatHours 9 = .ok (.if_icmp .ge 15, 3) := by decide +kernel
theorem dX6_coatHours_12 : decode cX6_coatHours 12 = .ok (.aload_n 0, 1) := by decide +kernel
theorem dX6_coatHours_13 : decode cX6_coatHours 13 = .ok (.getfield 10, 3) := by decide +kernel
theorem dX6_coatHours_16 : decode cX6_coatHours 16 = .ok (.getfield 54, 3) := by decide +kernel
theorem dX6_coatHours_19 : decode cX6_coatHours 19 = .ok (.iload_n 1, 1) := by decide +kernel
theorem dX6_coatHours_20 : decode cX6_coatHours 20 = .ok (.iaload, 1) := by decide +kernel
theorem dX6_coatHours_21 : decode cX6_coatHours 21 = .ok (.goto 18, 3) := by decide +kernel
theorem dX6_coatHours_24 : decode cX6_coatHours 24 = .ok (.aload_n 0, 1) := by decide +kernel
theorem dX6_coatHours_25 : decode cX6_coatHours 25 = .ok (.getfield 10, 3) := by decide +kernel
theorem dX6_coatHours_28 : decode cX6_coatHours 28 = .ok (.getfield 54, 3) := by decide +kernel
theorem dX6_coatHours_31 : decode cX6_coatHours 31 = .ok (.iload_n 1, 1) := by decide +kernel
theorem dX6_coatHours_32 : decode cX6_coatHours 32 = .ok (.iaload, 1) := by decide +kernel
theorem dX6_coatHours_33 : decode cX6_coatHours 33 = .ok (.iload_n 2, 1) := by decide +kernel
theorem dX6_coatHours_34 : decode cX6_coatHours 34 = .ok (.iadd, 1) := by decide +kernel
theorem dX6_coatHours_35 : decode cX6_coatHours 35 = .ok (.iconst 1, 1) := by decide +kernel
theorem dX6_coatHours_36 : decode cX6_coatHours 36 = .ok (.isub, 1) := by decide +kernel
theorem dX6_coatHours_37 : decode cX6_coatHours 37 = .ok (.iload_n 2, 1) := by decide +kernel
theorem dX6_coatHours_38 : decode cX6_coatHours 38 = .ok (.idiv, 1) := by decide +kernel
theorem dX6_coatHours_39 : decode cX6_coatHours 39 = .ok (.ireturn, 1) := by decide +kernel
set_option maxRecDepth 20000 in
theorem ggX6_shutHours_X6_coatHours : GoodIn wsX6_shutHours wsX6_coatHours := goodIn_r _ [6, 1, 7, 8, 9, 10, 11, 12, 13, 14, 15, 16, 17, 18, 19] (by decide +kernel) (by decide +kernel)
set_option maxRecDepth 20000 in
theorem gX6_shutHours_X6_coatHours : GoodIn wsX6_shutHours (wsV RX6 57 RX6 yX6_coatHours wsX6_coatHours) := goodIn_app (goodIn_of _ (by decide +kernel)) ggX6_shutHours_X6_coatHours
theorem dX6_shutHours_0 : decode cX6_shutHours 0 = .ok (.iload_n 2, 1) := by decide +kernel
theorem dX6_shutHours_1 : decode cX6_shutHours 1 = .ok (.iload_n 1, 1) := by decide +kernel
theorem dX6_shutHours_2 : decode cX6_shutHours 2 = .ok (.ishr, 1) := by decide +kernel
theorem dX6_shutHours_3 : decode cX6_shutHours 3 = .ok (.iconst 1, 1) := by decide +kernel
theorem dX6_shutHours_4 : decode cX6_shutHours 4 = .ok (.iand, 1) := by decide +kernel
theorem dX6_shutHours_5 : decode cX6_shutHours 5 = .ok (.ifCond .eq 7, 3) := by decide +kernel
theorem dX6_shutHours_8 : decode cX6_shutHours 8 = .ok (.iconst 1, 1) := by decide +kernel
theorem dX6_shutHours_9 : decode cX6_shutHours 9 = .ok (.goto 4, 3) := by decide +kernel
theorem dX6_shutHours_12 : decode cX6_shutHours 12 = .ok (.iconst 0, 1) := by decide +kernel
theorem dX6_shutHours_13 : decode cX6_shutHours 13 = .ok (.istore_n 3, 1) := by decide +kernel
theorem dX6_shutHours_14 : decode cX6_shutHours 14 = .ok (.aload_n 0, 1) := by decide +kernel
theorem dX6_shutHours_15 : decode cX6_shutHours 15 = .ok (.iload_n 1, 1) := by decide +kernel
theorem dX6_shutHours_16 : decode cX6_shutHours 16 = .ok (.invokevirtual 57, 3) := by decide +kernel
theorem dX6_shutHours_19 : decode cX6_shutHours 19 = .ok (.iload_n 3, 1) := by decide +kernel
theorem dX6_shutHours_20 : decode cX6_shutHours 20 = .ok (.ifCond .eq 7, 3) := by decide +kernel
theorem dX6_shutHours_23 : decode cX6_shutHours 23 = .ok (.iconst 0, 1) := by decide +kernel
theorem dX6_shutHours_24 : decode cX6_shutHours 24 = .ok (.goto 9, 3) := by decide +kernel
theorem dX6_shutHours_27 : decode cX6_shutHours 27 = .ok (.aload_n 0, 1) := by decide +kernel
theorem dX6_shutHours_28 : decode cX6_shutHours 28 = .ok (.getfield 30, 3) := by decide +kernel
theorem dX6_shutHours_31 : decode cX6_shutHours 31 = .ok (.iconst 0, 1) := by decide +kernel
theorem dX6_shutHours_32 : decode cX6_shutHours 32 = .ok (.iaload, 1) := by decide +kernel
theorem dX6_shutHours_33 : decode cX6_shutHours 33 = .ok (.iadd, 1) := by decide +kernel
theorem dX6_shutHours_34 : decode cX6_shutHours 34 = .ok (.ireturn, 1) := by decide +kernel
set_option maxRecDepth 20000 in
theorem ggX6_dryHours_X6_coatHours : GoodIn wsX6_dryHours wsX6_coatHours := goodIn_r _ [6, 1, 7, 8, 9, 10, 11, 12, 13, 14, 15, 16, 17, 18, 19] (by decide +kernel) (by decide +kernel)
set_option maxRecDepth 20000 in
theorem gX6_dryHours_X6_coatHours : GoodIn wsX6_dryHours (wsV RX6 57 RX6 yX6_coatHours wsX6_coatHours) := goodIn_app (goodIn_of _ (by decide +kernel)) ggX6_dryHours_X6_coatHours
theorem dX6_dryHours_0 : decode cX6_dryHours 0 = .ok (.aload_n 0, 1) := by decide +kernel
theorem dX6_dryHours_1 : decode cX6_dryHours 1 = .ok (.iload_n 1, 1) := by decide +kernel
theorem dX6_dryHours_2 : decode cX6_dryHours 2 = .ok (.invokevirtual 57, 3) := by decide +kernel
theorem dX6_dryHours_5 : decode cX6_dryHours 5 = .ok (.aload_n 0, 1) := by decide +kernel
theorem dX6_dryHours_6 : decode cX6_dryHours 6 = .ok (.getfield 30, 3) := by decide +kernel
theorem dX6_dryHours_9 : decode cX6_dryHours 9 = .ok (.iconst 0, 1) := by decide +kernel
theorem dX6_dryHours_10 : decode cX6_dryHours 10 = .ok (.iaload, 1) := by decide +kernel
theorem dX6_dryHours_11 : decode cX6_dryHours 11 = .ok (.iadd, 1) := by decide +kernel
theorem dX6_dryHours_12 : decode cX6_dryHours 12 = .ok (.aload_n 0, 1) := by decide +kernel
theorem dX6_dryHours_13 : decode cX6_dryHours 13 = .ok (.getfield 30, 3) := by decide +kernel
theorem dX6_dryHours_16 : decode cX6_dryHours 16 = .ok (.iconst 1, 1) := by decide +kernel
theorem dX6_dryHours_17 : decode cX6_dryHours 17 = .ok (.iaload, 1) := by decide +kernel
theorem dX6_dryHours_18 : decode cX6_dryHours 18 = .ok (.iadd, 1) := by decide +kernel
theorem dX6_dryHours_19 : decode cX6_dryHours 19 = .ok (.ireturn, 1) := by decide +kernel
set_option maxRecDepth 20000 in
theorem ggX6_doneHour_X6_coatHours : GoodIn wsX6_doneHour wsX6_coatHours := goodIn_r _ [6, 7, 8, 9, 10, 11, 12, 13, 17, 18, 19, 20, 21, 22, 23] (by decide +kernel) (by decide +kernel)
set_option maxRecDepth 20000 in
theorem gX6_doneHour_X6_coatHours : GoodIn wsX6_doneHour (wsV RX6 57 RX6 yX6_coatHours wsX6_coatHours) := goodIn_app (goodIn_of _ (by decide +kernel)) ggX6_doneHour_X6_coatHours
theorem dX6_doneHour_0 : decode cX6_doneHour 0 = .ok (.aload_n 0, 1) := by decide +kernel
theorem dX6_doneHour_1 : decode cX6_doneHour 1 = .ok (.getfield 19, 3) := by decide +kernel
theorem dX6_doneHour_4 : decode cX6_doneHour 4 = .ok (.getfield 61, 3) := by decide +kernel
theorem dX6_doneHour_7 : decode cX6_doneHour 7 = .ok (.iload_n 1, 1) := by decide +kernel
theorem dX6_doneHour_8 : decode cX6_doneHour 8 = .ok (.iaload, 1) := by decide +kernel
theorem dX6_doneHour_9 : decode cX6_doneHour 9 = .ok (.aload_n 0, 1) := by decide +kernel
theorem dX6_doneHour_10 : decode cX6_doneHour 10 = .ok (.aload_n 0, 1) := by decide +kernel
theorem dX6_doneHour_11 : decode cX6_doneHour 11 = .ok (.getfield 19, 3) := by decide +kernel
theorem dX6_doneHour_14 : decode cX6_doneHour 14 = .ok (.getfield 64, 3) := by decide +kernel
theorem dX6_doneHour_17 : decode cX6_doneHour 17 = .ok (.iload_n 1, 1) := by decide +kernel
theorem dX6_doneHour_18 : decode cX6_doneHour 18 = .ok (.iaload, 1) := by decide +kernel
theorem dX6_doneHour_19 : decode cX6_doneHour 19 = .ok (.invokevirtual 57, 3) := by decide +kernel
theorem dX6_doneHour_22 : decode cX6_doneHour 22 = .ok (.iadd, 1) := by decide +kernel
theorem dX6_doneHour_23 : decode cX6_doneHour 23 = .ok (.ireturn, 1) := by decide +kernel
set_option maxRecDepth 20000 in
theorem ggX6_shutBy_X6_shutHours : GoodIn wsX6_shutBy wsX6_shutHours := goodIn_r _ [7, 8, 9, 10, 11, 6, 12, 13, 14, 15, 16, 17, 18, 22, 23, 24, 25, 26, 27, 28] (by decide +kernel) (by decide +kernel)
set_option maxRecDepth 20000 in
theorem gX6_shutBy_X6_shutHours : GoodIn wsX6_shutBy (wsV RX6 70 RX6 yX6_shutHours wsX6_shutHours) := goodIn_app (goodIn_of _ (by decide +kernel)) ggX6_shutBy_X6_shutHours
theorem dX6_shutBy_0 : decode cX6_shutBy 0 = .ok (.iconst 0, 1) := by decide +kernel
theorem dX6_shutBy_1 : decode cX6_shutBy 1 = .ok (.istore_n 3, 1) := by decide +kernel
theorem dX6_shutBy_2 : decode cX6_shutBy 2 = .ok (.iconst 0, 1) := by decide +kernel
theorem dX6_shutBy_3 : decode cX6_shutBy 3 = .ok (.istore 4, 2) := by decide +kernel
theorem dX6_shutBy_5 : decode cX6_shutBy 5 = .ok (.iload 4, 2) := by decide +kernel
theorem dX6_shutBy_7 : decode cX6_shutBy 7 = .ok (.iload_n 1, 1) := by decide +kernel
theorem dX6_shutBy_8 : decode cX6_shutBy 8 = .ok (.if_icmp .ge 78, 3) := by decide +kernel
theorem dX6_shutBy_11 : decode cX6_shutBy 11 = .ok (.iload 4, 2) := by decide +kernel
theorem dX6_shutBy_13 : decode cX6_shutBy 13 = .ok (.aload_n 0, 1) := by decide +kernel
theorem dX6_shutBy_14 : decode cX6_shutBy 14 = .ok (.getfield 19, 3) := by decide +kernel
theorem dX6_shutBy_17 : decode cX6_shutBy 17 = .ok (.getfield 67, 3) := by decide +kernel
theorem dX6_shutBy_20 : decode cX6_shutBy 20 = .ok (.if_icmp .ge 66, 3) := by decide +kernel
theorem dX6_shutBy_23 : decode cX6_shutBy 23 = .ok (.iload_n 2, 1) := by decide +kernel
theorem dX6_shutBy_24 : decode cX6_shutBy 24 = .ok (.aload_n 0, 1) := by decide +kernel
theorem dX6_shutBy_25 : decode cX6_shutBy 25 = .ok (.getfield 19, 3) := by decide +kernel
theorem dX6_shutBy_28 : decode cX6_shutBy 28 = .ok (.getfield 61, 3) := by decide +kernel
theorem dX6_shutBy_31 : decode cX6_shutBy 31 = .ok (.iload 4, 2) := by decide +kernel
theorem dX6_shutBy_33 : decode cX6_shutBy 33 = .ok (.iaload, 1) := by decide +kernel
theorem dX6_shutBy_34 : decode cX6_shutBy 34 = .ok (.isub, 1) := by decide +kernel
theorem dX6_shutBy_35 : decode cX6_shutBy 35 = .ok (.istore 5, 2) := by decide +kernel
theorem dX6_shutBy_37 : decode cX6_shutBy 37 = .ok (.iload 5, 2) := by decide +kernel
theorem dX6_shutBy_39 : decode cX6_shutBy 39 = .ok (.ifCond .lt 41, 3) := by decide +kernel
theorem dX6_shutBy_42 : decode cX6_shutBy 42 = .ok (.iload 5, 2) := by decide +kernel
theorem dX6_shutBy_44 : decode cX6_shutBy 44 = .ok (.aload_n 0, 1) := by decide +kernel
theorem dX6_shutBy_45 : decode cX6_shutBy 45 = .ok (.aload_n 0, 1) := by decide +kernel
theorem dX6_shutBy_46 : decode cX6_shutBy 46 = .ok (.getfield 19, 3) := by decide +kernel
theorem dX6_shutBy_49 : decode cX6_shutBy 49 = .ok (.getfield 64, 3) := by decide +kernel
theorem dX6_shutBy_52 : decode cX6_shutBy 52 = .ok (.iload 4, 2) := by decide +kernel
theorem dX6_shutBy_54 : decode cX6_shutBy 54 = .ok (.iaload, 1) := by decide +kernel
theorem dX6_shutBy_55 : decode cX6_shutBy 55 = .ok (.aload_n 0, 1) := by decide +kernel
theorem dX6_shutBy_56 : decode cX6_shutBy 56 = .ok (.getfield 50, 3) := by decide +kernel
theorem dX6_shutBy_59 : decode cX6_shutBy 59 = .ok (.invokevirtual 70, 3) := by decide +kernel
theorem dX6_shutBy_62 : decode cX6_shutBy 62 = .ok (.if_icmp .ge 18, 3) := by decide +kernel
theorem dX6_shutBy_65 : decode cX6_shutBy 65 = .ok (.iload_n 3, 1) := by decide +kernel
theorem dX6_shutBy_66 : decode cX6_shutBy 66 = .ok (.iconst 1, 1) := by decide +kernel
theorem dX6_shutBy_67 : decode cX6_shutBy 67 = .ok (.aload_n 0, 1) := by decide +kernel
theorem dX6_shutBy_68 : decode cX6_shutBy 68 = .ok (.getfield 19, 3) := by decide +kernel
theorem dX6_shutBy_71 : decode cX6_shutBy 71 = .ok (.getfield 64, 3) := by decide +kernel
theorem dX6_shutBy_74 : decode cX6_shutBy 74 = .ok (.iload 4, 2) := by decide +kernel
theorem dX6_shutBy_76 : decode cX6_shutBy 76 = .ok (.iaload, 1) := by decide +kernel
theorem dX6_shutBy_77 : decode cX6_shutBy 77 = .ok (.ishl, 1) := by decide +kernel
theorem dX6_shutBy_78 : decode cX6_shutBy 78 = .ok (.ior, 1) := by decide +kernel
theorem dX6_shutBy_79 : decode cX6_shutBy 79 = .ok (.istore_n 3, 1) := by decide +kernel
theorem dX6_shutBy_80 : decode cX6_shutBy 80 = .ok (.iinc 4 1, 3) := by decide +kernel
theorem dX6_shutBy_83 : decode cX6_shutBy 83 = .ok (.goto (-78), 3) := by decide +kernel
theorem dX6_shutBy_86 : decode cX6_shutBy 86 = .ok (.iload_n 3, 1) := by decide +kernel
theorem dX6_shutBy_87 : decode cX6_shutBy 87 = .ok (.ireturn, 1) := by decide +kernel
set_option maxRecDepth 20000 in
theorem ggX7_init_X5_init : GoodIn wsX7_init wsX5_init := goodIn_r _ [20, 21, 2, 3, 9, 22, 23, 24, 25, 26] (by decide +kernel) (by decide +kernel)
set_option maxRecDepth 20000 in
theorem gX7_init_X5_init_n11 : GoodIn wsX7_init (wsX5_init) := ggX7_init_X5_init
theorem dX7_init_0 : decode cX7_init 0 = .ok (.aload_n 0, 1) := by decide +kernel
theorem dX7_init_1 : decode cX7_init 1 = .ok (.invokespecial 3, 3) := by decide +kernel
theorem dX7_init_4 : decode cX7_init 4 = .ok (.aload_n 0, 1) := by decide +kernel
theorem dX7_init_5 : decode cX7_init 5 = .ok (.new 9, 3) := by decide +kernel
theorem dX7_init_8 : decode cX7_init 8 = .ok (.dup, 1) := by decide +kernel
theorem dX7_init_9 : decode cX7_init 9 = .ok (.invokespecial 11, 3) := by decide +kernel
theorem dX7_init_12 : decode cX7_init 12 = .ok (.putfield 12, 3) := by decide +kernel
theorem dX7_init_15 : decode cX7_init 15 = .ok (.aload_n 0, 1) := by decide +kernel
theorem dX7_init_16 : decode cX7_init 16 = .ok (.new 9, 3) := by decide +kernel
theorem dX7_init_19 : decode cX7_init 19 = .ok (.dup, 1) := by decide +kernel
theorem dX7_init_20 : decode cX7_init 20 = .ok (.invokespecial 11, 3) := by decide +kernel
theorem dX7_init_23 : decode cX7_init 23 = .ok (.putfield 18, 3) := by decide +kernel
theorem dX7_init_26 : decode cX7_init 26 = .ok (.aload_n 0, 1) := by decide +kernel
theorem dX7_init_27 : decode cX7_init 27 = .ok (.bipush 6, 2) := by decide +kernel
theorem dX7_init_29 : decode cX7_init 29 = .ok (.newarray .int, 2) := by decide +kernel
theorem dX7_init_31 : decode cX7_init 31 = .ok (.putfield 21, 3) := by decide +kernel
theorem dX7_init_34 : decode cX7_init 34 = .ok (.aload_n 0, 1) := by decide +kernel
theorem dX7_init_35 : decode cX7_init 35 = .ok (.bipush 6, 2) := by decide +kernel
theorem dX7_init_37 : decode cX7_init 37 = .ok (.newarray .int, 2) := by decide +kernel
theorem dX7_init_39 : decode cX7_init 39 = .ok (.putfield 25, 3) := by decide +kernel
theorem dX7_init_42 : decode cX7_init 42 = .ok (.aload_n 0, 1) := by decide +kernel
theorem dX7_init_43 : decode cX7_init 43 = .ok (.bipush 6, 2) := by decide +kernel
theorem dX7_init_45 : decode cX7_init 45 = .ok (.newarray .int, 2) := by decide +kernel
theorem dX7_init_47 : decode cX7_init 47 = .ok (.putfield 28, 3) := by decide +kernel
theorem dX7_init_50 : decode cX7_init 50 = .ok (.aload_n 0, 1) := by decide +kernel
theorem dX7_init_51 : decode cX7_init 51 = .ok (.bipush 6, 2) := by decide +kernel
theorem dX7_init_53 : decode cX7_init 53 = .ok (.newarray .int, 2) := by decide +kernel
theorem dX7_init_55 : decode cX7_init 55 = .ok (.putfield 31, 3) := by decide +kernel
theorem dX7_init_58 : decode cX7_init 58 = .ok (.aload_n 0, 1) := by decide +kernel
theorem dX7_init_59 : decode cX7_init 59 = .ok (.bipush 6, 2) := by decide +kernel
theorem dX7_init_61 : decode cX7_init 61 = .ok (.newarray .int, 2) := by decide +kernel
theorem dX7_init_63 : decode cX7_init 63 = .ok (.putfield 34, 3) := by decide +kernel
theorem dX7_init_66 : decode cX7_init 66 = .ok (.aload_n 0, 1) := by decide +kernel
theorem dX7_init_67 : decode cX7_init 67 = .ok (.bipush 100, 2) := by decide +kernel
theorem dX7_init_69 : decode cX7_init 69 = .ok (.newarray .int, 2) := by decide +kernel
theorem dX7_init_71 : decode cX7_init 71 = .ok (.putfield 37, 3) := by decide +kernel
theorem dX7_init_74 : decode cX7_init 74 = .ok (.aload_n 0, 1) := by decide +kernel
theorem dX7_init_75 : decode cX7_init 75 = .ok (.bipush 100, 2) := by decide +kernel
theorem dX7_init_77 : decode cX7_init 77 = .ok (.newarray .int, 2) := by decide +kernel
theorem dX7_init_79 : decode cX7_init 79 = .ok (.putfield 40, 3) := by decide +kernel
theorem dX7_init_82 : decode cX7_init 82 = .ok (.aload_n 0, 1) := by decide +kernel
theorem dX7_init_83 : decode cX7_init 83 = .ok (.aload_n 1, 1) := by decide +kernel
theorem dX7_init_84 : decode cX7_init 84 = .ok (.putfield 43, 3) := by decide +kernel
theorem dX7_init_87 : decode cX7_init 87 = .ok (.aload_n 0, 1) := by decide +kernel
theorem dX7_init_88 : decode cX7_init 88 = .ok (.aload_n 2, 1) := by decide +kernel
theorem dX7_init_89 : decode cX7_init 89 = .ok (.putfield 47, 3) := by decide +kernel
theorem dX7_init_92 : decode cX7_init 92 = .ok (.return_, 1) := by decide +kernel
set_option maxRecDepth 20000 in
theorem ggX7_soonestWith_X7_learnNeeds : GoodIn wsX7_soonestWith wsX7_learnNeeds := goodIn_r _ [7, 8, 9, 10, 11, 12, 13, 14, 15, 16, 17, 18, 19, 126, 127, 128, 129, 130, 131, 132, 133, 134, 135, 136, 137, 138, 139, 140, 141, 142, 143, 144, 145, 146, 147, 148, 149, 150, 151] (by decide +kernel) (by decide +kernel)
set_option maxRecDepth 20000 in
theorem gX7_soonestWith_X7_learnNeeds : GoodIn wsX7_soonestWith (wsV RX7 51 RX7 yX7_learnNeeds wsX7_learnNeeds) := goodIn_app (goodIn_of _ (by decide +kernel)) ggX7_soonestWith_X7_learnNeeds
set_option maxRecDepth 20000 in
theorem ggX7_soonestWith_X7_run : GoodIn wsX7_soonestWith wsX7_run := goodIn_r _ [23, 2, 24, 1, 25, 26, 9, 27, 28, 29, 30, 31, 32, 33, 34, 35, 36, 37, 38, 39, 40, 41, 42, 43, 44, 45, 46, 47, 48, 49, 50, 51, 52, 53, 54, 55, 56, 57, 58, 59, 60, 61, 62, 63, 64, 65, 66, 67, 6, 68, 69, 70, 71, 72, 73, 74, 75, 76, 77, 78, 79, 80, 81, 82, 83, 84, 85, 86, 87, 88, 89, 90, 91, 92, 93, 94, 95, 96, 97, 98, 8, 99, 100, 101, 102, 103, 104, 105, 106, 107, 108, 109, 110, 17, 111, 112, 113, 114, 115, 116, 117, 118, 119, 120, 121, 122, 123, 124, 125, 126, 127, 128, 129, 130, 131, 132, 133, 134, 135, 136, 137, 138, 139, 140, 141, 142, 143, 144, 145, 146, 147, 148, 149, 150, 151, 152, 153, 154, 155, 156] (by decide +kernel) (by decide +kernel)
set_option maxRecDepth 20000 in
theorem gX7_soonestWith_X7_run : GoodIn wsX7_soonestWith (wsV RX7 54 RX7 yX7_run wsX7_run) := goodIn_app (goodIn_of _ (by decide +kernel)) ggX7_soonestWith_X7_run
theorem dX7_soonestWith_0 : decode cX7_soonestWith 0 = .ok (.aload_n 0, 1) := by decide +kernel
theorem dX7_soonestWith_1 : decode cX7_soonestWith 1 = .ok (.invokevirtual 51, 3) := by decide +kernel
theorem dX7_soonestWith_4 : decode cX7_soonestWith 4 = .ok (.aload_n 0, 1) := by decide +kernel
theorem dX7_soonestWith_5 : decode cX7_soonestWith 5 = .ok (.iload_n 1, 1) := by decide +kernel
theorem dX7_soonestWith_6 : decode cX7_soonestWith 6 = .ok (.sipush 1000, 3) := by decide +kernel
theorem dX7_soonestWith_9 : decode cX7_soonestWith 9 = .ok (.iconst 0, 1) := by decide +kernel
theorem dX7_soonestWith_10 : decode cX7_soonestWith 10 = .ok (.invokevirtual 54, 3) := by decide +kernel
theorem dX7_soonestWith_13 : decode cX7_soonestWith 13 = .ok (.aload_n 0, 1) := by decide +kernel
theorem dX7_soonestWith_14 : decode cX7_soonestWith 14 = .ok (.getfield 58, 3) := by decide +kernel
theorem dX7_soonestWith_17 : decode cX7_soonestWith 17 = .ok (.ifCond .eq 10, 3) := by decide +kernel
theorem dX7_soonestWith_20 : decode cX7_soonestWith 20 = .ok (.aload_n 0, 1) := by decide +kernel
theorem dX7_soonestWith_21 : decode cX7_soonestWith 21 = .ok (.getfield 62, 3) := by decide +kernel
theorem dX7_soonestWith_24 : decode cX7_soonestWith 24 = .ok (.goto 5, 3) := by decide +kernel
theorem dX7_soonestWith_27 : decode cX7_soonestWith 27 = .ok (.bipush (-9), 2) := by decide +kernel
theorem dX7_soonestWith_29 : decode cX7_soonestWith 29 = .ok (.ireturn, 1) := by decide +kernel
set_option maxRecDepth 20000 in
theorem ggX7_fewestPlanksBy_X7_learnNeeds : GoodIn wsX7_fewestPlanksBy wsX7_learnNeeds := goodIn_r _ [7, 8, 1, 9, 10, 11, 12, 13, 14, 15, 16, 17, 18, 133, 134, 135, 136, 137, 138, 139, 140, 141, 142, 143, 144, 145, 146, 147, 148, 149, 150, 151, 152, 153, 154, 155, 156, 157, 158] (by decide +kernel) (by decide +kernel)
set_option maxRecDepth 20000 in
theorem gX7_fewestPlanksBy_X7_learnNeeds : GoodIn wsX7_fewestPlanksBy (wsV RX7 51 RX7 yX7_learnNeeds wsX7_learnNeeds) := goodIn_app (goodIn_of _ (by decide +kernel)) ggX7_fewestPlanksBy_X7_learnNeeds
set_option maxRecDepth 20000 in
theorem ggX7_fewestPlanksBy_J6_bitCount_0f7a4 : GoodIn wsX7_fewestPlanksBy wsJ6_bitCount_0f7a4 := goodIn_r _ [22, 23, 24, 25] (by decide +kernel) (by decide +kernel)
set_option maxRecDepth 20000 in
theorem gX7_fewestPlanksBy_J6_bitCount_0f7a4 : GoodIn wsX7_fewestPlanksBy (va_wsS RX7 77 yJ6_bitCount_0f7a4 wsJ6_bitCount_0f7a4) := goodIn_app (goodIn_of _ (by decide +kernel)) ggX7_fewestPlanksBy_J6_bitCount_0f7a4
set_option maxRecDepth 20000 in
theorem ggX7_fewestPlanksBy_X7_run : GoodIn wsX7_fewestPlanksBy wsX7_run := goodIn_r _ [29, 30, 31, 2, 32, 33, 1, 34, 35, 36, 37, 38, 39, 40, 41, 42, 43, 44, 45, 46, 47, 48, 49, 50, 51, 52, 53, 54, 55, 56, 57, 58, 59, 60, 61, 62, 63, 64, 65, 66, 67, 68, 69, 70, 71, 72, 73, 74, 6, 75, 76, 77, 78, 79, 80, 81, 82, 83, 84, 85, 86, 87, 88, 89, 90, 91, 92, 93, 94, 95, 96, 97, 98, 99, 100, 101, 102, 103, 104, 105, 8, 106, 107, 108, 109, 110, 111, 112, 113, 114, 115, 116, 117, 16, 118, 119, 120, 121, 122, 123, 124, 125, 126, 127, 128, 129, 130, 131, 132, 133, 134, 135, 136, 137, 138, 139, 140, 141, 142, 143, 144, 145, 146, 147, 148, 149, 150, 151, 152, 153, 154, 155, 156, 157, 158, 159, 160, 161, 162, 163] (by decide +kernel) (by decide +kernel)
set_option maxRecDepth 20000 in
theorem gX7_fewestPlanksBy_X7_run : GoodIn wsX7_fewestPlanksBy (wsV RX7 54 RX7 yX7_run wsX7_run) := goodIn_app (goodIn_of _ (by decide +kernel)) ggX7_fewestPlanksBy_X7_run
theorem dX7_fewestPlanksBy_0 : decode cX7_fewestPlanksBy 0 = .ok (.aload_n 0, 1) := by decide +kernel
theorem dX7_fewestPlanksBy_1 : decode cX7_fewestPlanksBy 1 = .ok (.invokevirtual 51, 3) := by decide +kernel
theorem dX7_fewestPlanksBy_4 : decode cX7_fewestPlanksBy 4 = .ok (.aload_n 0, 1) := by decide +kernel
theorem dX7_fewestPlanksBy_5 : decode cX7_fewestPlanksBy 5 = .ok (.getfield 43, 3) := by decide +kernel
theorem dX7_fewestPlanksBy_8 : decode cX7_fewestPlanksBy 8 = .ok (.getfield 66, 3) := by decide +kernel
theorem dX7_fewestPlanksBy_11 : decode cX7_fewestPlanksBy 11 = .ok (.getfield 72, 3) := by decide +kernel
theorem dX7_fewestPlanksBy_14 : decode cX7_fewestPlanksBy 14 = .ok (.istore_n 2, 1) := by decide +kernel
theorem dX7_fewestPlanksBy_15 : decode cX7_fewestPlanksBy 15 = .ok (.iconst 0, 1) := by decide +kernel
theorem dX7_fewestPlanksBy_16 : decode cX7_fewestPlanksBy 16 = .ok (.istore_n 3, 1) := by decide +kernel
theorem dX7_fewestPlanksBy_17 : decode cX7_fewestPlanksBy 17 = .ok (.iload_n 3, 1) := by decide +kernel
theorem dX7_fewestPlanksBy_18 : decode cX7_fewestPlanksBy 18 = .ok (.iload_n 2, 1) := by decide +kernel
theorem dX7_fewestPlanksBy_19 : decode cX7_fewestPlanksBy 19 = .ok (.if_icmp .gt 59, 3) := by decide +kernel
theorem dX7_fewestPlanksBy_22 : decode cX7_fewestPlanksBy 22 = .ok (.iconst 0, 1) := by decide +kernel
theorem dX7_fewestPlanksBy_23 : decode cX7_fewestPlanksBy 23 = .ok (.istore 4, 2) := by decide +kernel
theorem dX7_fewestPlanksBy_25 : decode cX7_fewestPlanksBy 25 = .ok (.iload 4, 2) := by decide +kernel
theorem dX7_fewestPlanksBy_27 : decode cX7_fewestPlanksBy 27 = .ok (.iconst 1, 1) := by decide +kernel
theorem dX7_fewestPlanksBy_28 : decode cX7_fewestPlanksBy 28 = .ok (.iload_n 2, 1) := by decide +kernel
theorem dX7_fewestPlanksBy_29 : decode cX7_fewestPlanksBy 29 = .ok (.ishl, 1) := by decide +kernel
theorem dX7_fewestPlanksBy_30 : decode cX7_fewestPlanksBy 30 = .ok (.if_icmp .ge 42, 3) := by decide +kernel
theorem dX7_fewestPlanksBy_33 : decode cX7_fewestPlanksBy 33 = .ok (.iload 4, 2) := by decide +kernel
theorem dX7_fewestPlanksBy_35 : decode cX7_fewestPlanksBy 35 = .ok (.invokestatic 77, 3) := by decide +kernel
theorem dX7_fewestPlanksBy_38 : decode cX7_fewestPlanksBy 38 = .ok (.iload_n 3, 1) := by decide +kernel
theorem dX7_fewestPlanksBy_39 : decode cX7_fewestPlanksBy 39 = .ok (.if_icmp .ne 27, 3) := by decide +kernel
theorem dX7_fewestPlanksBy_42 : decode cX7_fewestPlanksBy 42 = .ok (.aload_n 0, 1) := by decide +kernel
theorem dX7_fewestPlanksBy_43 : decode cX7_fewestPlanksBy 43 = .ok (.iload 4, 2) := by decide +kernel
theorem dX7_fewestPlanksBy_45 : decode cX7_fewestPlanksBy 45 = .ok (.iconst 1, 1) := by decide +kernel
theorem dX7_fewestPlanksBy_46 : decode cX7_fewestPlanksBy 46 = .ok (.ishl, 1) := by decide +kernel
theorem dX7_fewestPlanksBy_47 : decode cX7_fewestPlanksBy 47 = .ok (.iload_n 1, 1) := by decide +kernel
theorem dX7_fewestPlanksBy_48 : decode cX7_fewestPlanksBy 48 = .ok (.iconst 1, 1) := by decide +kernel
theorem dX7_fewestPlanksBy_49 : decode cX7_fewestPlanksBy 49 = .ok (.iadd, 1) := by decide +kernel
theorem dX7_fewestPlanksBy_50 : decode cX7_fewestPlanksBy 50 = .ok (.iconst 1, 1) := by decide +kernel
theorem dX7_fewestPlanksBy_51 : decode cX7_fewestPlanksBy 51 = .ok (.invokevirtual 54, 3) := by decide +kernel
theorem dX7_fewestPlanksBy_54 : decode cX7_fewestPlanksBy 54 = .ok (.aload_n 0, 1) := by decide +kernel
theorem dX7_fewestPlanksBy_55 : decode cX7_fewestPlanksBy 55 = .ok (.getfield 58, 3) := by decide +kernel
theorem dX7_fewestPlanksBy_58 : decode cX7_fewestPlanksBy 58 = .ok (.ifCond .eq 8, 3) := by decide +kernel
theorem dX7_fewestPlanksBy_61 : decode cX7_fewestPlanksBy 61 = .ok (.iload 4, 2) := by decide +kernel
theorem dX7_fewestPlanksBy_63 : decode cX7_fewestPlanksBy 63 = .ok (.iconst 1, 1) := by decide +kernel
theorem dX7_fewestPlanksBy_64 : decode cX7_fewestPlanksBy 64 = .ok (.ishl, 1) := by decide +kernel
theorem dX7_fewestPlanksBy_65 : decode cX7_fewestPlanksBy 65 = .ok (.ireturn, 1) := by decide +kernel
theorem dX7_fewestPlanksBy_66 : decode cX7_fewestPlanksBy 66 = .ok (.iinc 4 1, 3) := by decide +kernel
theorem dX7_fewestPlanksBy_69 : decode cX7_fewestPlanksBy 69 = .ok (.goto (-44), 3) := by decide +kernel
theorem dX7_fewestPlanksBy_72 : decode cX7_fewestPlanksBy 72 = .ok (.iinc 3 1, 3) := by decide +kernel
theorem dX7_fewestPlanksBy_75 : decode cX7_fewestPlanksBy 75 = .ok (.goto (-58), 3) := by decide +kernel
theorem dX7_fewestPlanksBy_78 : decode cX7_fewestPlanksBy 78 = .ok (.bipush (-9), 2) := by decide +kernel
theorem dX7_fewestPlanksBy_80 : decode cX7_fewestPlanksBy 80 = .ok (.ireturn, 1) := by decide +kernel
set_option maxRecDepth 20000 in
theorem ggX7_learnNeeds_X3_needsAt : GoodIn wsX7_learnNeeds wsX3_needsAt := goodIn_r _ [6, 7, 8, 9, 10, 11, 12, 32, 33, 34, 35, 36, 37, 38] (by decide +kernel) (by decide +kernel)
set_option maxRecDepth 20000 in
theorem gX7_learnNeeds_X3_needsAt : GoodIn wsX7_learnNeeds (va_wsS RX7 83 yX3_needsAt wsX3_needsAt) := goodIn_app (goodIn_of _ (by decide +kernel)) ggX7_learnNeeds_X3_needsAt
theorem dX7_learnNeeds_0 : decode cX7_learnNeeds 0 = .ok (.iconst 0, 1) := by decide +kernel
theorem dX7_learnNeeds_1 : decode cX7_learnNeeds 1 = .ok (.istore_n 1, 1) := by decide +kernel
theorem dX7_learnNeeds_2 : decode cX7_learnNeeds 2 = .ok (.iload_n 1, 1) := by decide +kernel
theorem dX7_learnNeeds_3 : decode cX7_learnNeeds 3 = .ok (.bipush 99, 2) := by decide +kernel
theorem dX7_learnNeeds_5 : decode cX7_learnNeeds 5 = .ok (.if_icmp .gt 26, 3) := by decide +kernel
theorem dX7_learnNeeds_8 : decode cX7_learnNeeds 8 = .ok (.aload_n 0, 1) := by decide +kernel
theorem dX7_learnNeeds_9 : decode cX7_learnNeeds 9 = .ok (.getfield 40, 3) := by decide +kernel
theorem dX7_learnNeeds_12 : decode cX7_learnNeeds 12 = .ok (.iload_n 1, 1) := by decide +kernel
theorem dX7_learnNeeds_13 : decode cX7_learnNeeds 13 = .ok (.aload_n 0, 1) := by decide +kernel
theorem dX7_learnNeeds_14 : decode cX7_learnNeeds 14 = .ok (.getfield 43, 3) := by decide +kernel
theorem dX7_learnNeeds_17 : decode cX7_learnNeeds 17 = .ok (.getfield 66, 3) := by decide +kernel
theorem dX7_learnNeeds_20 : decode cX7_learnNeeds 20 = .ok (.iload_n 1, 1) := by decide +kernel
theorem dX7_learnNeeds_21 : decode cX7_learnNeeds 21 = .ok (.invokestatic 83, 3) := by decide +kernel
theorem dX7_learnNeeds_24 : decode cX7_learnNeeds 24 = .ok (.iastore, 1) := by decide +kernel
theorem dX7_learnNeeds_25 : decode cX7_learnNeeds 25 = .ok (.iinc 1 1, 3) := by decide +kernel
theorem dX7_learnNeeds_28 : decode cX7_learnNeeds 28 = .ok (.goto (-26), 3) := by decide +kernel
theorem dX7_learnNeeds_31 : decode cX7_learnNeeds 31 = .ok (.return_, 1) := by decide +kernel
set_option maxRecDepth 20000 in
theorem ggX7_run_X5_shorten : GoodIn wsX7_run wsX5_shorten := goodIn_r _ [17, 18, 135, 136, 137] (by decide +kernel) (by decide +kernel)
set_option maxRecDepth 20000 in
theorem gX7_run_X5_shorten : GoodIn wsX7_run (wsV RX7 92 RX5 yX5_shorten wsX5_shorten) := goodIn_app (goodIn_of _ (by decide +kernel)) ggX7_run_X5_shorten
set_option maxRecDepth 20000 in
theorem ggX7_run_J7_fill_53178 : GoodIn wsX7_run wsJ7_fill_53178 := goodIn_r _ [22] (by decide +kernel) (by decide +kernel)
set_option maxRecDepth 20000 in
theorem gX7_run_J7_fill_53178 : GoodIn wsX7_run (va_wsS RX7 96 yJ7_fill_53178 wsJ7_fill_53178) := goodIn_app (goodIn_of _ (by decide +kernel)) ggX7_run_J7_fill_53178
set_option maxRecDepth 20000 in
theorem ggX7_run_X6_coatHours : GoodIn wsX7_run wsX6_coatHours := goodIn_r _ [27, 28, 29, 123, 124, 125, 126, 127, 128, 129, 130, 131, 132, 133, 134] (by decide +kernel) (by decide +kernel)
set_option maxRecDepth 20000 in
theorem gX7_run_X6_coatHours : GoodIn wsX7_run (wsV RX7 102 RX6 yX6_coatHours wsX6_coatHours) := goodIn_app (goodIn_of _ (by decide +kernel)) ggX7_run_X6_coatHours
set_option maxRecDepth 20000 in
theorem ggX7_run_X6_shutHours : GoodIn wsX7_run wsX6_shutHours := goodIn_r _ [33, 28, 34, 24, 25, 26, 27, 29, 123, 124, 125, 126, 127, 128, 129, 130, 131, 132, 133, 134] (by decide +kernel) (by decide +kernel)
set_option maxRecDepth 20000 in
theorem gX7_run_X6_shutHours : GoodIn wsX7_run (wsV RX7 105 RX6 yX6_shutHours wsX6_shutHours) := goodIn_app (goodIn_of _ (by decide +kernel)) ggX7_run_X6_shutHours
set_option maxRecDepth 20000 in
theorem ggX7_run_X6_dryHours : GoodIn wsX7_run wsX6_dryHours := goodIn_r _ [38, 28, 34, 24, 25, 26, 27, 29, 123, 124, 125, 126, 127, 128, 129, 130, 131, 132, 133, 134] (by decide +kernel) (by decide +kernel)
set_option maxRecDepth 20000 in
theorem gX7_run_X6_dryHours : GoodIn wsX7_run (wsV RX7 109 RX6 yX6_dryHours wsX6_dryHours) := goodIn_app (goodIn_of _ (by decide +kernel)) ggX7_run_X6_dryHours
set_option maxRecDepth 20000 in
theorem ggX7_run_X9_barredNeeds : GoodIn wsX7_run wsX9_barredNeeds := goodIn_r _ [43, 44, 138, 139] (by decide +kernel) (by decide +kernel)
set_option maxRecDepth 20000 in
theorem gX7_run_X9_barredNeeds : GoodIn wsX7_run (wsV RX7 115 RX9 yX9_barredNeeds wsX9_barredNeeds) := goodIn_app (goodIn_of _ (by decide +kernel)) ggX7_run_X9_barredNeeds
set_option maxRecDepth 20000 in
theorem ggX7_run_X7_goOn : GoodIn wsX7_run wsX7_goOn := goodIn_r _ [49, 6, 10, 2, 3, 7, 11, 50, 51, 52, 48, 53, 1, 54, 4, 55, 56, 57, 16, 58, 18, 59, 60, 61, 62, 63, 64, 65, 66, 67, 68, 69, 70, 71, 72, 9, 73, 74, 75, 8, 12, 5, 76, 77, 78, 79, 80, 39, 40, 41, 42, 43, 44, 81, 82, 83, 84, 85, 86, 87, 88, 89, 90, 91, 92, 93, 94, 95, 96, 97, 98, 99, 100, 101, 102, 103, 104, 45, 46, 47, 105, 106, 107, 108, 13, 14, 15, 17, 109, 110, 111, 112, 113, 114, 115, 116, 117, 118, 119, 120, 121, 122, 123, 124, 125, 126, 127, 128, 129, 130, 131, 132, 133, 134, 135, 136, 137, 138, 139] (by decide +kernel) (by decide +kernel)
set_option maxRecDepth 20000 in
theorem gX7_run_X7_goOn : GoodIn wsX7_run (wsV RX7 120 RX7 yX7_goOn wsX7_goOn) := goodIn_app (goodIn_of _ (by decide +kernel)) ggX7_run_X7_goOn
theorem dX7_run_0 : decode cX7_run 0 = .ok (.aload_n 0, 1) := by decide +kernel
theorem dX7_run_1 : decode cX7_run 1 = .ok (.iload_n 2, 1) := by decide +kernel
theorem dX7_run_2 : decode cX7_run 2 = .ok (.putfield 62, 3) := by decide +kernel
theorem dX7_run_5 : decode cX7_run 5 = .ok (.aload_n 0, 1) := by decide +kernel
theorem dX7_run_6 : decode cX7_run 6 = .ok (.iload_n 3, 1) := by decide +kernel
theorem dX7_run_7 : decode cX7_run 7 = .ok (.putfield 89, 3) := by decide +kernel
theorem dX7_run_10 : decode cX7_run 10 = .ok (.aload_n 0, 1) := by decide +kernel
theorem dX7_run_11 : decode cX7_run 11 = .ok (.iconst 0, 1) := by decide +kernel
theorem dX7_run_12 : decode cX7_run 12 = .ok (.putfield 58, 3) := by decide +kernel
theorem dX7_run_15 : decode cX7_run 15 = .ok (.aload_n 0, 1) := by decide +kernel
theorem dX7_run_16 : decode cX7_run 16 = .ok (.getfield 18, 3) := by decide +kernel
theorem dX7_run_19 : decode cX7_run 19 = .ok (.iconst 0, 1) := by decide +kernel
theorem dX7_run_20 : decode cX7_run 20 = .ok (.invokevirtual 92, 3) := by decide +kernel
theorem dX7_run_23 : decode cX7_run 23 = .ok (.aload_n 0, 1) := by decide +kernel
theorem dX7_run_24 : decode cX7_run 24 = .ok (.getfield 37, 3) := by decide +kernel
theorem dX7_run_27 : decode cX7_run 27 = .ok (.iconst 0, 1) := by decide +kernel
theorem dX7_run_28 : decode cX7_run 28 = .ok (.invokestatic 96, 3) := by decide +kernel
theorem dX7_run_31 : decode cX7_run 31 = .ok (.iconst 0, 1) := by decide +kernel
theorem dX7_run_32 : decode cX7_run 32 = .ok (.istore 4, 2) := by decide +kernel
theorem dX7_run_34 : decode cX7_run 34 = .ok (.iconst 1, 1) := by decide +kernel
theorem dX7_run_35 : decode cX7_run 35 = .ok (.istore 5, 2) := by decide +kernel
theorem dX7_run_37 : decode cX7_run 37 = .ok (.iload 5, 2) := by decide +kernel
theorem dX7_run_39 : decode cX7_run 39 = .ok (.aload_n 0, 1) := by decide +kernel
theorem dX7_run_40 : decode cX7_run 40 = .ok (.getfield 43, 3) := by decide +kernel
theorem dX7_run_43 : decode cX7_run 43 = .ok (.getfield 66, 3) := by decide +kernel
theorem dX7_run_46 : decode cX7_run 46 = .ok (.getfield 72, 3) := by decide +kernel
theorem dX7_run_49 : decode cX7_run 49 = .ok (.if_icmp .gt 106, 3) := by decide +kernel
theorem dX7_run_52 : decode cX7_run 52 = .ok (.aload_n 0, 1) := by decide +kernel
theorem dX7_run_53 : decode cX7_run 53 = .ok (.getfield 21, 3) := by decide +kernel
theorem dX7_run_56 : decode cX7_run 56 = .ok (.iload 5, 2) := by decide +kernel
theorem dX7_run_58 : decode cX7_run 58 = .ok (.aload_n 0, 1) := by decide +kernel
theorem dX7_run_59 : decode cX7_run 59 = .ok (.getfield 43, 3) := by decide +kernel
theorem dX7_run_62 : decode cX7_run 62 = .ok (.iload 5, 2) := by decide +kernel
theorem dX7_run_64 : decode cX7_run 64 = .ok (.invokevirtual 102, 3) := by decide +kernel
theorem dX7_run_67 : decode cX7_run 67 = .ok (.iastore, 1) := by decide +kernel
theorem dX7_run_68 : decode cX7_run 68 = .ok (.aload_n 0, 1) := by decide +kernel
theorem dX7_run_69 : decode cX7_run 69 = .ok (.getfield 25, 3) := by decide +kernel
theorem dX7_run_72 : decode cX7_run 72 = .ok (.iload 5, 2) := by decide +kernel
theorem dX7_run_74 : decode cX7_run 74 = .ok (.aload_n 0, 1) := by decide +kernel
theorem dX7_run_75 : decode cX7_run 75 = .ok (.getfield 43, 3) := by decide +kernel
theorem dX7_run_78 : decode cX7_run 78 = .ok (.iload 5, 2) := by decide +kernel
theorem dX7_run_80 : decode cX7_run 80 = .ok (.iload_n 1, 1) := by decide +kernel
theorem dX7_run_81 : decode cX7_run 81 = .ok (.invokevirtual 105, 3) := by decide +kernel
theorem dX7_run_84 : decode cX7_run 84 = .ok (.iastore, 1) := by decide +kernel
theorem dX7_run_85 : decode cX7_run 85 = .ok (.aload_n 0, 1) := by decide +kernel
theorem dX7_run_86 : decode cX7_run 86 = .ok (.getfield 28, 3) := by decide +kernel
theorem dX7_run_89 : decode cX7_run 89 = .ok (.iload 5, 2) := by decide +kernel
theorem dX7_run_91 : decode cX7_run 91 = .ok (.aload_n 0, 1) := by decide +kernel
theorem dX7_run_92 : decode cX7_run 92 = .ok (.getfield 43, 3) := by decide +kernel
theorem dX7_run_95 : decode cX7_run 95 = .ok (.iload 5, 2) := by decide +kernel
theorem dX7_run_97 : decode cX7_run 97 = .ok (.invokevirtual 109, 3) := by decide +kernel
theorem dX7_run_100 : decode cX7_run 100 = .ok (.iastore, 1) := by decide +kernel
theorem dX7_run_101 : decode cX7_run 101 = .ok (.aload_n 0, 1) := by decide +kernel
theorem dX7_run_102 : decode cX7_run 102 = .ok (.getfield 31, 3) := by decide +kernel
theorem dX7_run_105 : decode cX7_run 105 = .ok (.iload 5, 2) := by decide +kernel
theorem dX7_run_107 : decode cX7_run 107 = .ok (.aload_n 0, 1) := by decide +kernel
theorem dX7_run_108 : decode cX7_run 108 = .ok (.getfield 43, 3) := by decide +kernel
theorem dX7_run_111 : decode cX7_run 111 = .ok (.getfield 66, 3) := by decide +kernel
theorem dX7_run_114 : decode cX7_run 114 = .ok (.getfield 112, 3) := by decide +kernel
theorem dX7_run_117 : decode cX7_run 117 = .ok (.iload 5, 2) := by decide +kernel
theorem dX7_run_119 : decode cX7_run 119 = .ok (.iaload, 1) := by decide +kernel
theorem dX7_run_120 : decode cX7_run 120 = .ok (.iastore, 1) := by decide +kernel
theorem dX7_run_121 : decode cX7_run 121 = .ok (.aload_n 0, 1) := by decide +kernel
theorem dX7_run_122 : decode cX7_run 122 = .ok (.getfield 34, 3) := by decide +kernel
theorem dX7_run_125 : decode cX7_run 125 = .ok (.iload 5, 2) := by decide +kernel
theorem dX7_run_127 : decode cX7_run 127 = .ok (.iconst (-1), 1) := by decide +kernel
theorem dX7_run_128 : decode cX7_run 128 = .ok (.iastore, 1) := by decide +kernel
theorem dX7_run_129 : decode cX7_run 129 = .ok (.iload 4, 2) := by decide +kernel
theorem dX7_run_131 : decode cX7_run 131 = .ok (.aload_n 0, 1) := by decide +kernel
theorem dX7_run_132 : decode cX7_run 132 = .ok (.getfield 21, 3) := by decide +kernel
theorem dX7_run_135 : decode cX7_run 135 = .ok (.iload 5, 2) := by decide +kernel
theorem dX7_run_137 : decode cX7_run 137 = .ok (.iaload, 1) := by decide +kernel
theorem dX7_run_138 : decode cX7_run 138 = .ok (.aload_n 0, 1) := by decide +kernel
theorem dX7_run_139 : decode cX7_run 139 = .ok (.getfield 31, 3) := by decide +kernel
theorem dX7_run_142 : decode cX7_run 142 = .ok (.iload 5, 2) := by decide +kernel
theorem dX7_run_144 : decode cX7_run 144 = .ok (.iaload, 1) := by decide +kernel
theorem dX7_run_145 : decode cX7_run 145 = .ok (.imul, 1) := by decide +kernel
theorem dX7_run_146 : decode cX7_run 146 = .ok (.iadd, 1) := by decide +kernel
theorem dX7_run_147 : decode cX7_run 147 = .ok (.istore 4, 2) := by decide +kernel
theorem dX7_run_149 : decode cX7_run 149 = .ok (.iinc 5 1, 3) := by decide +kernel
theorem dX7_run_152 : decode cX7_run 152 = .ok (.goto (-115), 3) := by decide +kernel
theorem dX7_run_155 : decode cX7_run 155 = .ok (.aload_n 0, 1) := by decide +kernel
theorem dX7_run_156 : decode cX7_run 156 = .ok (.getfield 47, 3) := by decide +kernel
theorem dX7_run_159 : decode cX7_run 159 = .ok (.iconst 0, 1) := by decide +kernel
theorem dX7_run_160 : decode cX7_run 160 = .ok (.invokevirtual 115, 3) := by decide +kernel
theorem dX7_run_163 : decode cX7_run 163 = .ok (.ifCond .ne 12, 3) := by decide +kernel
theorem dX7_run_166 : decode cX7_run 166 = .ok (.aload_n 0, 1) := by decide +kernel
theorem dX7_run_167 : decode cX7_run 167 = .ok (.iconst 0, 1) := by decide +kernel
theorem dX7_run_168 : decode cX7_run 168 = .ok (.iconst 0, 1) := by decide +kernel
theorem dX7_run_169 : decode cX7_run 169 = .ok (.iconst 0, 1) := by decide +kernel
theorem dX7_run_170 : decode cX7_run 170 = .ok (.iload 4, 2) := by decide +kernel
theorem dX7_run_172 : decode cX7_run 172 = .ok (.invokevirtual 120, 3) := by decide +kernel
theorem dX7_run_175 : decode cX7_run 175 = .ok (.return_, 1) := by decide +kernel
set_option maxRecDepth 20000 in
theorem ggX7_goOn_X7_keepTrial : GoodIn wsX7_goOn wsX7_keepTrial := goodIn_r _ [11, 4, 12, 13, 14, 15, 16, 17, 18, 19, 20, 21, 22, 23, 24, 25, 26, 88, 89, 90, 91, 92, 93, 94, 95, 96, 97, 98, 99, 100, 101, 114, 115, 116] (by decide +kernel) (by decide +kernel)
set_option maxRecDepth 20000 in
theorem gX7_goOn_X7_keepTrial : GoodIn wsX7_goOn (wsV RX7 124 RX7 yX7_keepTrial wsX7_keepTrial) := goodIn_app (goodIn_of _ (by decide +kernel)) ggX7_goOn_X7_keepTrial
set_option maxRecDepth 20000 in
theorem ggX7_goOn_X7_leastBegin : GoodIn wsX7_goOn wsX7_leastBegin := goodIn_r _ [30, 12, 31, 32, 33, 34, 6, 35, 36, 37, 38, 5, 1, 39, 40, 41, 42, 43, 44, 10, 45, 46, 47, 48, 49, 50, 51, 52, 53, 54, 55, 56, 57, 58, 59, 60, 61, 62, 63, 64, 65, 66, 67, 68, 88, 89, 90, 91, 92, 93, 94, 95, 96, 97, 98, 99, 100, 101, 102, 103, 104, 105, 106, 117, 118, 107, 108, 109, 110, 111, 112, 113] (by decide +kernel) (by decide +kernel)
set_option maxRecDepth 20000 in
theorem gX7_goOn_X7_leastBegin : GoodIn wsX7_goOn (wsV RX7 127 RX7 yX7_leastBegin wsX7_leastBegin) := goodIn_app (goodIn_of _ (by decide +kernel)) ggX7_goOn_X7_leastBegin
set_option maxRecDepth 20000 in
theorem ggX7_goOn_X7_begin : GoodIn wsX7_goOn wsX7_begin := goodIn_r _ [72, 14, 2, 6, 39, 41, 73, 74, 75, 18, 76, 20, 21, 26, 88, 89, 90, 91, 92, 93, 94, 95, 96, 97, 98, 99, 100, 101, 114, 115, 116] (by decide +kernel) (by decide +kernel)
set_option maxRecDepth 20000 in
theorem gX7_goOn_X7_begin : GoodIn wsX7_goOn (wsV RX7 131 RX7 yX7_begin wsX7_begin) := goodIn_app (goodIn_of _ (by decide +kernel)) ggX7_goOn_X7_begin
set_option maxRecDepth 20000 in
theorem ggX7_goOn_X7_placeOutside : GoodIn wsX7_goOn wsX7_placeOutside := goodIn_r _ [61, 1, 41, 62, 63, 64, 65, 66, 67, 68, 88, 89, 90, 91, 92, 93, 94, 95, 96, 97, 98, 99, 100, 101, 102, 103, 104, 105, 106, 107, 108, 109, 110, 111, 112, 113] (by decide +kernel) (by decide +kernel)
set_option maxRecDepth 20000 in
theorem gX7_goOn_X7_placeOutside : GoodIn wsX7_goOn (wsV RX7 135 RX7 yX7_placeOutside wsX7_placeOutside) := goodIn_app (goodIn_of _ (by decide +kernel)) ggX7_goOn_X7_placeOutside
set_option maxRecDepth 20000 in
theorem ggX7_goOn_X7_goOn : GoodIn wsX7_goOn wsX7_goOn := goodIn_r _ [0, 1, 2, 3, 4, 5, 6, 7, 8, 9, 10, 11, 12, 13, 14, 15, 16, 17, 18, 19, 20, 21, 22, 23, 24, 25, 26, 27, 28, 29, 30, 31, 32, 33, 34, 35, 36, 37, 38, 39, 40, 41, 42, 43, 44, 45, 46, 47, 48, 49, 50, 51, 52, 53, 54, 55, 56, 57, 58, 59, 60, 61, 62, 63, 64, 65, 66, 67, 68, 69, 70, 71, 72, 73, 74, 75, 76, 77, 78, 79, 80, 81, 82, 83, 84, 85, 86, 87, 88, 89, 90, 91, 92, 93, 94, 95, 96, 97, 98, 99, 100, 101, 102, 103, 104, 105, 106, 107, 108, 109, 110, 111, 112, 113, 114, 115, 116, 117, 118] (by decide +kernel) (by decide +kernel)
set_option maxRecDepth 20000 in
theorem gX7_goOn_X7_goOn : GoodIn wsX7_goOn (wsV RX7 120 RX7 yX7_goOn wsX7_goOn) := goodIn_app (goodIn_of _ (by decide +kernel)) ggX7_goOn_X7_goOn
set_option maxRecDepth 20000 in
theorem ggX7_goOn_X7_takeBack : GoodIn wsX7_goOn wsX7_takeBack := goodIn_r _ [83, 14, 2, 6, 39, 41, 84, 85, 86, 18, 87, 20, 88, 89, 90, 91, 92, 93, 94, 95, 96, 97, 98, 99, 100, 101, 114, 115, 116] (by decide +kernel) (by decide +kernel)
set_option maxRecDepth 20000 in
theorem gX7_goOn_X7_takeBack : GoodIn wsX7_goOn (wsV RX7 138 RX7 yX7_takeBack wsX7_takeBack) := goodIn_app (goodIn_of _ (by decide +kernel)) ggX7_goOn_X7_takeBack
theorem dX7_goOn_0 : decode cX7_goOn 0 = .ok (.iload_n 1, 1) := by decide +kernel
theorem dX7_goOn_1 : decode cX7_goOn 1 = .ok (.bipush 6, 2) := by decide +kernel
theorem dX7_goOn_3 : decode cX7_goOn 3 = .ok (.if_icmp .le 4, 3) := by decide +kernel
theorem dX7_goOn_6 : decode cX7_goOn 6 = .ok (.return_, 1) := by decide +kernel
theorem dX7_goOn_7 : decode cX7_goOn 7 = .ok (.iload 4, 2) := by decide +kernel
theorem dX7_goOn_9 : decode cX7_goOn 9 = .ok (.ifCond .ne 9, 3) := by decide +kernel
theorem dX7_goOn_12 : decode cX7_goOn 12 = .ok (.aload_n 0, 1) := by decide +kernel
theorem dX7_goOn_13 : decode cX7_goOn 13 = .ok (.iload_n 3, 1) := by decide +kernel
theorem dX7_goOn_14 : decode cX7_goOn 14 = .ok (.invokevirtual 124, 3) := by decide +kernel
theorem dX7_goOn_17 : decode cX7_goOn 17 = .ok (.return_, 1) := by decide +kernel
theorem dX7_goOn_18 : decode cX7_goOn 18 = .ok (.iconst 1, 1) := by decide +kernel
theorem dX7_goOn_19 : decode cX7_goOn 19 = .ok (.istore 5, 2) := by decide +kernel
theorem dX7_goOn_21 : decode cX7_goOn 21 = .ok (.iload 5, 2) := by decide +kernel
theorem dX7_goOn_23 : decode cX7_goOn 23 = .ok (.aload_n 0, 1) := by decide +kernel
theorem dX7_goOn_24 : decode cX7_goOn 24 = .ok (.getfield 43, 3) := by decide +kernel
theorem dX7_goOn_27 : decode cX7_goOn 27 = .ok (.getfield 66, 3) := by decide +kernel
theorem dX7_goOn_30 : decode cX7_goOn 30 = .ok (.getfield 72, 3) := by decide +kernel
theorem dX7_goOn_33 : decode cX7_goOn 33 = .ok (.if_icmp .gt 122, 3) := by decide +kernel
theorem dX7_goOn_36 : decode cX7_goOn 36 = .ok (.aload_n 0, 1) := by decide +kernel
theorem dX7_goOn_37 : decode cX7_goOn 37 = .ok (.getfield 31, 3) := by decide +kernel
theorem dX7_goOn_40 : decode cX7_goOn 40 = .ok (.iload 5, 2) := by decide +kernel
theorem dX7_goOn_42 : decode cX7_goOn 42 = .ok (.iaload, 1) := by decide +kernel
theorem dX7_goOn_43 : decode cX7_goOn 43 = .ok (.ifCond .eq 106, 3) := by decide +kernel
theorem dX7_goOn_46 : decode cX7_goOn 46 = .ok (.aload_n 0, 1) := by decide +kernel
theorem dX7_goOn_47 : decode cX7_goOn 47 = .ok (.getfield 89, 3) := by decide +kernel
theorem dX7_goOn_50 : decode cX7_goOn 50 = .ok (.ifCond .eq 13, 3) := by decide +kernel
theorem dX7_goOn_53 : decode cX7_goOn 53 = .ok (.aload_n 0, 1) := by decide +kernel
theorem dX7_goOn_54 : decode cX7_goOn 54 = .ok (.getfield 58, 3) := by decide +kernel
theorem dX7_goOn_57 : decode cX7_goOn 57 = .ok (.ifCond .eq 6, 3) := by decide +kernel
theorem dX7_goOn_60 : decode cX7_goOn 60 = .ok (.goto 89, 3) := by decide +kernel
theorem dX7_goOn_63 : decode cX7_goOn 63 = .ok (.aload_n 0, 1) := by decide +kernel
theorem dX7_goOn_64 : decode cX7_goOn 64 = .ok (.iload 5, 2) := by decide +kernel
theorem dX7_goOn_66 : decode cX7_goOn 66 = .ok (.iload_n 2, 1) := by decide +kernel
theorem dX7_goOn_67 : decode cX7_goOn 67 = .ok (.iload_n 3, 1) := by decide +kernel
theorem dX7_goOn_68 : decode cX7_goOn 68 = .ok (.iload 4, 2) := by decide +kernel
theorem dX7_goOn_70 : decode cX7_goOn 70 = .ok (.invokevirtual 127, 3) := by decide +kernel
theorem dX7_goOn_73 : decode cX7_goOn 73 = .ok (.istore 6, 2) := by decide +kernel
theorem dX7_goOn_75 : decode cX7_goOn 75 = .ok (.iload 6, 2) := by decide +kernel
theorem dX7_goOn_77 : decode cX7_goOn 77 = .ok (.bipush (-9), 2) := by decide +kernel
theorem dX7_goOn_79 : decode cX7_goOn 79 = .ok (.if_icmp .eq 70, 3) := by decide +kernel
theorem dX7_goOn_82 : decode cX7_goOn 82 = .ok (.iload 6, 2) := by decide +kernel
theorem dX7_goOn_84 : decode cX7_goOn 84 = .ok (.aload_n 0, 1) := by decide +kernel
theorem dX7_goOn_85 : decode cX7_goOn 85 = .ok (.getfield 21, 3) := by decide +kernel
theorem dX7_goOn_88 : decode cX7_goOn 88 = .ok (.iload 5, 2) := by decide +kernel
theorem dX7_goOn_90 : decode cX7_goOn 90 = .ok (.iaload, 1) := by decide +kernel
theorem dX7_goOn_91 : decode cX7_goOn 91 = .ok (.iadd, 1) := by decide +kernel
theorem dX7_goOn_92 : decode cX7_goOn 92 = .ok (.istore 7, 2) := by decide +kernel
theorem dX7_goOn_94 : decode cX7_goOn 94 = .ok (.aload_n 0, 1) := by decide +kernel
theorem dX7_goOn_95 : decode cX7_goOn 95 = .ok (.getfield 34, 3) := by decide +kernel
theorem dX7_goOn_98 : decode cX7_goOn 98 = .ok (.iload 5, 2) := by decide +kernel
theorem dX7_goOn_100 : decode cX7_goOn 100 = .ok (.iaload, 1) := by decide +kernel
theorem dX7_goOn_101 : decode cX7_goOn 101 = .ok (.istore 8, 2) := by decide +kernel
theorem dX7_goOn_103 : decode cX7_goOn 103 = .ok (.aload_n 0, 1) := by decide +kernel
theorem dX7_goOn_104 : decode cX7_goOn 104 = .ok (.iload 5, 2) := by decide +kernel
theorem dX7_goOn_106 : decode cX7_goOn 106 = .ok (.iload 6, 2) := by decide +kernel
theorem dX7_goOn_108 : decode cX7_goOn 108 = .ok (.invokevirtual 131, 3) := by decide +kernel
theorem dX7_goOn_111 : decode cX7_goOn 111 = .ok (.aload_n 0, 1) := by decide +kernel
theorem dX7_goOn_112 : decode cX7_goOn 112 = .ok (.iload_n 1, 1) := by decide +kernel
theorem dX7_goOn_113 : decode cX7_goOn 113 = .ok (.iconst 1, 1) := by decide +kernel
theorem dX7_goOn_114 : decode cX7_goOn 114 = .ok (.iadd, 1) := by decide +kernel
theorem dX7_goOn_115 : decode cX7_goOn 115 = .ok (.aload_n 0, 1) := by decide +kernel
theorem dX7_goOn_116 : decode cX7_goOn 116 = .ok (.iload 5, 2) := by decide +kernel
theorem dX7_goOn_118 : decode cX7_goOn 118 = .ok (.iload 7, 2) := by decide +kernel
theorem dX7_goOn_120 : decode cX7_goOn 120 = .ok (.invokevirtual 135, 3) := by decide +kernel
theorem dX7_goOn_123 : decode cX7_goOn 123 = .ok (.iload 7, 2) := by decide +kernel
theorem dX7_goOn_125 : decode cX7_goOn 125 = .ok (.iload 4, 2) := by decide +kernel
theorem dX7_goOn_127 : decode cX7_goOn 127 = .ok (.aload_n 0, 1) := by decide +kernel
theorem dX7_goOn_128 : decode cX7_goOn 128 = .ok (.getfield 21, 3) := by decide +kernel
theorem dX7_goOn_131 : decode cX7_goOn 131 = .ok (.iload 5, 2) := by decide +kernel
theorem dX7_goOn_133 : decode cX7_goOn 133 = .ok (.iaload, 1) := by decide +kernel
theorem dX7_goOn_134 : decode cX7_goOn 134 = .ok (.isub, 1) := by decide +kernel
theorem dX7_goOn_135 : decode cX7_goOn 135 = .ok (.invokevirtual 120, 3) := by decide +kernel
theorem dX7_goOn_138 : decode cX7_goOn 138 = .ok (.aload_n 0, 1) := by decide +kernel
theorem dX7_goOn_139 : decode cX7_goOn 139 = .ok (.iload 5, 2) := by decide +kernel
theorem dX7_goOn_141 : decode cX7_goOn 141 = .ok (.iload 6, 2) := by decide +kernel
theorem dX7_goOn_143 : decode cX7_goOn 143 = .ok (.iload 8, 2) := by decide +kernel
theorem dX7_goOn_145 : decode cX7_goOn 145 = .ok (.iload_n 1, 1) := by decide +kernel
theorem dX7_goOn_146 : decode cX7_goOn 146 = .ok (.invokevirtual 138, 3) := by decide +kernel
theorem dX7_goOn_149 : decode cX7_goOn 149 = .ok (.iinc 5 1, 3) := by decide +kernel
theorem dX7_goOn_152 : decode cX7_goOn 152 = .ok (.goto (-131), 3) := by decide +kernel
theorem dX7_goOn_155 : decode cX7_goOn 155 = .ok (.return_, 1) := by decide +kernel
set_option maxRecDepth 20000 in
theorem ggX7_keepTrial_X5_become : GoodIn wsX7_keepTrial wsX5_become := goodIn_r _ [9, 10, 11, 12, 13, 14, 15, 16, 31, 32, 33] (by decide +kernel) (by decide +kernel)
set_option maxRecDepth 20000 in
theorem gX7_keepTrial_X5_become : GoodIn wsX7_keepTrial (wsV RX7 141 RX5 yX5_become wsX5_become) := goodIn_app (goodIn_of _ (by decide +kernel)) ggX7_keepTrial_X5_become
theorem dX7_keepTrial_0 : decode cX7_keepTrial 0 = .ok (.aload_n 0, 1) := by decide +kernel
theorem dX7_keepTrial_1 : decode cX7_keepTrial 1 = .ok (.iconst 1, 1) := by decide +kernel
theorem dX7_keepTrial_2 : decode cX7_keepTrial 2 = .ok (.putfield 58, 3) := by decide +kernel
theorem dX7_keepTrial_5 : decode cX7_keepTrial 5 = .ok (.aload_n 0, 1) := by decide +kernel
theorem dX7_keepTrial_6 : decode cX7_keepTrial 6 = .ok (.iload_n 1, 1) := by decide +kernel
theorem dX7_keepTrial_7 : decode cX7_keepTrial 7 = .ok (.putfield 62, 3) := by decide +kernel
theorem dX7_keepTrial_10 : decode cX7_keepTrial 10 = .ok (.aload_n 0, 1) := by decide +kernel
theorem dX7_keepTrial_11 : decode cX7_keepTrial 11 = .ok (.getfield 12, 3) := by decide +kernel
theorem dX7_keepTrial_14 : decode cX7_keepTrial 14 = .ok (.aload_n 0, 1) := by decide +kernel
theorem dX7_keepTrial_15 : decode cX7_keepTrial 15 = .ok (.getfield 18, 3) := by decide +kernel
theorem dX7_keepTrial_18 : decode cX7_keepTrial 18 = .ok (.invokevirtual 141, 3) := by decide +kernel
theorem dX7_keepTrial_21 : decode cX7_keepTrial 21 = .ok (.return_, 1) := by decide +kernel
set_option maxRecDepth 20000 in
theorem ggX7_begin_X5_append : GoodIn wsX7_begin wsX5_append := goodIn_r _ [10, 11, 12, 13, 28, 29, 30] (by decide +kernel) (by decide +kernel)
set_option maxRecDepth 20000 in
theorem gX7_begin_X5_append : GoodIn wsX7_begin (wsV RX7 145 RX5 yX5_append wsX5_append) := goodIn_app (goodIn_of _ (by decide +kernel)) ggX7_begin_X5_append
theorem dX7_begin_0 : decode cX7_begin 0 = .ok (.aload_n 0, 1) := by decide +kernel
theorem dX7_begin_1 : decode cX7_begin 1 = .ok (.getfield 18, 3) := by decide +kernel
theorem dX7_begin_4 : decode cX7_begin 4 = .ok (.iload_n 1, 1) := by decide +kernel
theorem dX7_begin_5 : decode cX7_begin 5 = .ok (.iload_n 2, 1) := by decide +kernel
theorem dX7_begin_6 : decode cX7_begin 6 = .ok (.invokevirtual 145, 3) := by decide +kernel
theorem dX7_begin_9 : decode cX7_begin 9 = .ok (.aload_n 0, 1) := by decide +kernel
theorem dX7_begin_10 : decode cX7_begin 10 = .ok (.getfield 31, 3) := by decide +kernel
theorem dX7_begin_13 : decode cX7_begin 13 = .ok (.iload_n 1, 1) := by decide +kernel
theorem dX7_begin_14 : decode cX7_begin 14 = .ok (.dup2, 1) := by decide +kernel
theorem dX7_begin_15 : decode cX7_begin 15 = .ok (.iaload, 1) := by decide +kernel
theorem dX7_begin_16 : decode cX7_begin 16 = .ok (.iconst 1, 1) := by decide +kernel
theorem dX7_begin_17 : decode cX7_begin 17 = .ok (.isub, 1) := by decide +kernel
theorem dX7_begin_18 : decode cX7_begin 18 = .ok (.iastore, 1) := by decide +kernel
theorem dX7_begin_19 : decode cX7_begin 19 = .ok (.aload_n 0, 1) := by decide +kernel
theorem dX7_begin_20 : decode cX7_begin 20 = .ok (.getfield 34, 3) := by decide +kernel
theorem dX7_begin_23 : decode cX7_begin 23 = .ok (.iload_n 1, 1) := by decide +kernel
theorem dX7_begin_24 : decode cX7_begin 24 = .ok (.iload_n 2, 1) := by decide +kernel
theorem dX7_begin_25 : decode cX7_begin 25 = .ok (.iastore, 1) := by decide +kernel
theorem dX7_begin_26 : decode cX7_begin 26 = .ok (.iload_n 2, 1) := by decide +kernel
theorem dX7_begin_27 : decode cX7_begin 27 = .ok (.istore_n 3, 1) := by decide +kernel
theorem dX7_begin_28 : decode cX7_begin 28 = .ok (.iload_n 3, 1) := by decide +kernel
theorem dX7_begin_29 : decode cX7_begin 29 = .ok (.iload_n 2, 1) := by decide +kernel
theorem dX7_begin_30 : decode cX7_begin 30 = .ok (.aload_n 0, 1) := by decide +kernel
theorem dX7_begin_31 : decode cX7_begin 31 = .ok (.getfield 25, 3) := by decide +kernel
theorem dX7_begin_34 : decode cX7_begin 34 = .ok (.iload_n 1, 1) := by decide +kernel
theorem dX7_begin_35 : decode cX7_begin 35 = .ok (.iaload, 1) := by decide +kernel
theorem dX7_begin_36 : decode cX7_begin 36 = .ok (.iadd, 1) := by decide +kernel
theorem dX7_begin_37 : decode cX7_begin 37 = .ok (.if_icmp .ge 27, 3) := by decide +kernel
theorem dX7_begin_40 : decode cX7_begin 40 = .ok (.iload_n 3, 1) := by decide +kernel
theorem dX7_begin_41 : decode cX7_begin 41 = .ok (.bipush 99, 2) := by decide +kernel
theorem dX7_begin_43 : decode cX7_begin 43 = .ok (.if_icmp .gt 21, 3) := by decide +kernel
theorem dX7_begin_46 : decode cX7_begin 46 = .ok (.aload_n 0, 1) := by decide +kernel
theorem dX7_begin_47 : decode cX7_begin 47 = .ok (.getfield 37, 3) := by decide +kernel
theorem dX7_begin_50 : decode cX7_begin 50 = .ok (.iload_n 3, 1) := by decide +kernel
theorem dX7_begin_51 : decode cX7_begin 51 = .ok (.dup2, 1) := by decide +kernel
theorem dX7_begin_52 : decode cX7_begin 52 = .ok (.iaload, 1) := by decide +kernel
theorem dX7_begin_53 : decode cX7_begin 53 = .ok (.iconst 1, 1) := by decide +kernel
theorem dX7_begin_54 : decode cX7_begin 54 = .ok (.iload_n 1, 1) := by decide +kernel
theorem dX7_begin_55 : decode cX7_begin 55 = .ok (.ishl, 1) := by decide +kernel
theorem dX7_begin_56 : decode cX7_begin 56 = .ok (.ior, 1) := by decide +kernel
theorem dX7_begin_57 : decode cX7_begin 57 = .ok (.iastore, 1) := by decide +kernel
theorem dX7_begin_58 : decode cX7_begin 58 = .ok (.iinc 3 1, 3) := by decide +kernel
theorem dX7_begin_61 : decode cX7_begin 61 = .ok (.goto (-33), 3) := by decide +kernel
theorem dX7_begin_64 : decode cX7_begin 64 = .ok (.return_, 1) := by decide +kernel
set_option maxRecDepth 20000 in
theorem ggX7_takeBack_X5_shorten : GoodIn wsX7_takeBack wsX5_shorten := goodIn_r _ [10, 11, 26, 27, 28] (by decide +kernel) (by decide +kernel)
set_option maxRecDepth 20000 in
theorem gX7_takeBack_X5_shorten : GoodIn wsX7_takeBack (wsV RX7 92 RX5 yX5_shorten wsX5_shorten) := goodIn_app (goodIn_of _ (by decide +kernel)) ggX7_takeBack_X5_shorten
theorem dX7_takeBack_0 : decode cX7_takeBack 0 = .ok (.aload_n 0, 1) := by decide +kernel
theorem dX7_takeBack_1 : decode cX7_takeBack 1 = .ok (.getfield 18, 3) := by decide +kernel
theorem dX7_takeBack_4 : decode cX7_takeBack 4 = .ok (.iload 4, 2) := by decide +kernel
theorem dX7_takeBack_6 : decode cX7_takeBack 6 = .ok (.invokevirtual 92, 3) := by decide +kernel
theorem dX7_takeBack_9 : decode cX7_takeBack 9 = .ok (.aload_n 0, 1) := by decide +kernel
theorem dX7_takeBack_10 : decode cX7_takeBack 10 = .ok (.getfield 31, 3) := by decide +kernel
theorem dX7_takeBack_13 : decode cX7_takeBack 13 = .ok (.iload_n 1, 1) := by decide +kernel
theorem dX7_takeBack_14 : decode cX7_takeBack 14 = .ok (.dup2, 1) := by decide +kernel
theorem dX7_takeBack_15 : decode cX7_takeBack 15 = .ok (.iaload, 1) := by decide +kernel
theorem dX7_takeBack_16 : decode cX7_takeBack 16 = .ok (.iconst 1, 1) := by decide +kernel
theorem dX7_takeBack_17 : decode cX7_takeBack 17 = .ok (.iadd, 1) := by decide +kernel
theorem dX7_takeBack_18 : decode cX7_takeBack 18 = .ok (.iastore, 1) := by decide +kernel
theorem dX7_takeBack_19 : decode cX7_takeBack 19 = .ok (.aload_n 0, 1) := by decide +kernel
theorem dX7_takeBack_20 : decode cX7_takeBack 20 = .ok (.getfield 34, 3) := by decide +kernel
theorem dX7_takeBack_23 : decode cX7_takeBack 23 = .ok (.iload_n 1, 1) := by decide +kernel
theorem dX7_takeBack_24 : decode cX7_takeBack 24 = .ok (.iload_n 3, 1) := by decide +kernel
theorem dX7_takeBack_25 : decode cX7_takeBack 25 = .ok (.iastore, 1) := by decide +kernel
theorem dX7_takeBack_26 : decode cX7_takeBack 26 = .ok (.iload_n 2, 1) := by decide +kernel
theorem dX7_takeBack_27 : decode cX7_takeBack 27 = .ok (.istore 5, 2) := by decide +kernel
theorem dX7_takeBack_29 : decode cX7_takeBack 29 = .ok (.iload 5, 2) := by decide +kernel
theorem dX7_takeBack_31 : decode cX7_takeBack 31 = .ok (.iload_n 2, 1) := by decide +kernel
theorem dX7_takeBack_32 : decode cX7_takeBack 32 = .ok (.aload_n 0, 1) := by decide +kernel
theorem dX7_takeBack_33 : decode cX7_takeBack 33 = .ok (.getfield 25, 3) := by decide +kernel
theorem dX7_takeBack_36 : decode cX7_takeBack 36 = .ok (.iload_n 1, 1) := by decide +kernel
theorem dX7_takeBack_37 : decode cX7_takeBack 37 = .ok (.iaload, 1) := by decide +kernel
theorem dX7_takeBack_38 : decode cX7_takeBack 38 = .ok (.iadd, 1) := by decide +kernel
theorem dX7_takeBack_39 : decode cX7_takeBack 39 = .ok (.if_icmp .ge 31, 3) := by decide +kernel
theorem dX7_takeBack_42 : decode cX7_takeBack 42 = .ok (.iload 5, 2) := by decide +kernel
theorem dX7_takeBack_44 : decode cX7_takeBack 44 = .ok (.bipush 99, 2) := by decide +kernel
theorem dX7_takeBack_46 : decode cX7_takeBack 46 = .ok (.if_icmp .gt 24, 3) := by decide +kernel
theorem dX7_takeBack_49 : decode cX7_takeBack 49 = .ok (.aload_n 0, 1) := by decide +kernel
theorem dX7_takeBack_50 : decode cX7_takeBack 50 = .ok (.getfield 37, 3) := by decide +kernel
theorem dX7_takeBack_53 : decode cX7_takeBack 53 = .ok (.iload 5, 2) := by decide +kernel
theorem dX7_takeBack_55 : decode cX7_takeBack 55 = .ok (.dup2, 1) := by decide +kernel
theorem dX7_takeBack_56 : decode cX7_takeBack 56 = .ok (.iaload, 1) := by decide +kernel
theorem dX7_takeBack_57 : decode cX7_takeBack 57 = .ok (.iconst 1, 1) := by decide +kernel
theorem dX7_takeBack_58 : decode cX7_takeBack 58 = .ok (.iload_n 1, 1) := by decide +kernel
theorem dX7_takeBack_59 : decode cX7_takeBack 59 = .ok (.ishl, 1) := by decide +kernel
theorem dX7_takeBack_60 : decode cX7_takeBack 60 = .ok (.iconst (-1), 1) := by decide +kernel
theorem dX7_takeBack_61 : decode cX7_takeBack 61 = .ok (.ixor, 1) := by decide +kernel
theorem dX7_takeBack_62 : decode cX7_takeBack 62 = .ok (.iand, 1) := by decide +kernel
theorem dX7_takeBack_63 : decode cX7_takeBack 63 = .ok (.iastore, 1) := by decide +kernel
theorem dX7_takeBack_64 : decode cX7_takeBack 64 = .ok (.iinc 5 1, 3) := by decide +kernel
theorem dX7_takeBack_67 : decode cX7_takeBack 67 = .ok (.goto (-38), 3) := by decide +kernel
theorem dX7_takeBack_70 : decode cX7_takeBack 70 = .ok (.return_, 1) := by decide +kernel
set_option maxRecDepth 20000 in
theorem ggX7_leastBegin_X7_needFails : GoodIn wsX7_leastBegin wsX7_needFails := goodIn_r _ [20, 14, 15, 21, 22, 23, 24, 25, 26, 27, 44, 45, 46, 47, 48, 49, 50, 51, 52, 53, 54, 55, 56, 57, 63, 64] (by decide +kernel) (by decide +kernel)
set_option maxRecDepth 20000 in
theorem gX7_leastBegin_X7_needFails : GoodIn wsX7_leastBegin (wsV RX7 159 RX7 yX7_needFails wsX7_needFails) := goodIn_app (goodIn_of _ (by decide +kernel)) ggX7_leastBegin_X7_needFails
set_option maxRecDepth 20000 in
theorem ggX7_leastBegin_X9_leads : GoodIn wsX7_leastBegin wsX9_leads := goodIn_r _ [31, 32, 63, 64] (by decide +kernel) (by decide +kernel)
set_option maxRecDepth 20000 in
theorem gX7_leastBegin_X9_leads : GoodIn wsX7_leastBegin (wsV RX7 163 RX9 yX9_leads wsX9_leads) := goodIn_app (goodIn_of _ (by decide +kernel)) ggX7_leastBegin_X9_leads
set_option maxRecDepth 20000 in
theorem ggX7_leastBegin_X7_placeOutside : GoodIn wsX7_leastBegin wsX7_placeOutside := goodIn_r _ [36, 12, 15, 37, 38, 39, 40, 41, 42, 43, 44, 45, 46, 47, 48, 49, 50, 51, 52, 53, 54, 55, 56, 57, 58, 59, 60, 61, 62, 65, 66, 67, 68, 69, 70, 71] (by decide +kernel) (by decide +kernel)
set_option maxRecDepth 20000 in
theorem gX7_leastBegin_X7_placeOutside : GoodIn wsX7_leastBegin (wsV RX7 135 RX7 yX7_placeOutside wsX7_placeOutside) := goodIn_app (goodIn_of _ (by decide +kernel)) ggX7_leastBegin_X7_placeOutside
theorem dX7_leastBegin_0 : decode cX7_leastBegin 0 = .ok (.iload_n 3, 1) := by decide +kernel
theorem dX7_leastBegin_1 : decode cX7_leastBegin 1 = .ok (.istore 5, 2) := by decide +kernel
theorem dX7_leastBegin_3 : decode cX7_leastBegin 3 = .ok (.bipush 60, 2) := by decide +kernel
theorem dX7_leastBegin_5 : decode cX7_leastBegin 5 = .ok (.aload_n 0, 1) := by decide +kernel
theorem dX7_leastBegin_6 : decode cX7_leastBegin 6 = .ok (.getfield 62, 3) := by decide +kernel
theorem dX7_leastBegin_9 : decode cX7_leastBegin 9 = .ok (.iconst 1, 1) := by decide +kernel
theorem dX7_leastBegin_10 : decode cX7_leastBegin 10 = .ok (.isub, 1) := by decide +kernel
theorem dX7_leastBegin_11 : decode cX7_leastBegin 11 = .ok (.iload 4, 2) := by decide +kernel
theorem dX7_leastBegin_13 : decode cX7_leastBegin 13 = .ok (.isub, 1) := by decide +kernel
theorem dX7_leastBegin_14 : decode cX7_leastBegin 14 = .ok (.invokestatic 148, 3) := by decide +kernel
theorem dX7_leastBegin_17 : decode cX7_leastBegin 17 = .ok (.istore 6, 2) := by decide +kernel
theorem dX7_leastBegin_19 : decode cX7_leastBegin 19 = .ok (.aload_n 0, 1) := by decide +kernel
theorem dX7_leastBegin_20 : decode cX7_leastBegin 20 = .ok (.getfield 34, 3) := by decide +kernel
theorem dX7_leastBegin_23 : decode cX7_leastBegin 23 = .ok (.iload_n 1, 1) := by decide +kernel
theorem dX7_leastBegin_24 : decode cX7_leastBegin 24 = .ok (.iaload, 1) := by decide +kernel
theorem dX7_leastBegin_25 : decode cX7_leastBegin 25 = .ok (.iconst (-1), 1) := by decide +kernel
theorem dX7_leastBegin_26 : decode cX7_leastBegin 26 = .ok (.if_icmp .eq 53, 3) := by decide +kernel
theorem dX7_leastBegin_29 : decode cX7_leastBegin 29 = .ok (.iload 5, 2) := by decide +kernel
theorem dX7_leastBegin_31 : decode cX7_leastBegin 31 = .ok (.aload_n 0, 1) := by decide +kernel
theorem dX7_leastBegin_32 : decode cX7_leastBegin 32 = .ok (.getfield 34, 3) := by decide +kernel
theorem dX7_leastBegin_35 : decode cX7_leastBegin 35 = .ok (.iload_n 1, 1) := by decide +kernel
theorem dX7_leastBegin_36 : decode cX7_leastBegin 36 = .ok (.iaload, 1) := by decide +kernel
theorem dX7_leastBegin_37 : decode cX7_leastBegin 37 = .ok (.aload_n 0, 1) := by decide +kernel
theorem dX7_leastBegin_38 : decode cX7_leastBegin 38 = .ok (.getfield 28, 3) := by decide +kernel
theorem dX7_leastBegin_41 : decode cX7_leastBegin 41 = .ok (.iload_n 1, 1) := by decide +kernel
theorem dX7_leastBegin_42 : decode cX7_leastBegin 42 = .ok (.iaload, 1) := by decide +kernel
theorem dX7_leastBegin_43 : decode cX7_leastBegin 43 = .ok (.iadd, 1) := by decide +kernel
theorem dX7_leastBegin_44 : decode cX7_leastBegin 44 = .ok (.invokestatic 153, 3) := by decide +kernel
theorem dX7_leastBegin_47 : decode cX7_leastBegin 47 = .ok (.istore 5, 2) := by decide +kernel
theorem dX7_leastBegin_49 : decode cX7_leastBegin 49 = .ok (.iload 6, 2) := by decide +kernel
theorem dX7_leastBegin_51 : decode cX7_leastBegin 51 = .ok (.aload_n 0, 1) := by decide +kernel
theorem dX7_leastBegin_52 : decode cX7_leastBegin 52 = .ok (.getfield 34, 3) := by decide +kernel
theorem dX7_leastBegin_55 : decode cX7_leastBegin 55 = .ok (.iload_n 1, 1) := by decide +kernel
theorem dX7_leastBegin_56 : decode cX7_leastBegin 56 = .ok (.iaload, 1) := by decide +kernel
theorem dX7_leastBegin_57 : decode cX7_leastBegin 57 = .ok (.aload_n 0, 1) := by decide +kernel
theorem dX7_leastBegin_58 : decode cX7_leastBegin 58 = .ok (.getfield 21, 3) := by decide +kernel
theorem dX7_leastBegin_61 : decode cX7_leastBegin 61 = .ok (.iload_n 1, 1) := by decide +kernel
theorem dX7_leastBegin_62 : decode cX7_leastBegin 62 = .ok (.iaload, 1) := by decide +kernel
theorem dX7_leastBegin_63 : decode cX7_leastBegin 63 = .ok (.iadd, 1) := by decide +kernel
theorem dX7_leastBegin_64 : decode cX7_leastBegin 64 = .ok (.aload_n 0, 1) := by decide +kernel
theorem dX7_leastBegin_65 : decode cX7_leastBegin 65 = .ok (.getfield 43, 3) := by decide +kernel
theorem dX7_leastBegin_68 : decode cX7_leastBegin 68 = .ok (.getfield 156, 3) := by decide +kernel
theorem dX7_leastBegin_71 : decode cX7_leastBegin 71 = .ok (.iconst 2, 1) := by decide +kernel
theorem dX7_leastBegin_72 : decode cX7_leastBegin 72 = .ok (.iaload, 1) := by decide +kernel
theorem dX7_leastBegin_73 : decode cX7_leastBegin 73 = .ok (.iadd, 1) := by decide +kernel
theorem dX7_leastBegin_74 : decode cX7_leastBegin 74 = .ok (.invokestatic 148, 3) := by decide +kernel
theorem dX7_leastBegin_77 : decode cX7_leastBegin 77 = .ok (.istore 6, 2) := by decide +kernel
theorem dX7_leastBegin_79 : decode cX7_leastBegin 79 = .ok (.iload 5, 2) := by decide +kernel
theorem dX7_leastBegin_81 : decode cX7_leastBegin 81 = .ok (.istore 7, 2) := by decide +kernel
theorem dX7_leastBegin_83 : decode cX7_leastBegin 83 = .ok (.iload 5, 2) := by decide +kernel
theorem dX7_leastBegin_85 : decode cX7_leastBegin 85 = .ok (.istore 8, 2) := by decide +kernel
theorem dX7_leastBegin_87 : decode cX7_leastBegin 87 = .ok (.iload 5, 2) := by decide +kernel
theorem dX7_leastBegin_89 : decode cX7_leastBegin 89 = .ok (.istore 9, 2) := by decide +kernel
theorem dX7_leastBegin_91 : decode cX7_leastBegin 91 = .ok (.iload 9, 2) := by decide +kernel
theorem dX7_leastBegin_93 : decode cX7_leastBegin 93 = .ok (.iload 6, 2) := by decide +kernel
theorem dX7_leastBegin_95 : decode cX7_leastBegin 95 = .ok (.if_icmp .gt 93, 3) := by decide +kernel
theorem dX7_leastBegin_98 : decode cX7_leastBegin 98 = .ok (.iload 7, 2) := by decide +kernel
theorem dX7_leastBegin_100 : decode cX7_leastBegin 100 = .ok (.iload 9, 2) := by decide +kernel
theorem dX7_leastBegin_102 : decode cX7_leastBegin 102 = .ok (.aload_n 0, 1) := by decide +kernel
theorem dX7_leastBegin_103 : decode cX7_leastBegin 103 = .ok (.getfield 25, 3) := by decide +kernel
theorem dX7_leastBegin_106 : decode cX7_leastBegin 106 = .ok (.iload_n 1, 1) := by decide +kernel
theorem dX7_leastBegin_107 : decode cX7_leastBegin 107 = .ok (.iaload, 1) := by decide +kernel
theorem dX7_leastBegin_108 : decode cX7_leastBegin 108 = .ok (.iadd, 1) := by decide +kernel
theorem dX7_leastBegin_109 : decode cX7_leastBegin 109 = .ok (.if_icmp .ge 25, 3) := by decide +kernel
theorem dX7_leastBegin_112 : decode cX7_leastBegin 112 = .ok (.aload_n 0, 1) := by decide +kernel
theorem dX7_leastBegin_113 : decode cX7_leastBegin 113 = .ok (.iload 7, 2) := by decide +kernel
theorem dX7_leastBegin_115 : decode cX7_leastBegin 115 = .ok (.iload_n 1, 1) := by decide +kernel
theorem dX7_leastBegin_116 : decode cX7_leastBegin 116 = .ok (.invokevirtual 159, 3) := by decide +kernel
theorem dX7_leastBegin_119 : decode cX7_leastBegin 119 = .ok (.ifCond .eq 9, 3) := by decide +kernel
theorem dX7_leastBegin_122 : decode cX7_leastBegin 122 = .ok (.iload 7, 2) := by decide +kernel
theorem dX7_leastBegin_124 : decode cX7_leastBegin 124 = .ok (.iconst 1, 1) := by decide +kernel
theorem dX7_leastBegin_125 : decode cX7_leastBegin 125 = .ok (.iadd, 1) := by decide +kernel
theorem dX7_leastBegin_126 : decode cX7_leastBegin 126 = .ok (.istore 8, 2) := by decide +kernel
theorem dX7_leastBegin_128 : decode cX7_leastBegin 128 = .ok (.iinc 7 1, 3) := by decide +kernel
theorem dX7_leastBegin_131 : decode cX7_leastBegin 131 = .ok (.goto (-33), 3) := by decide +kernel
theorem dX7_leastBegin_134 : decode cX7_leastBegin 134 = .ok (.iload 9, 2) := by decide +kernel
theorem dX7_leastBegin_136 : decode cX7_leastBegin 136 = .ok (.iload 8, 2) := by decide +kernel
theorem dX7_leastBegin_138 : decode cX7_leastBegin 138 = .ok (.if_icmp .lt 44, 3) := by decide +kernel
theorem dX7_leastBegin_141 : decode cX7_leastBegin 141 = .ok (.aload_n 0, 1) := by decide +kernel
theorem dX7_leastBegin_142 : decode cX7_leastBegin 142 = .ok (.getfield 47, 3) := by decide +kernel
theorem dX7_leastBegin_145 : decode cX7_leastBegin 145 = .ok (.iload_n 2, 1) := by decide +kernel
theorem dX7_leastBegin_146 : decode cX7_leastBegin 146 = .ok (.iload_n 1, 1) := by decide +kernel
theorem dX7_leastBegin_147 : decode cX7_leastBegin 147 = .ok (.aload_n 0, 1) := by decide +kernel
theorem dX7_leastBegin_148 : decode cX7_leastBegin 148 = .ok (.getfield 37, 3) := by decide +kernel
theorem dX7_leastBegin_151 : decode cX7_leastBegin 151 = .ok (.iload 9, 2) := by decide +kernel
theorem dX7_leastBegin_153 : decode cX7_leastBegin 153 = .ok (.iaload, 1) := by decide +kernel
theorem dX7_leastBegin_154 : decode cX7_leastBegin 154 = .ok (.invokevirtual 163, 3) := by decide +kernel
theorem dX7_leastBegin_157 : decode cX7_leastBegin 157 = .ok (.ifCond .eq 25, 3) := by decide +kernel
theorem dX7_leastBegin_160 : decode cX7_leastBegin 160 = .ok (.aload_n 0, 1) := by decide +kernel
theorem dX7_leastBegin_161 : decode cX7_leastBegin 161 = .ok (.iload_n 1, 1) := by decide +kernel
theorem dX7_leastBegin_162 : decode cX7_leastBegin 162 = .ok (.iload 9, 2) := by decide +kernel
theorem dX7_leastBegin_164 : decode cX7_leastBegin 164 = .ok (.aload_n 0, 1) := by decide +kernel
theorem dX7_leastBegin_165 : decode cX7_leastBegin 165 = .ok (.getfield 21, 3) := by decide +kernel
theorem dX7_leastBegin_168 : decode cX7_leastBegin 168 = .ok (.iload_n 1, 1) := by decide +kernel
theorem dX7_leastBegin_169 : decode cX7_leastBegin 169 = .ok (.iaload, 1) := by decide +kernel
theorem dX7_leastBegin_170 : decode cX7_leastBegin 170 = .ok (.iadd, 1) := by decide +kernel
theorem dX7_leastBegin_171 : decode cX7_leastBegin 171 = .ok (.invokevirtual 135, 3) := by decide +kernel
theorem dX7_leastBegin_174 : decode cX7_leastBegin 174 = .ok (.bipush (-9), 2) := by decide +kernel
theorem dX7_leastBegin_176 : decode cX7_leastBegin 176 = .ok (.if_icmp .eq 6, 3) := by decide +kernel
theorem dX7_leastBegin_179 : decode cX7_leastBegin 179 = .ok (.iload 9, 2) := by decide +kernel
theorem dX7_leastBegin_181 : decode cX7_leastBegin 181 = .ok (.ireturn, 1) := by decide +kernel
theorem dX7_leastBegin_182 : decode cX7_leastBegin 182 = .ok (.iinc 9 1, 3) := by decide +kernel
theorem dX7_leastBegin_185 : decode cX7_leastBegin 185 = .ok (.goto (-94), 3) := by decide +kernel
theorem dX7_leastBegin_188 : decode cX7_leastBegin 188 = .ok (.bipush (-9), 2) := by decide +kernel
theorem dX7_leastBegin_190 : decode cX7_leastBegin 190 = .ok (.ireturn, 1) := by decide +kernel
set_option maxRecDepth 20000 in
theorem ggX7_needFails_X9_barredNeeds : GoodIn wsX7_needFails wsX9_barredNeeds := goodIn_r _ [8, 9, 24, 25] (by decide +kernel) (by decide +kernel)
set_option maxRecDepth 20000 in
theorem gX7_needFails_X9_barredNeeds : GoodIn wsX7_needFails (wsV RX7 115 RX9 yX9_barredNeeds wsX9_barredNeeds) := goodIn_app (goodIn_of _ (by decide +kernel)) ggX7_needFails_X9_barredNeeds
theorem dX7_needFails_0 : decode cX7_needFails 0 = .ok (.iload_n 1, 1) := by decide +kernel
theorem dX7_needFails_1 : decode cX7_needFails 1 = .ok (.bipush 99, 2) := by decide +kernel
theorem dX7_needFails_3 : decode cX7_needFails 3 = .ok (.if_icmp .gt 34, 3) := by decide +kernel
theorem dX7_needFails_6 : decode cX7_needFails 6 = .ok (.aload_n 0, 1) := by decide +kernel
theorem dX7_needFails_7 : decode cX7_needFails 7 = .ok (.getfield 47, 3) := by decide +kernel
theorem dX7_needFails_10 : decode cX7_needFails 10 = .ok (.aload_n 0, 1) := by decide +kernel
theorem dX7_needFails_11 : decode cX7_needFails 11 = .ok (.getfield 37, 3) := by decide +kernel
theorem dX7_needFails_14 : decode cX7_needFails 14 = .ok (.iload_n 1, 1) := by decide +kernel
theorem dX7_needFails_15 : decode cX7_needFails 15 = .ok (.iaload, 1) := by decide +kernel
theorem dX7_needFails_16 : decode cX7_needFails 16 = .ok (.iconst 1, 1) := by decide +kernel
theorem dX7_needFails_17 : decode cX7_needFails 17 = .ok (.iload_n 2, 1) := by decide +kernel
theorem dX7_needFails_18 : decode cX7_needFails 18 = .ok (.ishl, 1) := by decide +kernel
theorem dX7_needFails_19 : decode cX7_needFails 19 = .ok (.ior, 1) := by decide +kernel
theorem dX7_needFails_20 : decode cX7_needFails 20 = .ok (.invokevirtual 115, 3) := by decide +kernel
theorem dX7_needFails_23 : decode cX7_needFails 23 = .ok (.aload_n 0, 1) := by decide +kernel
theorem dX7_needFails_24 : decode cX7_needFails 24 = .ok (.getfield 40, 3) := by decide +kernel
theorem dX7_needFails_27 : decode cX7_needFails 27 = .ok (.iload_n 1, 1) := by decide +kernel
theorem dX7_needFails_28 : decode cX7_needFails 28 = .ok (.iaload, 1) := by decide +kernel
theorem dX7_needFails_29 : decode cX7_needFails 29 = .ok (.iand, 1) := by decide +kernel
theorem dX7_needFails_30 : decode cX7_needFails 30 = .ok (.ifCond .eq 7, 3) := by decide +kernel
theorem dX7_needFails_33 : decode cX7_needFails 33 = .ok (.iconst 1, 1) := by decide +kernel
theorem dX7_needFails_34 : decode cX7_needFails 34 = .ok (.goto 4, 3) := by decide +kernel
theorem dX7_needFails_37 : decode cX7_needFails 37 = .ok (.iconst 0, 1) := by decide +kernel
theorem dX7_needFails_38 : decode cX7_needFails 38 = .ok (.ireturn, 1) := by decide +kernel
set_option maxRecDepth 20000 in
theorem ggX7_placeOutside_X1_leastOpenBeside : GoodIn wsX7_placeOutside wsX1_leastOpenBeside := goodIn_r _ [7, 8, 9, 29, 30, 31, 32, 33, 34, 35] (by decide +kernel) (by decide +kernel)
set_option maxRecDepth 20000 in
theorem gX7_placeOutside_X1_leastOpenBeside : GoodIn wsX7_placeOutside (wsV RX7 167 RX1 yX1_leastOpenBeside wsX1_leastOpenBeside) := goodIn_app (goodIn_of _ (by decide +kernel)) ggX7_placeOutside_X1_leastOpenBeside
theorem dX7_placeOutside_0 : decode cX7_placeOutside 0 = .ok (.iload_n 2, 1) := by decide +kernel
theorem dX7_placeOutside_1 : decode cX7_placeOutside 1 = .ok (.bipush 99, 2) := by decide +kernel
theorem dX7_placeOutside_3 : decode cX7_placeOutside 3 = .ok (.if_icmp .le 8, 3) := by decide +kernel
theorem dX7_placeOutside_6 : decode cX7_placeOutside 6 = .ok (.bipush (-9), 2) := by decide +kernel
theorem dX7_placeOutside_8 : decode cX7_placeOutside 8 = .ok (.goto 20, 3) := by decide +kernel
theorem dX7_placeOutside_11 : decode cX7_placeOutside 11 = .ok (.aload_n 0, 1) := by decide +kernel
theorem dX7_placeOutside_12 : decode cX7_placeOutside 12 = .ok (.getfield 43, 3) := by decide +kernel
theorem dX7_placeOutside_15 : decode cX7_placeOutside 15 = .ok (.getfield 66, 3) := by decide +kernel
theorem dX7_placeOutside_18 : decode cX7_placeOutside 18 = .ok (.iload_n 1, 1) := by decide +kernel
theorem dX7_placeOutside_19 : decode cX7_placeOutside 19 = .ok (.aload_n 0, 1) := by decide +kernel
theorem dX7_placeOutside_20 : decode cX7_placeOutside 20 = .ok (.getfield 37, 3) := by decide +kernel
theorem dX7_placeOutside_23 : decode cX7_placeOutside 23 = .ok (.iload_n 2, 1) := by decide +kernel
theorem dX7_placeOutside_24 : decode cX7_placeOutside 24 = .ok (.iaload, 1) := by decide +kernel
theorem dX7_placeOutside_25 : decode cX7_placeOutside 25 = .ok (.invokevirtual 167, 3) := by decide +kernel
theorem dX7_placeOutside_28 : decode cX7_placeOutside 28 = .ok (.ireturn, 1) := by decide +kernel
theorem dX8_init_0 : decode cX8_init 0 = .ok (.aload_n 0, 1) := by decide +kernel
theorem dX8_init_1 : decode cX8_init 1 = .ok (.invokespecial 1, 3) := by decide +kernel
theorem dX8_init_4 : decode cX8_init 4 = .ok (.aload_n 0, 1) := by decide +kernel
theorem dX8_init_5 : decode cX8_init 5 = .ok (.bipush 48, 2) := by decide +kernel
theorem dX8_init_7 : decode cX8_init 7 = .ok (.newarray .int, 2) := by decide +kernel
theorem dX8_init_9 : decode cX8_init 9 = .ok (.putfield 9, 3) := by decide +kernel
theorem dX8_init_12 : decode cX8_init 12 = .ok (.return_, 1) := by decide +kernel
theorem dX8_hasRoomFor_0 : decode cX8_hasRoomFor 0 = .ok (.iload_n 1, 1) := by decide +kernel
theorem dX8_hasRoomFor_1 : decode cX8_hasRoomFor 1 = .ok (.bipush 48, 2) := by decide +kernel
theorem dX8_hasRoomFor_3 : decode cX8_hasRoomFor 3 = .ok (.aload_n 0, 1) := by decide +kernel
theorem dX8_hasRoomFor_4 : decode cX8_hasRoomFor 4 = .ok (.getfield 13, 3) := by decide +kernel
theorem dX8_hasRoomFor_7 : decode cX8_hasRoomFor 7 = .ok (.isub, 1) := by decide +kernel
theorem dX8_hasRoomFor_8 : decode cX8_hasRoomFor 8 = .ok (.if_icmp .gt 7, 3) := by decide +kernel
theorem dX8_hasRoomFor_11 : decode cX8_hasRoomFor 11 = .ok (.iconst 1, 1) := by decide +kernel
theorem dX8_hasRoomFor_12 : decode cX8_hasRoomFor 12 = .ok (.goto 4, 3) := by decide +kernel
theorem dX8_hasRoomFor_15 : decode cX8_hasRoomFor 15 = .ok (.iconst 0, 1) := by decide +kernel
theorem dX8_hasRoomFor_16 : decode cX8_hasRoomFor 16 = .ok (.ireturn, 1) := by decide +kernel
theorem dX8_append_0 : decode cX8_append 0 = .ok (.iconst 0, 1) := by decide +kernel
theorem dX8_append_1 : decode cX8_append 1 = .ok (.istore 4, 2) := by decide +kernel
theorem dX8_append_3 : decode cX8_append 3 = .ok (.iload 4, 2) := by decide +kernel
theorem dX8_append_5 : decode cX8_append 5 = .ok (.iload_n 1, 1) := by decide +kernel
theorem dX8_append_6 : decode cX8_append 6 = .ok (.if_icmp .ge 49, 3) := by decide +kernel
theorem dX8_append_9 : decode cX8_append 9 = .ok (.aload_n 0, 1) := by decide +kernel
theorem dX8_append_10 : decode cX8_append 10 = .ok (.getfield 13, 3) := by decide +kernel
theorem dX8_append_13 : decode cX8_append 13 = .ok (.bipush 48, 2) := by decide +kernel
theorem dX8_append_15 : decode cX8_append 15 = .ok (.if_icmp .ge 40, 3) := by decide +kernel
theorem dX8_append_18 : decode cX8_append 18 = .ok (.aload_n 0, 1) := by decide +kernel
theorem dX8_append_19 : decode cX8_append 19 = .ok (.getfield 9, 3) := by decide +kernel
theorem dX8_append_22 : decode cX8_append 22 = .ok (.aload_n 0, 1) := by decide +kernel
theorem dX8_append_23 : decode cX8_append 23 = .ok (.getfield 13, 3) := by decide +kernel
theorem dX8_append_26 : decode cX8_append 26 = .ok (.lload_n 2, 1) := by decide +kernel
theorem dX8_append_27 : decode cX8_append 27 = .ok (.bipush 8, 2) := by decide +kernel
theorem dX8_append_29 : decode cX8_append 29 = .ok (.iload 4, 2) := by decide +kernel
theorem dX8_append_31 : decode cX8_append 31 = .ok (.imul, 1) := by decide +kernel
theorem dX8_append_32 : decode cX8_append 32 = .ok (.lushr, 1) := by decide +kernel
theorem dX8_append_33 : decode cX8_append 33 = .ok (.l2i, 1) := by decide +kernel
theorem dX8_append_34 : decode cX8_append 34 = .ok (.sipush 255, 3) := by decide +kernel
theorem dX8_append_37 : decode cX8_append 37 = .ok (.iand, 1) := by decide +kernel
theorem dX8_append_38 : decode cX8_append 38 = .ok (.iastore, 1) := by decide +kernel
theorem dX8_append_39 : decode cX8_append 39 = .ok (.aload_n 0, 1) := by decide +kernel
theorem dX8_append_40 : decode cX8_append 40 = .ok (.dup, 1) := by decide +kernel
theorem dX8_append_41 : decode cX8_append 41 = .ok (.getfield 13, 3) := by decide +kernel
theorem dX8_append_44 : decode cX8_append 44 = .ok (.iconst 1, 1) := by decide +kernel
theorem dX8_append_45 : decode cX8_append 45 = .ok (.iadd, 1) := by decide +kernel
theorem dX8_append_46 : decode cX8_append 46 = .ok (.putfield 13, 3) := by decide +kernel
theorem dX8_append_49 : decode cX8_append 49 = .ok (.iinc 4 1, 3) := by decide +kernel
theorem dX8_append_52 : decode cX8_append 52 = .ok (.goto (-49), 3) := by decide +kernel
theorem dX8_append_55 : decode cX8_append 55 = .ok (.return_, 1) := by decide +kernel
theorem dX8_byteAt_0 : decode cX8_byteAt 0 = .ok (.iload_n 1, 1) := by decide +kernel
theorem dX8_byteAt_1 : decode cX8_byteAt 1 = .ok (.ifCond .lt 20, 3) := by decide +kernel
theorem dX8_byteAt_4 : decode cX8_byteAt 4 = .ok (.iload_n 1, 1) := by decide +kernel
theorem dX8_byteAt_5 : decode cX8_byteAt 5 = .ok (.aload_n 0, 1) := by decide +kernel
theorem dX8_byteAt_6 : decode cX8_byteAt 6 = .ok (.getfield 13, 3) := by decide +kernel
theorem dX8_byteAt_9 : decode cX8_byteAt 9 = .ok (.if_icmp .ge 12, 3) := by decide +kernel
theorem dX8_byteAt_12 : decode cX8_byteAt 12 = .ok (.aload_n 0, 1) := by decide +kernel
theorem dX8_byteAt_13 : decode cX8_byteAt 13 = .ok (.getfield 9, 3) := by decide +kernel
theorem dX8_byteAt_16 : decode cX8_byteAt 16 = .ok (.iload_n 1, 1) := by decide +kernel
theorem dX8_byteAt_17 : decode cX8_byteAt 17 = .ok (.iaload, 1) := by decide +kernel
theorem dX8_byteAt_18 : decode cX8_byteAt 18 = .ok (.goto 4, 3) := by decide +kernel
theorem dX8_byteAt_21 : decode cX8_byteAt 21 = .ok (.iconst (-1), 1) := by decide +kernel
theorem dX8_byteAt_22 : decode cX8_byteAt 22 = .ok (.ireturn, 1) := by decide +kernel
theorem dX8_size_0 : decode cX8_size 0 = .ok (.aload_n 0, 1) := by decide +kernel
theorem dX8_size_1 : decode cX8_size 1 = .ok (.getfield 13, 3) := by decide +kernel
theorem dX8_size_4 : decode cX8_size 4 = .ok (.ireturn, 1) := by decide +kernel
theorem dX8_empty_0 : decode cX8_empty 0 = .ok (.aload_n 0, 1) := by decide +kernel
theorem dX8_empty_1 : decode cX8_empty 1 = .ok (.iconst 0, 1) := by decide +kernel
theorem dX8_empty_2 : decode cX8_empty 2 = .ok (.putfield 13, 3) := by decide +kernel
theorem dX8_empty_5 : decode cX8_empty 5 = .ok (.return_, 1) := by decide +kernel
theorem dX9_init_0 : decode cX9_init 0 = .ok (.aload_n 0, 1) := by decide +kernel
theorem dX9_init_1 : decode cX9_init 1 = .ok (.invokespecial 5, 3) := by decide +kernel
theorem dX9_init_4 : decode cX9_init 4 = .ok (.aload_n 0, 1) := by decide +kernel
theorem dX9_init_5 : decode cX9_init 5 = .ok (.sipush 192, 3) := by decide +kernel
theorem dX9_init_8 : decode cX9_init 8 = .ok (.newarray .int, 2) := by decide +kernel
theorem dX9_init_10 : decode cX9_init 10 = .ok (.putfield 11, 3) := by decide +kernel
theorem dX9_init_13 : decode cX9_init 13 = .ok (.aload_n 0, 1) := by decide +kernel
theorem dX9_init_14 : decode cX9_init 14 = .ok (.bipush 32, 2) := by decide +kernel
theorem dX9_init_16 : decode cX9_init 16 = .ok (.newarray .int, 2) := by decide +kernel
theorem dX9_init_18 : decode cX9_init 18 = .ok (.putfield 15, 3) := by decide +kernel
theorem dX9_init_21 : decode cX9_init 21 = .ok (.return_, 1) := by decide +kernel
set_option maxRecDepth 20000 in
theorem ggX9_learn_X1_everyPlace : GoodIn wsX9_learn wsX1_everyPlace := goodIn_r _ [6, 7, 27, 28, 29, 30, 31, 32, 33] (by decide +kernel) (by decide +kernel)
set_option maxRecDepth 20000 in
theorem gX9_learn_X1_everyPlace : GoodIn wsX9_learn (wsV RX9 24 RX1 yX1_everyPlace wsX1_everyPlace) := goodIn_app (goodIn_of _ (by decide +kernel)) ggX9_learn_X1_everyPlace
set_option maxRecDepth 20000 in
theorem ggX9_learn_X9_learnDoors : GoodIn wsX9_learn wsX9_learnDoors := goodIn_r _ [12, 13, 27, 28, 29, 30, 31, 32, 33, 34, 35] (by decide +kernel) (by decide +kernel)
set_option maxRecDepth 20000 in
theorem gX9_learn_X9_learnDoors : GoodIn wsX9_learn (wsV RX9 28 RX9 yX9_learnDoors wsX9_learnDoors) := goodIn_app (goodIn_of _ (by decide +kernel)) ggX9_learn_X9_learnDoors
set_option maxRecDepth 20000 in
theorem ggX9_learn_X9_joinWays : GoodIn wsX9_learn wsX9_joinWays := goodIn_r _ [17, 13, 34, 35] (by decide +kernel) (by decide +kernel)
set_option maxRecDepth 20000 in
theorem gX9_learn_X9_joinWays : GoodIn wsX9_learn (wsV RX9 32 RX9 yX9_joinWays wsX9_joinWays) := goodIn_app (goodIn_of _ (by decide +kernel)) ggX9_learn_X9_joinWays
set_option maxRecDepth 20000 in
theorem ggX9_learn_X9_barredIn : GoodIn wsX9_learn wsX9_barredIn := goodIn_r _ [21, 13, 22, 23, 24, 5, 25, 26, 27, 28, 29, 30, 31, 32, 33, 34, 35] (by decide +kernel) (by decide +kernel)
set_option maxRecDepth 20000 in
theorem gX9_learn_X9_barredIn : GoodIn wsX9_learn (wsV RX9 36 RX9 yX9_barredIn wsX9_barredIn) := goodIn_app (goodIn_of _ (by decide +kernel)) ggX9_learn_X9_barredIn
theorem dX9_learn_0 : decode cX9_learn 0 = .ok (.iconst 1, 1) := by decide +kernel
theorem dX9_learn_1 : decode cX9_learn 1 = .ok (.aload_n 1, 1) := by decide +kernel
theorem dX9_learn_2 : decode cX9_learn 2 = .ok (.getfield 18, 3) := by decide +kernel
theorem dX9_learn_5 : decode cX9_learn 5 = .ok (.ishl, 1) := by decide +kernel
theorem dX9_learn_6 : decode cX9_learn 6 = .ok (.istore_n 2, 1) := by decide +kernel
theorem dX9_learn_7 : decode cX9_learn 7 = .ok (.iconst 0, 1) := by decide +kernel
theorem dX9_learn_8 : decode cX9_learn 8 = .ok (.istore_n 3, 1) := by decide +kernel
theorem dX9_learn_9 : decode cX9_learn 9 = .ok (.iload_n 3, 1) := by decide +kernel
theorem dX9_learn_10 : decode cX9_learn 10 = .ok (.iload_n 2, 1) := by decide +kernel
theorem dX9_learn_11 : decode cX9_learn 11 = .ok (.if_icmp .ge 61, 3) := by decide +kernel
theorem dX9_learn_14 : decode cX9_learn 14 = .ok (.iload_n 3, 1) := by decide +kernel
theorem dX9_learn_15 : decode cX9_learn 15 = .ok (.bipush 32, 2) := by decide +kernel
theorem dX9_learn_17 : decode cX9_learn 17 = .ok (.if_icmp .ge 55, 3) := by decide +kernel
theorem dX9_learn_20 : decode cX9_learn 20 = .ok (.iload_n 3, 1) := by decide +kernel
theorem dX9_learn_21 : decode cX9_learn 21 = .ok (.bipush 6, 2) := by decide +kernel
theorem dX9_learn_23 : decode cX9_learn 23 = .ok (.imul, 1) := by decide +kernel
theorem dX9_learn_24 : decode cX9_learn 24 = .ok (.istore 4, 2) := by decide +kernel
theorem dX9_learn_26 : decode cX9_learn 26 = .ok (.aload_n 0, 1) := by decide +kernel
theorem dX9_learn_27 : decode cX9_learn 27 = .ok (.aload_n 1, 1) := by decide +kernel
theorem dX9_learn_28 : decode cX9_learn 28 = .ok (.iload 4, 2) := by decide +kernel
theorem dX9_learn_30 : decode cX9_learn 30 = .ok (.aload_n 1, 1) := by decide +kernel
theorem dX9_learn_31 : decode cX9_learn 31 = .ok (.invokevirtual 24, 3) := by decide +kernel
theorem dX9_learn_34 : decode cX9_learn 34 = .ok (.iload_n 3, 1) := by decide +kernel
theorem dX9_learn_35 : decode cX9_learn 35 = .ok (.iconst 1, 1) := by decide +kernel
theorem dX9_learn_36 : decode cX9_learn 36 = .ok (.ishl, 1) := by decide +kernel
theorem dX9_learn_37 : decode cX9_learn 37 = .ok (.iconst (-1), 1) := by decide +kernel
theorem dX9_learn_38 : decode cX9_learn 38 = .ok (.ixor, 1) := by decide +kernel
theorem dX9_learn_39 : decode cX9_learn 39 = .ok (.iand, 1) := by decide +kernel
theorem dX9_learn_40 : decode cX9_learn 40 = .ok (.invokevirtual 28, 3) := by decide +kernel
theorem dX9_learn_43 : decode cX9_learn 43 = .ok (.aload_n 0, 1) := by decide +kernel
theorem dX9_learn_44 : decode cX9_learn 44 = .ok (.aload_n 1, 1) := by decide +kernel
theorem dX9_learn_45 : decode cX9_learn 45 = .ok (.getfield 18, 3) := by decide +kernel
theorem dX9_learn_48 : decode cX9_learn 48 = .ok (.iload 4, 2) := by decide +kernel
theorem dX9_learn_50 : decode cX9_learn 50 = .ok (.invokevirtual 32, 3) := by decide +kernel
theorem dX9_learn_53 : decode cX9_learn 53 = .ok (.aload_n 0, 1) := by decide +kernel
theorem dX9_learn_54 : decode cX9_learn 54 = .ok (.getfield 15, 3) := by decide +kernel
theorem dX9_learn_57 : decode cX9_learn 57 = .ok (.iload_n 3, 1) := by decide +kernel
theorem dX9_learn_58 : decode cX9_learn 58 = .ok (.aload_n 0, 1) := by decide +kernel
theorem dX9_learn_59 : decode cX9_learn 59 = .ok (.aload_n 1, 1) := by decide +kernel
theorem dX9_learn_60 : decode cX9_learn 60 = .ok (.iload 4, 2) := by decide +kernel
theorem dX9_learn_62 : decode cX9_learn 62 = .ok (.invokevirtual 36, 3) := by decide +kernel
theorem dX9_learn_65 : decode cX9_learn 65 = .ok (.iastore, 1) := by decide +kernel
theorem dX9_learn_66 : decode cX9_learn 66 = .ok (.iinc 3 1, 3) := by decide +kernel
theorem dX9_learn_69 : decode cX9_learn 69 = .ok (.goto (-60), 3) := by decide +kernel
theorem dX9_learn_72 : decode cX9_learn 72 = .ok (.return_, 1) := by decide +kernel
theorem dX9_learnDoors_0 : decode cX9_learnDoors 0 = .ok (.iconst 0, 1) := by decide +kernel
theorem dX9_learnDoors_1 : decode cX9_learnDoors 1 = .ok (.istore 4, 2) := by decide +kernel
theorem dX9_learnDoors_3 : decode cX9_learnDoors 3 = .ok (.iload 4, 2) := by decide +kernel
theorem dX9_learnDoors_5 : decode cX9_learnDoors 5 = .ok (.aload_n 1, 1) := by decide +kernel
theorem dX9_learnDoors_6 : decode cX9_learnDoors 6 = .ok (.getfield 18, 3) := by decide +kernel
theorem dX9_learnDoors_9 : decode cX9_learnDoors 9 = .ok (.if_icmp .gt 57, 3) := by decide +kernel
theorem dX9_learnDoors_12 : decode cX9_learnDoors 12 = .ok (.iload_n 3, 1) := by decide +kernel
