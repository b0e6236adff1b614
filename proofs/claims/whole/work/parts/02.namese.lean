theorem dX11_isLate_65 : decode cX11_isLate 65 = .ok (.ireturn, 1) := by decide +kernel
set_option maxRecDepth 20000 in
theorem ggX11_isWrong_X11_whereOf : GoodIn wsX11_isWrong wsX11_whereOf := goodIn_r _ [6, 7, 8, 9, 5, 10, 1, 11, 12, 13, 14, 15, 16, 17, 18, 19, 20, 21, 22, 23, 24, 25, 26, 27, 28, 29, 30, 31, 32, 33, 34, 55, 56, 57, 58, 59, 60, 61, 62, 63, 64, 65, 66, 67, 68, 69, 70, 71, 72, 73] (by decide +kernel) (by decide +kernel)
set_option maxRecDepth 20000 in
theorem gX11_isWrong_X11_whereOf : GoodIn wsX11_isWrong (wsV RX11 135 RX11 yX11_whereOf wsX11_whereOf) := goodIn_app (goodIn_of _ (by decide +kernel)) ggX11_isWrong_X11_whereOf
set_option maxRecDepth 20000 in
theorem ggX11_isWrong_X11_roomOf : GoodIn wsX11_isWrong wsX11_roomOf := goodIn_r _ [14, 1, 55, 56, 57, 58, 59, 60, 61, 62, 63, 64, 65, 66, 67, 68, 69, 70, 71, 72, 73] (by decide +kernel) (by decide +kernel)
set_option maxRecDepth 20000 in
theorem gX11_isWrong_X11_roomOf : GoodIn wsX11_isWrong (wsV RX11 113 RX11 yX11_roomOf wsX11_roomOf) := goodIn_app (goodIn_of _ (by decide +kernel)) ggX11_isWrong_X11_roomOf
set_option maxRecDepth 20000 in
theorem ggX11_isWrong_X11_hourOf : GoodIn wsX11_isWrong wsX11_hourOf := goodIn_r _ [26, 1, 55, 56, 57, 58, 59, 60, 61, 62, 63, 64, 65, 66, 67, 68, 69, 70, 71, 72, 73] (by decide +kernel) (by decide +kernel)
set_option maxRecDepth 20000 in
theorem gX11_isWrong_X11_hourOf : GoodIn wsX11_isWrong (wsV RX11 110 RX11 yX11_hourOf wsX11_hourOf) := goodIn_app (goodIn_of _ (by decide +kernel)) ggX11_isWrong_X11_hourOf
set_option maxRecDepth 20000 in
theorem ggX11_isWrong_X11_openAt : GoodIn wsX11_isWrong wsX11_openAt := goodIn_r _ [30, 1, 23, 24, 25, 5, 26, 19, 20, 21, 22, 11, 12, 13, 14, 31, 32, 33, 34, 55, 56, 57, 58, 59, 60, 61, 62, 63, 64, 65, 66, 67, 68, 69, 70, 71, 72, 73] (by decide +kernel) (by decide +kernel)
set_option maxRecDepth 20000 in
theorem gX11_isWrong_X11_openAt : GoodIn wsX11_isWrong (wsV RX11 131 RX11 yX11_openAt wsX11_openAt) := goodIn_app (goodIn_of _ (by decide +kernel)) ggX11_isWrong_X11_openAt
set_option maxRecDepth 20000 in
theorem ggX11_isWrong_X11_comesTo : GoodIn wsX11_isWrong wsX11_comesTo := goodIn_r _ [38, 39, 40, 41, 5, 42, 1, 15, 16, 17, 18, 55, 56, 57, 58, 59, 60, 61, 62, 63, 64, 65, 66, 67, 68, 69, 70, 71, 72, 73] (by decide +kernel) (by decide +kernel)
set_option maxRecDepth 20000 in
theorem gX11_isWrong_X11_comesTo : GoodIn wsX11_isWrong (wsV RX11 138 RX11 yX11_comesTo wsX11_comesTo) := goodIn_app (goodIn_of _ (by decide +kernel)) ggX11_isWrong_X11_comesTo
set_option maxRecDepth 20000 in
theorem ggX11_isWrong_X11_isFresh : GoodIn wsX11_isWrong wsX11_isFresh := goodIn_r _ [46, 1, 11, 12, 13, 5, 14, 23, 24, 25, 26, 19, 20, 21, 22, 55, 56, 57, 58, 59, 60, 61, 62, 63, 64, 65, 66, 67, 68, 69, 70, 71, 72, 73] (by decide +kernel) (by decide +kernel)
set_option maxRecDepth 20000 in
theorem gX11_isWrong_X11_isFresh : GoodIn wsX11_isWrong (wsV RX11 142 RX11 yX11_isFresh wsX11_isFresh) := goodIn_app (goodIn_of _ (by decide +kernel)) ggX11_isWrong_X11_isFresh
set_option maxRecDepth 20000 in
theorem ggX11_isWrong_X11_isLate : GoodIn wsX11_isWrong wsX11_isLate := goodIn_r _ [50, 1, 11, 12, 13, 5, 14, 23, 24, 25, 26, 19, 20, 21, 22, 55, 56, 57, 58, 59, 60, 61, 62, 63, 64, 65, 66, 67, 68, 69, 70, 71, 72, 73] (by decide +kernel) (by decide +kernel)
set_option maxRecDepth 20000 in
theorem gX11_isWrong_X11_isLate : GoodIn wsX11_isWrong (wsV RX11 145 RX11 yX11_isLate wsX11_isLate) := goodIn_app (goodIn_of _ (by decide +kernel)) ggX11_isWrong_X11_isLate
set_option maxRecDepth 20000 in
theorem ggX11_isWrong_X11_endOf : GoodIn wsX11_isWrong wsX11_endOf := goodIn_r _ [22, 1, 23, 24, 25, 5, 26, 11, 12, 13, 14, 55, 56, 57, 58, 59, 60, 61, 62, 63, 64, 65, 66, 67, 68, 69, 70, 71, 72, 73] (by decide +kernel) (by decide +kernel)
set_option maxRecDepth 20000 in
theorem gX11_isWrong_X11_endOf : GoodIn wsX11_isWrong (wsV RX11 116 RX11 yX11_endOf wsX11_endOf) := goodIn_app (goodIn_of _ (by decide +kernel)) ggX11_isWrong_X11_endOf
set_option maxRecDepth 20000 in
theorem ggX11_isWrong_X11_coatsOf : GoodIn wsX11_isWrong wsX11_coatsOf := goodIn_r _ [54, 11, 12, 13, 5, 14, 1, 55, 56, 57, 58, 59, 60, 61, 62, 63, 64, 65, 66, 67, 68, 69, 70, 71, 72, 73] (by decide +kernel) (by decide +kernel)
set_option maxRecDepth 20000 in
theorem gX11_isWrong_X11_coatsOf : GoodIn wsX11_isWrong (wsV RX11 148 RX11 yX11_coatsOf wsX11_coatsOf) := goodIn_app (goodIn_of _ (by decide +kernel)) ggX11_isWrong_X11_coatsOf
theorem dX11_isWrong_0 : decode cX11_isWrong 0 = .ok (.iload_n 2, 1) := by decide +kernel
theorem dX11_isWrong_1 : decode cX11_isWrong 1 = .ok (.tableswitch 119 1 6 #[39, 119, 119, 72, 88, 94], 39) := by decide +kernel
theorem dX11_isWrong_40 : decode cX11_isWrong 40 = .ok (.aload_n 0, 1) := by decide +kernel
theorem dX11_isWrong_41 : decode cX11_isWrong 41 = .ok (.aload_n 0, 1) := by decide +kernel
theorem dX11_isWrong_42 : decode cX11_isWrong 42 = .ok (.iload_n 1, 1) := by decide +kernel
theorem dX11_isWrong_43 : decode cX11_isWrong 43 = .ok (.invokevirtual 135, 3) := by decide +kernel
theorem dX11_isWrong_46 : decode cX11_isWrong 46 = .ok (.aload_n 0, 1) := by decide +kernel
theorem dX11_isWrong_47 : decode cX11_isWrong 47 = .ok (.iload_n 1, 1) := by decide +kernel
theorem dX11_isWrong_48 : decode cX11_isWrong 48 = .ok (.invokevirtual 113, 3) := by decide +kernel
theorem dX11_isWrong_51 : decode cX11_isWrong 51 = .ok (.aload_n 0, 1) := by decide +kernel
theorem dX11_isWrong_52 : decode cX11_isWrong 52 = .ok (.aload_n 0, 1) := by decide +kernel
theorem dX11_isWrong_53 : decode cX11_isWrong 53 = .ok (.iload_n 1, 1) := by decide +kernel
theorem dX11_isWrong_54 : decode cX11_isWrong 54 = .ok (.invokevirtual 110, 3) := by decide +kernel
theorem dX11_isWrong_57 : decode cX11_isWrong 57 = .ok (.iload_n 1, 1) := by decide +kernel
theorem dX11_isWrong_58 : decode cX11_isWrong 58 = .ok (.invokevirtual 131, 3) := by decide +kernel
theorem dX11_isWrong_61 : decode cX11_isWrong 61 = .ok (.invokevirtual 138, 3) := by decide +kernel
theorem dX11_isWrong_64 : decode cX11_isWrong 64 = .ok (.ifCond .ne 7, 3) := by decide +kernel
theorem dX11_isWrong_67 : decode cX11_isWrong 67 = .ok (.iconst 1, 1) := by decide +kernel
theorem dX11_isWrong_68 : decode cX11_isWrong 68 = .ok (.goto 4, 3) := by decide +kernel
theorem dX11_isWrong_71 : decode cX11_isWrong 71 = .ok (.iconst 0, 1) := by decide +kernel
theorem dX11_isWrong_72 : decode cX11_isWrong 72 = .ok (.ireturn, 1) := by decide +kernel
theorem dX11_isWrong_73 : decode cX11_isWrong 73 = .ok (.aload_n 0, 1) := by decide +kernel
theorem dX11_isWrong_74 : decode cX11_isWrong 74 = .ok (.aload_n 0, 1) := by decide +kernel
theorem dX11_isWrong_75 : decode cX11_isWrong 75 = .ok (.iload_n 1, 1) := by decide +kernel
theorem dX11_isWrong_76 : decode cX11_isWrong 76 = .ok (.invokevirtual 113, 3) := by decide +kernel
theorem dX11_isWrong_79 : decode cX11_isWrong 79 = .ok (.aload_n 0, 1) := by decide +kernel
theorem dX11_isWrong_80 : decode cX11_isWrong 80 = .ok (.iload_n 1, 1) := by decide +kernel
theorem dX11_isWrong_81 : decode cX11_isWrong 81 = .ok (.invokevirtual 110, 3) := by decide +kernel
theorem dX11_isWrong_84 : decode cX11_isWrong 84 = .ok (.iload_n 1, 1) := by decide +kernel
theorem dX11_isWrong_85 : decode cX11_isWrong 85 = .ok (.invokevirtual 142, 3) := by decide +kernel
theorem dX11_isWrong_88 : decode cX11_isWrong 88 = .ok (.ireturn, 1) := by decide +kernel
theorem dX11_isWrong_89 : decode cX11_isWrong 89 = .ok (.aload_n 0, 1) := by decide +kernel
theorem dX11_isWrong_90 : decode cX11_isWrong 90 = .ok (.iload_n 1, 1) := by decide +kernel
theorem dX11_isWrong_91 : decode cX11_isWrong 91 = .ok (.invokevirtual 145, 3) := by decide +kernel
theorem dX11_isWrong_94 : decode cX11_isWrong 94 = .ok (.ireturn, 1) := by decide +kernel
theorem dX11_isWrong_95 : decode cX11_isWrong 95 = .ok (.iload_n 1, 1) := by decide +kernel
theorem dX11_isWrong_96 : decode cX11_isWrong 96 = .ok (.ifCond .le 22, 3) := by decide +kernel
theorem dX11_isWrong_99 : decode cX11_isWrong 99 = .ok (.aload_n 0, 1) := by decide +kernel
theorem dX11_isWrong_100 : decode cX11_isWrong 100 = .ok (.iload_n 1, 1) := by decide +kernel
theorem dX11_isWrong_101 : decode cX11_isWrong 101 = .ok (.invokevirtual 110, 3) := by decide +kernel
theorem dX11_isWrong_104 : decode cX11_isWrong 104 = .ok (.aload_n 0, 1) := by decide +kernel
theorem dX11_isWrong_105 : decode cX11_isWrong 105 = .ok (.iload_n 1, 1) := by decide +kernel
theorem dX11_isWrong_106 : decode cX11_isWrong 106 = .ok (.iconst 1, 1) := by decide +kernel
theorem dX11_isWrong_107 : decode cX11_isWrong 107 = .ok (.isub, 1) := by decide +kernel
theorem dX11_isWrong_108 : decode cX11_isWrong 108 = .ok (.invokevirtual 116, 3) := by decide +kernel
theorem dX11_isWrong_111 : decode cX11_isWrong 111 = .ok (.if_icmp .ge 7, 3) := by decide +kernel
theorem dX11_isWrong_114 : decode cX11_isWrong 114 = .ok (.iconst 1, 1) := by decide +kernel
theorem dX11_isWrong_115 : decode cX11_isWrong 115 = .ok (.goto 4, 3) := by decide +kernel
theorem dX11_isWrong_118 : decode cX11_isWrong 118 = .ok (.iconst 0, 1) := by decide +kernel
theorem dX11_isWrong_119 : decode cX11_isWrong 119 = .ok (.ireturn, 1) := by decide +kernel
theorem dX11_isWrong_120 : decode cX11_isWrong 120 = .ok (.aload_n 0, 1) := by decide +kernel
theorem dX11_isWrong_121 : decode cX11_isWrong 121 = .ok (.aload_n 0, 1) := by decide +kernel
theorem dX11_isWrong_122 : decode cX11_isWrong 122 = .ok (.iload_n 1, 1) := by decide +kernel
theorem dX11_isWrong_123 : decode cX11_isWrong 123 = .ok (.invokevirtual 113, 3) := by decide +kernel
theorem dX11_isWrong_126 : decode cX11_isWrong 126 = .ok (.iload_n 1, 1) := by decide +kernel
theorem dX11_isWrong_127 : decode cX11_isWrong 127 = .ok (.invokevirtual 148, 3) := by decide +kernel
theorem dX11_isWrong_130 : decode cX11_isWrong 130 = .ok (.aload_n 0, 1) := by decide +kernel
theorem dX11_isWrong_131 : decode cX11_isWrong 131 = .ok (.getfield 13, 3) := by decide +kernel
theorem dX11_isWrong_134 : decode cX11_isWrong 134 = .ok (.bipush 15, 2) := by decide +kernel
theorem dX11_isWrong_136 : decode cX11_isWrong 136 = .ok (.aload_n 0, 1) := by decide +kernel
theorem dX11_isWrong_137 : decode cX11_isWrong 137 = .ok (.iload_n 1, 1) := by decide +kernel
theorem dX11_isWrong_138 : decode cX11_isWrong 138 = .ok (.invokevirtual 113, 3) := by decide +kernel
theorem dX11_isWrong_141 : decode cX11_isWrong 141 = .ok (.iadd, 1) := by decide +kernel
theorem dX11_isWrong_142 : decode cX11_isWrong 142 = .ok (.iaload, 1) := by decide +kernel
theorem dX11_isWrong_143 : decode cX11_isWrong 143 = .ok (.if_icmp .lt 7, 3) := by decide +kernel
theorem dX11_isWrong_146 : decode cX11_isWrong 146 = .ok (.iconst 1, 1) := by decide +kernel
theorem dX11_isWrong_147 : decode cX11_isWrong 147 = .ok (.goto 4, 3) := by decide +kernel
theorem dX11_isWrong_150 : decode cX11_isWrong 150 = .ok (.iconst 0, 1) := by decide +kernel
theorem dX11_isWrong_151 : decode cX11_isWrong 151 = .ok (.ireturn, 1) := by decide +kernel
set_option maxRecDepth 20000 in
theorem ggX11_findMet_X11_comesTo : GoodIn wsX11_findMet wsX11_comesTo := goodIn_r _ [7, 8, 9, 10, 6, 11, 2, 12, 13, 14, 15, 16, 17, 18, 19, 20, 21, 22, 23, 24, 25, 26, 27, 28, 29, 30, 31, 32, 33, 34] (by decide +kernel) (by decide +kernel)
set_option maxRecDepth 20000 in
theorem gX11_findMet_X11_comesTo : GoodIn wsX11_findMet (wsV RX11 138 RX11 yX11_comesTo wsX11_comesTo) := goodIn_app (goodIn_of _ (by decide +kernel)) ggX11_findMet_X11_comesTo
theorem dX11_findMet_0 : decode cX11_findMet 0 = .ok (.iconst 0, 1) := by decide +kernel
theorem dX11_findMet_1 : decode cX11_findMet 1 = .ok (.istore_n 1, 1) := by decide +kernel
theorem dX11_findMet_2 : decode cX11_findMet 2 = .ok (.iload_n 1, 1) := by decide +kernel
theorem dX11_findMet_3 : decode cX11_findMet 3 = .ok (.bipush 64, 2) := by decide +kernel
theorem dX11_findMet_5 : decode cX11_findMet 5 = .ok (.if_icmp .ge 82, 3) := by decide +kernel
theorem dX11_findMet_8 : decode cX11_findMet 8 = .ok (.aload_n 0, 1) := by decide +kernel
theorem dX11_findMet_9 : decode cX11_findMet 9 = .ok (.getfield 28, 3) := by decide +kernel
theorem dX11_findMet_12 : decode cX11_findMet 12 = .ok (.iload_n 1, 1) := by decide +kernel
theorem dX11_findMet_13 : decode cX11_findMet 13 = .ok (.iconst 0, 1) := by decide +kernel
theorem dX11_findMet_14 : decode cX11_findMet 14 = .ok (.iastore, 1) := by decide +kernel
theorem dX11_findMet_15 : decode cX11_findMet 15 = .ok (.iconst 0, 1) := by decide +kernel
theorem dX11_findMet_16 : decode cX11_findMet 16 = .ok (.istore_n 2, 1) := by decide +kernel
theorem dX11_findMet_17 : decode cX11_findMet 17 = .ok (.iload_n 2, 1) := by decide +kernel
theorem dX11_findMet_18 : decode cX11_findMet 18 = .ok (.aload_n 0, 1) := by decide +kernel
theorem dX11_findMet_19 : decode cX11_findMet 19 = .ok (.getfield 13, 3) := by decide +kernel
theorem dX11_findMet_22 : decode cX11_findMet 22 = .ok (.iconst 2, 1) := by decide +kernel
theorem dX11_findMet_23 : decode cX11_findMet 23 = .ok (.iaload, 1) := by decide +kernel
theorem dX11_findMet_24 : decode cX11_findMet 24 = .ok (.if_icmp .ge 57, 3) := by decide +kernel
theorem dX11_findMet_27 : decode cX11_findMet 27 = .ok (.aload_n 0, 1) := by decide +kernel
theorem dX11_findMet_28 : decode cX11_findMet 28 = .ok (.getfield 28, 3) := by decide +kernel
theorem dX11_findMet_31 : decode cX11_findMet 31 = .ok (.iload_n 1, 1) := by decide +kernel
theorem dX11_findMet_32 : decode cX11_findMet 32 = .ok (.dup2, 1) := by decide +kernel
theorem dX11_findMet_33 : decode cX11_findMet 33 = .ok (.iaload, 1) := by decide +kernel
theorem dX11_findMet_34 : decode cX11_findMet 34 = .ok (.aload_n 0, 1) := by decide +kernel
theorem dX11_findMet_35 : decode cX11_findMet 35 = .ok (.aload_n 0, 1) := by decide +kernel
theorem dX11_findMet_36 : decode cX11_findMet 36 = .ok (.getfield 13, 3) := by decide +kernel
theorem dX11_findMet_39 : decode cX11_findMet 39 = .ok (.bipush 45, 2) := by decide +kernel
theorem dX11_findMet_41 : decode cX11_findMet 41 = .ok (.iconst 4, 1) := by decide +kernel
theorem dX11_findMet_42 : decode cX11_findMet 42 = .ok (.iload_n 2, 1) := by decide +kernel
theorem dX11_findMet_43 : decode cX11_findMet 43 = .ok (.imul, 1) := by decide +kernel
theorem dX11_findMet_44 : decode cX11_findMet 44 = .ok (.iadd, 1) := by decide +kernel
theorem dX11_findMet_45 : decode cX11_findMet 45 = .ok (.iaload, 1) := by decide +kernel
theorem dX11_findMet_46 : decode cX11_findMet 46 = .ok (.aload_n 0, 1) := by decide +kernel
theorem dX11_findMet_47 : decode cX11_findMet 47 = .ok (.getfield 13, 3) := by decide +kernel
theorem dX11_findMet_50 : decode cX11_findMet 50 = .ok (.bipush 45, 2) := by decide +kernel
theorem dX11_findMet_52 : decode cX11_findMet 52 = .ok (.iconst 4, 1) := by decide +kernel
theorem dX11_findMet_53 : decode cX11_findMet 53 = .ok (.iload_n 2, 1) := by decide +kernel
theorem dX11_findMet_54 : decode cX11_findMet 54 = .ok (.imul, 1) := by decide +kernel
theorem dX11_findMet_55 : decode cX11_findMet 55 = .ok (.iadd, 1) := by decide +kernel
theorem dX11_findMet_56 : decode cX11_findMet 56 = .ok (.iconst 1, 1) := by decide +kernel
theorem dX11_findMet_57 : decode cX11_findMet 57 = .ok (.iadd, 1) := by decide +kernel
theorem dX11_findMet_58 : decode cX11_findMet 58 = .ok (.iaload, 1) := by decide +kernel
theorem dX11_findMet_59 : decode cX11_findMet 59 = .ok (.iload_n 1, 1) := by decide +kernel
theorem dX11_findMet_60 : decode cX11_findMet 60 = .ok (.invokevirtual 138, 3) := by decide +kernel
theorem dX11_findMet_63 : decode cX11_findMet 63 = .ok (.ifCond .eq 9, 3) := by decide +kernel
theorem dX11_findMet_66 : decode cX11_findMet 66 = .ok (.iconst 1, 1) := by decide +kernel
theorem dX11_findMet_67 : decode cX11_findMet 67 = .ok (.iload_n 2, 1) := by decide +kernel
theorem dX11_findMet_68 : decode cX11_findMet 68 = .ok (.ishl, 1) := by decide +kernel
theorem dX11_findMet_69 : decode cX11_findMet 69 = .ok (.goto 4, 3) := by decide +kernel
theorem dX11_findMet_72 : decode cX11_findMet 72 = .ok (.iconst 0, 1) := by decide +kernel
theorem dX11_findMet_73 : decode cX11_findMet 73 = .ok (.ior, 1) := by decide +kernel
theorem dX11_findMet_74 : decode cX11_findMet 74 = .ok (.iastore, 1) := by decide +kernel
theorem dX11_findMet_75 : decode cX11_findMet 75 = .ok (.iinc 2 1, 3) := by decide +kernel
theorem dX11_findMet_78 : decode cX11_findMet 78 = .ok (.goto (-61), 3) := by decide +kernel
theorem dX11_findMet_81 : decode cX11_findMet 81 = .ok (.iinc 1 1, 3) := by decide +kernel
theorem dX11_findMet_84 : decode cX11_findMet 84 = .ok (.goto (-82), 3) := by decide +kernel
theorem dX11_findMet_87 : decode cX11_findMet 87 = .ok (.return_, 1) := by decide +kernel
theorem dX11_needsAt_0 : decode cX11_needsAt 0 = .ok (.iconst 0, 1) := by decide +kernel
theorem dX11_needsAt_1 : decode cX11_needsAt 1 = .ok (.istore_n 2, 1) := by decide +kernel
theorem dX11_needsAt_2 : decode cX11_needsAt 2 = .ok (.iconst 0, 1) := by decide +kernel
theorem dX11_needsAt_3 : decode cX11_needsAt 3 = .ok (.istore_n 3, 1) := by decide +kernel
theorem dX11_needsAt_4 : decode cX11_needsAt 4 = .ok (.iload_n 3, 1) := by decide +kernel
theorem dX11_needsAt_5 : decode cX11_needsAt 5 = .ok (.aload_n 0, 1) := by decide +kernel
theorem dX11_needsAt_6 : decode cX11_needsAt 6 = .ok (.getfield 13, 3) := by decide +kernel
theorem dX11_needsAt_9 : decode cX11_needsAt 9 = .ok (.iconst 2, 1) := by decide +kernel
theorem dX11_needsAt_10 : decode cX11_needsAt 10 = .ok (.iaload, 1) := by decide +kernel
theorem dX11_needsAt_11 : decode cX11_needsAt 11 = .ok (.if_icmp .ge 53, 3) := by decide +kernel
theorem dX11_needsAt_14 : decode cX11_needsAt 14 = .ok (.iload_n 2, 1) := by decide +kernel
theorem dX11_needsAt_15 : decode cX11_needsAt 15 = .ok (.iload_n 1, 1) := by decide +kernel
theorem dX11_needsAt_16 : decode cX11_needsAt 16 = .ok (.aload_n 0, 1) := by decide +kernel
theorem dX11_needsAt_17 : decode cX11_needsAt 17 = .ok (.getfield 13, 3) := by decide +kernel
theorem dX11_needsAt_20 : decode cX11_needsAt 20 = .ok (.bipush 45, 2) := by decide +kernel
theorem dX11_needsAt_22 : decode cX11_needsAt 22 = .ok (.iconst 4, 1) := by decide +kernel
theorem dX11_needsAt_23 : decode cX11_needsAt 23 = .ok (.iload_n 3, 1) := by decide +kernel
theorem dX11_needsAt_24 : decode cX11_needsAt 24 = .ok (.imul, 1) := by decide +kernel
theorem dX11_needsAt_25 : decode cX11_needsAt 25 = .ok (.iadd, 1) := by decide +kernel
theorem dX11_needsAt_26 : decode cX11_needsAt 26 = .ok (.iconst 2, 1) := by decide +kernel
theorem dX11_needsAt_27 : decode cX11_needsAt 27 = .ok (.iadd, 1) := by decide +kernel
theorem dX11_needsAt_28 : decode cX11_needsAt 28 = .ok (.iaload, 1) := by decide +kernel
theorem dX11_needsAt_29 : decode cX11_needsAt 29 = .ok (.if_icmp .lt 26, 3) := by decide +kernel
theorem dX11_needsAt_32 : decode cX11_needsAt 32 = .ok (.iload_n 1, 1) := by decide +kernel
theorem dX11_needsAt_33 : decode cX11_needsAt 33 = .ok (.aload_n 0, 1) := by decide +kernel
theorem dX11_needsAt_34 : decode cX11_needsAt 34 = .ok (.getfield 13, 3) := by decide +kernel
theorem dX11_needsAt_37 : decode cX11_needsAt 37 = .ok (.bipush 45, 2) := by decide +kernel
theorem dX11_needsAt_39 : decode cX11_needsAt 39 = .ok (.iconst 4, 1) := by decide +kernel
theorem dX11_needsAt_40 : decode cX11_needsAt 40 = .ok (.iload_n 3, 1) := by decide +kernel
theorem dX11_needsAt_41 : decode cX11_needsAt 41 = .ok (.imul, 1) := by decide +kernel
theorem dX11_needsAt_42 : decode cX11_needsAt 42 = .ok (.iadd, 1) := by decide +kernel
theorem dX11_needsAt_43 : decode cX11_needsAt 43 = .ok (.iconst 3, 1) := by decide +kernel
theorem dX11_needsAt_44 : decode cX11_needsAt 44 = .ok (.iadd, 1) := by decide +kernel
theorem dX11_needsAt_45 : decode cX11_needsAt 45 = .ok (.iaload, 1) := by decide +kernel
theorem dX11_needsAt_46 : decode cX11_needsAt 46 = .ok (.if_icmp .gt 9, 3) := by decide +kernel
theorem dX11_needsAt_49 : decode cX11_needsAt 49 = .ok (.iconst 1, 1) := by decide +kernel
theorem dX11_needsAt_50 : decode cX11_needsAt 50 = .ok (.iload_n 3, 1) := by decide +kernel
theorem dX11_needsAt_51 : decode cX11_needsAt 51 = .ok (.ishl, 1) := by decide +kernel
theorem dX11_needsAt_52 : decode cX11_needsAt 52 = .ok (.goto 4, 3) := by decide +kernel
theorem dX11_needsAt_55 : decode cX11_needsAt 55 = .ok (.iconst 0, 1) := by decide +kernel
theorem dX11_needsAt_56 : decode cX11_needsAt 56 = .ok (.ior, 1) := by decide +kernel
theorem dX11_needsAt_57 : decode cX11_needsAt 57 = .ok (.istore_n 2, 1) := by decide +kernel
theorem dX11_needsAt_58 : decode cX11_needsAt 58 = .ok (.iinc 3 1, 3) := by decide +kernel
theorem dX11_needsAt_61 : decode cX11_needsAt 61 = .ok (.goto (-57), 3) := by decide +kernel
theorem dX11_needsAt_64 : decode cX11_needsAt 64 = .ok (.iload_n 2, 1) := by decide +kernel
theorem dX11_needsAt_65 : decode cX11_needsAt 65 = .ok (.ireturn, 1) := by decide +kernel
set_option maxRecDepth 20000 in
theorem ggX11_failsAt_X11_needsAt : GoodIn wsX11_failsAt wsX11_needsAt := goodIn_r _ [6, 7, 28, 29, 30, 31, 32, 33, 34, 35, 36, 37, 38, 39, 40, 41, 42, 43, 44, 45, 46] (by decide +kernel) (by decide +kernel)
set_option maxRecDepth 20000 in
theorem gX11_failsAt_X11_needsAt : GoodIn wsX11_failsAt (wsV RX11 151 RX11 yX11_needsAt wsX11_needsAt) := goodIn_app (goodIn_of _ (by decide +kernel)) ggX11_failsAt_X11_needsAt
set_option maxRecDepth 20000 in
theorem ggX11_failsAt_X11_openAt : GoodIn wsX11_failsAt wsX11_openAt := goodIn_r _ [11, 7, 12, 13, 14, 5, 15, 16, 17, 18, 19, 20, 21, 22, 23, 24, 25, 26, 27, 28, 29, 30, 31, 32, 33, 34, 35, 36, 37, 38, 39, 40, 41, 42, 43, 44, 45, 46] (by decide +kernel) (by decide +kernel)
set_option maxRecDepth 20000 in
theorem gX11_failsAt_X11_openAt : GoodIn wsX11_failsAt (wsV RX11 131 RX11 yX11_openAt wsX11_openAt) := goodIn_app (goodIn_of _ (by decide +kernel)) ggX11_failsAt_X11_openAt
theorem dX11_failsAt_0 : decode cX11_failsAt 0 = .ok (.iload_n 2, 1) := by decide +kernel
theorem dX11_failsAt_1 : decode cX11_failsAt 1 = .ok (.istore 4, 2) := by decide +kernel
theorem dX11_failsAt_3 : decode cX11_failsAt 3 = .ok (.iload 4, 2) := by decide +kernel
theorem dX11_failsAt_5 : decode cX11_failsAt 5 = .ok (.bipush 99, 2) := by decide +kernel
theorem dX11_failsAt_7 : decode cX11_failsAt 7 = .ok (.if_icmp .gt 42, 3) := by decide +kernel
theorem dX11_failsAt_10 : decode cX11_failsAt 10 = .ok (.iload 4, 2) := by decide +kernel
theorem dX11_failsAt_12 : decode cX11_failsAt 12 = .ok (.iload_n 3, 1) := by decide +kernel
theorem dX11_failsAt_13 : decode cX11_failsAt 13 = .ok (.if_icmp .gt 36, 3) := by decide +kernel
theorem dX11_failsAt_16 : decode cX11_failsAt 16 = .ok (.aload_n 0, 1) := by decide +kernel
theorem dX11_failsAt_17 : decode cX11_failsAt 17 = .ok (.iload 4, 2) := by decide +kernel
theorem dX11_failsAt_19 : decode cX11_failsAt 19 = .ok (.invokevirtual 151, 3) := by decide +kernel
theorem dX11_failsAt_22 : decode cX11_failsAt 22 = .ok (.aload_n 0, 1) := by decide +kernel
theorem dX11_failsAt_23 : decode cX11_failsAt 23 = .ok (.getfield 28, 3) := by decide +kernel
theorem dX11_failsAt_26 : decode cX11_failsAt 26 = .ok (.aload_n 0, 1) := by decide +kernel
theorem dX11_failsAt_27 : decode cX11_failsAt 27 = .ok (.iload 4, 2) := by decide +kernel
theorem dX11_failsAt_29 : decode cX11_failsAt 29 = .ok (.iload_n 1, 1) := by decide +kernel
theorem dX11_failsAt_30 : decode cX11_failsAt 30 = .ok (.invokevirtual 131, 3) := by decide +kernel
theorem dX11_failsAt_33 : decode cX11_failsAt 33 = .ok (.iaload, 1) := by decide +kernel
theorem dX11_failsAt_34 : decode cX11_failsAt 34 = .ok (.iconst (-1), 1) := by decide +kernel
theorem dX11_failsAt_35 : decode cX11_failsAt 35 = .ok (.ixor, 1) := by decide +kernel
theorem dX11_failsAt_36 : decode cX11_failsAt 36 = .ok (.iand, 1) := by decide +kernel
theorem dX11_failsAt_37 : decode cX11_failsAt 37 = .ok (.ifCond .eq 6, 3) := by decide +kernel
theorem dX11_failsAt_40 : decode cX11_failsAt 40 = .ok (.iload 4, 2) := by decide +kernel
theorem dX11_failsAt_42 : decode cX11_failsAt 42 = .ok (.ireturn, 1) := by decide +kernel
theorem dX11_failsAt_43 : decode cX11_failsAt 43 = .ok (.iinc 4 1, 3) := by decide +kernel
theorem dX11_failsAt_46 : decode cX11_failsAt 46 = .ok (.goto (-43), 3) := by decide +kernel
theorem dX11_failsAt_49 : decode cX11_failsAt 49 = .ok (.bipush (-9), 2) := by decide +kernel
theorem dX11_failsAt_51 : decode cX11_failsAt 51 = .ok (.ireturn, 1) := by decide +kernel
theorem dX11_notes_0 : decode cX11_notes 0 = .ok (.aload_n 0, 1) := by decide +kernel
theorem dX11_notes_1 : decode cX11_notes 1 = .ok (.getfield 154, 3) := by decide +kernel
theorem dX11_notes_4 : decode cX11_notes 4 = .ok (.ifCond .lt 28, 3) := by decide +kernel
theorem dX11_notes_7 : decode cX11_notes 7 = .ok (.iload_n 1, 1) := by decide +kernel
theorem dX11_notes_8 : decode cX11_notes 8 = .ok (.aload_n 0, 1) := by decide +kernel
theorem dX11_notes_9 : decode cX11_notes 9 = .ok (.getfield 154, 3) := by decide +kernel
theorem dX11_notes_12 : decode cX11_notes 12 = .ok (.if_icmp .gt 19, 3) := by decide +kernel
theorem dX11_notes_15 : decode cX11_notes 15 = .ok (.iload_n 1, 1) := by decide +kernel
theorem dX11_notes_16 : decode cX11_notes 16 = .ok (.aload_n 0, 1) := by decide +kernel
theorem dX11_notes_17 : decode cX11_notes 17 = .ok (.getfield 154, 3) := by decide +kernel
theorem dX11_notes_20 : decode cX11_notes 20 = .ok (.if_icmp .ne 12, 3) := by decide +kernel
theorem dX11_notes_23 : decode cX11_notes 23 = .ok (.iload_n 2, 1) := by decide +kernel
theorem dX11_notes_24 : decode cX11_notes 24 = .ok (.aload_n 0, 1) := by decide +kernel
theorem dX11_notes_25 : decode cX11_notes 25 = .ok (.getfield 157, 3) := by decide +kernel
theorem dX11_notes_28 : decode cX11_notes 28 = .ok (.if_icmp .lt 4, 3) := by decide +kernel
theorem dX11_notes_31 : decode cX11_notes 31 = .ok (.return_, 1) := by decide +kernel
theorem dX11_notes_32 : decode cX11_notes 32 = .ok (.aload_n 0, 1) := by decide +kernel
theorem dX11_notes_33 : decode cX11_notes 33 = .ok (.iload_n 1, 1) := by decide +kernel
theorem dX11_notes_34 : decode cX11_notes 34 = .ok (.putfield 154, 3) := by decide +kernel
theorem dX11_notes_37 : decode cX11_notes 37 = .ok (.aload_n 0, 1) := by decide +kernel
theorem dX11_notes_38 : decode cX11_notes 38 = .ok (.iload_n 2, 1) := by decide +kernel
theorem dX11_notes_39 : decode cX11_notes 39 = .ok (.putfield 157, 3) := by decide +kernel
theorem dX11_notes_42 : decode cX11_notes 42 = .ok (.return_, 1) := by decide +kernel
set_option maxRecDepth 20000 in
theorem ggX11_judged_X11_isIn : GoodIn wsX11_judged wsX11_isIn := goodIn_r _ [7] (by decide +kernel) (by decide +kernel)
set_option maxRecDepth 20000 in
theorem gX11_judged_X11_isIn : GoodIn wsX11_judged (va_wsS RX11 46 yX11_isIn wsX11_isIn) := goodIn_app (goodIn_of _ (by decide +kernel)) ggX11_judged_X11_isIn
set_option maxRecDepth 20000 in
theorem ggX11_judged_X11_refuse : GoodIn wsX11_judged wsX11_refuse := goodIn_r _ [11, 12, 90, 91, 92, 93, 94, 95, 96, 97, 98, 99, 100, 101, 102, 103, 104, 105, 106, 107, 108] (by decide +kernel) (by decide +kernel)
set_option maxRecDepth 20000 in
theorem gX11_judged_X11_refuse : GoodIn wsX11_judged (wsV RX11 54 RX11 yX11_refuse wsX11_refuse) := goodIn_app (goodIn_of _ (by decide +kernel)) ggX11_judged_X11_refuse
set_option maxRecDepth 20000 in
theorem ggX11_judged_X11_isWrong : GoodIn wsX11_judged wsX11_isWrong := goodIn_r _ [16, 3, 17, 18, 19, 6, 20, 21, 22, 23, 24, 25, 26, 27, 28, 29, 30, 31, 32, 33, 34, 35, 36, 37, 38, 39, 40, 41, 42, 43, 44, 45, 46, 47, 48, 49, 50, 51, 52, 53, 54, 55, 56, 57, 58, 59, 60, 61, 62, 63, 64, 65, 66, 67, 68, 90, 91, 92, 93, 94, 95, 96, 97, 98, 99, 100, 101, 102, 103, 104, 105, 106, 107, 108] (by decide +kernel) (by decide +kernel)
set_option maxRecDepth 20000 in
theorem gX11_judged_X11_isWrong : GoodIn wsX11_judged (wsV RX11 160 RX11 yX11_isWrong wsX11_isWrong) := goodIn_app (goodIn_of _ (by decide +kernel)) ggX11_judged_X11_isWrong
set_option maxRecDepth 20000 in
theorem ggX11_judged_X11_hourOf : GoodIn wsX11_judged wsX11_hourOf := goodIn_r _ [40, 3, 90, 91, 92, 93, 94, 95, 96, 97, 98, 99, 100, 101, 102, 103, 104, 105, 106, 107, 108] (by decide +kernel) (by decide +kernel)
set_option maxRecDepth 20000 in
theorem gX11_judged_X11_hourOf : GoodIn wsX11_judged (wsV RX11 110 RX11 yX11_hourOf wsX11_hourOf) := goodIn_app (goodIn_of _ (by decide +kernel)) ggX11_judged_X11_hourOf
set_option maxRecDepth 20000 in
theorem ggX11_judged_X11_notes : GoodIn wsX11_judged wsX11_notes := goodIn_r _ [72, 1, 2, 90, 91, 92, 93, 94, 95, 96, 97, 98, 99, 100, 101, 102, 103, 104, 105, 106, 107, 108] (by decide +kernel) (by decide +kernel)
set_option maxRecDepth 20000 in
theorem gX11_judged_X11_notes : GoodIn wsX11_judged (wsV RX11 163 RX11 yX11_notes wsX11_notes) := goodIn_app (goodIn_of _ (by decide +kernel)) ggX11_judged_X11_notes
set_option maxRecDepth 20000 in
theorem ggX11_judged_X11_isShutIn : GoodIn wsX11_judged wsX11_isShutIn := goodIn_r _ [76, 21, 22, 23, 6, 24, 3, 25, 26, 27, 28, 29, 30, 31, 32, 33, 34, 35, 36, 37, 38, 39, 40, 41, 42, 43, 44, 45, 46, 47, 48, 90, 91, 92, 93, 94, 95, 96, 97, 98, 99, 100, 101, 102, 103, 104, 105, 106, 107, 108] (by decide +kernel) (by decide +kernel)
set_option maxRecDepth 20000 in
theorem gX11_judged_X11_isShutIn : GoodIn wsX11_judged (wsV RX11 167 RX11 yX11_isShutIn wsX11_isShutIn) := goodIn_app (goodIn_of _ (by decide +kernel)) ggX11_judged_X11_isShutIn
set_option maxRecDepth 20000 in
theorem ggX11_judged_X11_endOf : GoodIn wsX11_judged wsX11_endOf := goodIn_r _ [36, 3, 37, 38, 39, 6, 40, 25, 26, 27, 28, 90, 91, 92, 93, 94, 95, 96, 97, 98, 99, 100, 101, 102, 103, 104, 105, 106, 107, 108] (by decide +kernel) (by decide +kernel)
set_option maxRecDepth 20000 in
theorem gX11_judged_X11_endOf : GoodIn wsX11_judged (wsV RX11 116 RX11 yX11_endOf wsX11_endOf) := goodIn_app (goodIn_of _ (by decide +kernel)) ggX11_judged_X11_endOf
set_option maxRecDepth 20000 in
theorem ggX11_judged_X11_findMet : GoodIn wsX11_judged wsX11_findMet := goodIn_r _ [80, 81, 3, 49, 50, 51, 6, 52, 53, 54, 55, 56, 29, 30, 31, 32, 90, 91, 92, 93, 94, 95, 96, 97, 98, 99, 100, 101, 102, 103, 104, 105, 106, 107, 108] (by decide +kernel) (by decide +kernel)
set_option maxRecDepth 20000 in
theorem gX11_judged_X11_findMet : GoodIn wsX11_judged (wsV RX11 170 RX11 yX11_findMet wsX11_findMet) := goodIn_app (goodIn_of _ (by decide +kernel)) ggX11_judged_X11_findMet
set_option maxRecDepth 20000 in
theorem ggX11_judged_X11_failsAt : GoodIn wsX11_judged wsX11_failsAt := goodIn_r _ [85, 81, 86, 87, 88, 6, 89, 3, 41, 42, 43, 44, 37, 38, 39, 40, 33, 34, 35, 36, 25, 26, 27, 28, 45, 46, 47, 48, 90, 91, 92, 93, 94, 95, 96, 97, 98, 99, 100, 101, 102, 103, 104, 105, 106, 107, 108] (by decide +kernel) (by decide +kernel)
set_option maxRecDepth 20000 in
theorem gX11_judged_X11_failsAt : GoodIn wsX11_judged (wsV RX11 173 RX11 yX11_failsAt wsX11_failsAt) := goodIn_app (goodIn_of _ (by decide +kernel)) ggX11_judged_X11_failsAt
set_option maxRecDepth 20000 in
theorem ggX11_judged_X11_coatsOf : GoodIn wsX11_judged wsX11_coatsOf := goodIn_r _ [68, 25, 26, 27, 6, 28, 3, 90, 91, 92, 93, 94, 95, 96, 97, 98, 99, 100, 101, 102, 103, 104, 105, 106, 107, 108] (by decide +kernel) (by decide +kernel)
set_option maxRecDepth 20000 in
theorem gX11_judged_X11_coatsOf : GoodIn wsX11_judged (wsV RX11 148 RX11 yX11_coatsOf wsX11_coatsOf) := goodIn_app (goodIn_of _ (by decide +kernel)) ggX11_judged_X11_coatsOf
theorem dX11_judged_0 : decode cX11_judged 0 = .ok (.iload_n 1, 1) := by decide +kernel
theorem dX11_judged_1 : decode cX11_judged 1 = .ok (.iconst 2, 1) := by decide +kernel
theorem dX11_judged_2 : decode cX11_judged 2 = .ok (.invokestatic 46, 3) := by decide +kernel
theorem dX11_judged_5 : decode cX11_judged 5 = .ok (.ifCond .ne 10, 3) := by decide +kernel
theorem dX11_judged_8 : decode cX11_judged 8 = .ok (.aload_n 0, 1) := by decide +kernel
theorem dX11_judged_9 : decode cX11_judged 9 = .ok (.bipush (-2), 2) := by decide +kernel
theorem dX11_judged_11 : decode cX11_judged 11 = .ok (.invokevirtual 54, 3) := by decide +kernel
theorem dX11_judged_14 : decode cX11_judged 14 = .ok (.ireturn, 1) := by decide +kernel
theorem dX11_judged_15 : decode cX11_judged 15 = .ok (.aload_n 0, 1) := by decide +kernel
theorem dX11_judged_16 : decode cX11_judged 16 = .ok (.bipush (-9), 2) := by decide +kernel
theorem dX11_judged_18 : decode cX11_judged 18 = .ok (.putfield 154, 3) := by decide +kernel
theorem dX11_judged_21 : decode cX11_judged 21 = .ok (.aload_n 0, 1) := by decide +kernel
theorem dX11_judged_22 : decode cX11_judged 22 = .ok (.bipush (-9), 2) := by decide +kernel
theorem dX11_judged_24 : decode cX11_judged 24 = .ok (.putfield 157, 3) := by decide +kernel
theorem dX11_judged_27 : decode cX11_judged 27 = .ok (.aload_n 0, 1) := by decide +kernel
theorem dX11_judged_28 : decode cX11_judged 28 = .ok (.getfield 13, 3) := by decide +kernel
theorem dX11_judged_31 : decode cX11_judged 31 = .ok (.iconst 3, 1) := by decide +kernel
theorem dX11_judged_32 : decode cX11_judged 32 = .ok (.iaload, 1) := by decide +kernel
theorem dX11_judged_33 : decode cX11_judged 33 = .ok (.istore_n 2, 1) := by decide +kernel
theorem dX11_judged_34 : decode cX11_judged 34 = .ok (.iconst 0, 1) := by decide +kernel
theorem dX11_judged_35 : decode cX11_judged 35 = .ok (.istore_n 3, 1) := by decide +kernel
theorem dX11_judged_36 : decode cX11_judged 36 = .ok (.iload_n 3, 1) := by decide +kernel
theorem dX11_judged_37 : decode cX11_judged 37 = .ok (.iload_n 2, 1) := by decide +kernel
theorem dX11_judged_38 : decode cX11_judged 38 = .ok (.if_icmp .ge 76, 3) := by decide +kernel
theorem dX11_judged_41 : decode cX11_judged 41 = .ok (.iconst 1, 1) := by decide +kernel
theorem dX11_judged_42 : decode cX11_judged 42 = .ok (.istore 4, 2) := by decide +kernel
theorem dX11_judged_44 : decode cX11_judged 44 = .ok (.iload 4, 2) := by decide +kernel
theorem dX11_judged_46 : decode cX11_judged 46 = .ok (.bipush 8, 2) := by decide +kernel
theorem dX11_judged_48 : decode cX11_judged 48 = .ok (.if_icmp .ge 42, 3) := by decide +kernel
theorem dX11_judged_51 : decode cX11_judged 51 = .ok (.iload 4, 2) := by decide +kernel
theorem dX11_judged_53 : decode cX11_judged 53 = .ok (.iconst 2, 1) := by decide +kernel
theorem dX11_judged_54 : decode cX11_judged 54 = .ok (.if_icmp .eq 30, 3) := by decide +kernel
theorem dX11_judged_57 : decode cX11_judged 57 = .ok (.iload 4, 2) := by decide +kernel
theorem dX11_judged_59 : decode cX11_judged 59 = .ok (.iconst 3, 1) := by decide +kernel
theorem dX11_judged_60 : decode cX11_judged 60 = .ok (.if_icmp .eq 24, 3) := by decide +kernel
theorem dX11_judged_63 : decode cX11_judged 63 = .ok (.aload_n 0, 1) := by decide +kernel
theorem dX11_judged_64 : decode cX11_judged 64 = .ok (.iload_n 3, 1) := by decide +kernel
theorem dX11_judged_65 : decode cX11_judged 65 = .ok (.iload 4, 2) := by decide +kernel
theorem dX11_judged_67 : decode cX11_judged 67 = .ok (.invokevirtual 160, 3) := by decide +kernel
theorem dX11_judged_70 : decode cX11_judged 70 = .ok (.ifCond .eq 14, 3) := by decide +kernel
theorem dX11_judged_73 : decode cX11_judged 73 = .ok (.aload_n 0, 1) := by decide +kernel
theorem dX11_judged_74 : decode cX11_judged 74 = .ok (.aload_n 0, 1) := by decide +kernel
theorem dX11_judged_75 : decode cX11_judged 75 = .ok (.iload_n 3, 1) := by decide +kernel
theorem dX11_judged_76 : decode cX11_judged 76 = .ok (.invokevirtual 110, 3) := by decide +kernel
theorem dX11_judged_79 : decode cX11_judged 79 = .ok (.iload 4, 2) := by decide +kernel
theorem dX11_judged_81 : decode cX11_judged 81 = .ok (.invokevirtual 163, 3) := by decide +kernel
theorem dX11_judged_84 : decode cX11_judged 84 = .ok (.iinc 4 1, 3) := by decide +kernel
theorem dX11_judged_87 : decode cX11_judged 87 = .ok (.goto (-43), 3) := by decide +kernel
theorem dX11_judged_90 : decode cX11_judged 90 = .ok (.aload_n 0, 1) := by decide +kernel
theorem dX11_judged_91 : decode cX11_judged 91 = .ok (.iload_n 3, 1) := by decide +kernel
theorem dX11_judged_92 : decode cX11_judged 92 = .ok (.invokevirtual 167, 3) := by decide +kernel
theorem dX11_judged_95 : decode cX11_judged 95 = .ok (.ifCond .eq 13, 3) := by decide +kernel
theorem dX11_judged_98 : decode cX11_judged 98 = .ok (.aload_n 0, 1) := by decide +kernel
theorem dX11_judged_99 : decode cX11_judged 99 = .ok (.aload_n 0, 1) := by decide +kernel
theorem dX11_judged_100 : decode cX11_judged 100 = .ok (.iload_n 3, 1) := by decide +kernel
theorem dX11_judged_101 : decode cX11_judged 101 = .ok (.invokevirtual 116, 3) := by decide +kernel
theorem dX11_judged_104 : decode cX11_judged 104 = .ok (.iconst 2, 1) := by decide +kernel
theorem dX11_judged_105 : decode cX11_judged 105 = .ok (.invokevirtual 163, 3) := by decide +kernel
theorem dX11_judged_108 : decode cX11_judged 108 = .ok (.iinc 3 1, 3) := by decide +kernel
theorem dX11_judged_111 : decode cX11_judged 111 = .ok (.goto (-75), 3) := by decide +kernel
theorem dX11_judged_114 : decode cX11_judged 114 = .ok (.aload_n 0, 1) := by decide +kernel
theorem dX11_judged_115 : decode cX11_judged 115 = .ok (.invokevirtual 170, 3) := by decide +kernel
theorem dX11_judged_118 : decode cX11_judged 118 = .ok (.aload_n 0, 1) := by decide +kernel
theorem dX11_judged_119 : decode cX11_judged 119 = .ok (.iload_n 2, 1) := by decide +kernel
theorem dX11_judged_120 : decode cX11_judged 120 = .ok (.iconst 0, 1) := by decide +kernel
theorem dX11_judged_121 : decode cX11_judged 121 = .ok (.bipush 99, 2) := by decide +kernel
theorem dX11_judged_123 : decode cX11_judged 123 = .ok (.invokevirtual 173, 3) := by decide +kernel
theorem dX11_judged_126 : decode cX11_judged 126 = .ok (.istore_n 3, 1) := by decide +kernel
theorem dX11_judged_127 : decode cX11_judged 127 = .ok (.iload_n 3, 1) := by decide +kernel
theorem dX11_judged_128 : decode cX11_judged 128 = .ok (.ifCond .lt 9, 3) := by decide +kernel
theorem dX11_judged_131 : decode cX11_judged 131 = .ok (.aload_n 0, 1) := by decide +kernel
theorem dX11_judged_132 : decode cX11_judged 132 = .ok (.iload_n 3, 1) := by decide +kernel
theorem dX11_judged_133 : decode cX11_judged 133 = .ok (.iconst 3, 1) := by decide +kernel
theorem dX11_judged_134 : decode cX11_judged 134 = .ok (.invokevirtual 163, 3) := by decide +kernel
theorem dX11_judged_137 : decode cX11_judged 137 = .ok (.iconst 1, 1) := by decide +kernel
theorem dX11_judged_138 : decode cX11_judged 138 = .ok (.istore 4, 2) := by decide +kernel
theorem dX11_judged_140 : decode cX11_judged 140 = .ok (.iload 4, 2) := by decide +kernel
theorem dX11_judged_142 : decode cX11_judged 142 = .ok (.aload_n 0, 1) := by decide +kernel
theorem dX11_judged_143 : decode cX11_judged 143 = .ok (.getfield 13, 3) := by decide +kernel
theorem dX11_judged_146 : decode cX11_judged 146 = .ok (.iconst 0, 1) := by decide +kernel
theorem dX11_judged_147 : decode cX11_judged 147 = .ok (.iaload, 1) := by decide +kernel
theorem dX11_judged_148 : decode cX11_judged 148 = .ok (.if_icmp .ge 37, 3) := by decide +kernel
theorem dX11_judged_151 : decode cX11_judged 151 = .ok (.aload_n 0, 1) := by decide +kernel
theorem dX11_judged_152 : decode cX11_judged 152 = .ok (.iload 4, 2) := by decide +kernel
theorem dX11_judged_154 : decode cX11_judged 154 = .ok (.iload_n 2, 1) := by decide +kernel
theorem dX11_judged_155 : decode cX11_judged 155 = .ok (.invokevirtual 148, 3) := by decide +kernel
theorem dX11_judged_158 : decode cX11_judged 158 = .ok (.aload_n 0, 1) := by decide +kernel
theorem dX11_judged_159 : decode cX11_judged 159 = .ok (.getfield 13, 3) := by decide +kernel
theorem dX11_judged_162 : decode cX11_judged 162 = .ok (.bipush 15, 2) := by decide +kernel
theorem dX11_judged_164 : decode cX11_judged 164 = .ok (.iload 4, 2) := by decide +kernel
theorem dX11_judged_166 : decode cX11_judged 166 = .ok (.iadd, 1) := by decide +kernel
theorem dX11_judged_167 : decode cX11_judged 167 = .ok (.iaload, 1) := by decide +kernel
theorem dX11_judged_168 : decode cX11_judged 168 = .ok (.if_icmp .ge 11, 3) := by decide +kernel
theorem dX11_judged_171 : decode cX11_judged 171 = .ok (.aload_n 0, 1) := by decide +kernel
theorem dX11_judged_172 : decode cX11_judged 172 = .ok (.bipush 99, 2) := by decide +kernel
theorem dX11_judged_174 : decode cX11_judged 174 = .ok (.bipush 8, 2) := by decide +kernel
theorem dX11_judged_176 : decode cX11_judged 176 = .ok (.invokevirtual 163, 3) := by decide +kernel
theorem dX11_judged_179 : decode cX11_judged 179 = .ok (.iinc 4 1, 3) := by decide +kernel
theorem dX11_judged_182 : decode cX11_judged 182 = .ok (.goto (-42), 3) := by decide +kernel
theorem dX11_judged_185 : decode cX11_judged 185 = .ok (.iload_n 1, 1) := by decide +kernel
theorem dX11_judged_186 : decode cX11_judged 186 = .ok (.ifCond .ne 10, 3) := by decide +kernel
theorem dX11_judged_189 : decode cX11_judged 189 = .ok (.aload_n 0, 1) := by decide +kernel
theorem dX11_judged_190 : decode cX11_judged 190 = .ok (.getfield 154, 3) := by decide +kernel
theorem dX11_judged_193 : decode cX11_judged 193 = .ok (.goto 7, 3) := by decide +kernel
theorem dX11_judged_196 : decode cX11_judged 196 = .ok (.aload_n 0, 1) := by decide +kernel
theorem dX11_judged_197 : decode cX11_judged 197 = .ok (.getfield 157, 3) := by decide +kernel
theorem dX11_judged_200 : decode cX11_judged 200 = .ok (.ireturn, 1) := by decide +kernel
set_option maxRecDepth 20000 in
theorem ggX11_done_X11_endOf : GoodIn wsX11_done wsX11_endOf := goodIn_r _ [6, 1, 7, 8, 9, 5, 10, 11, 12, 13, 14, 15, 16, 17, 18, 19, 20, 21, 22, 23, 24, 25, 26, 27, 28, 29, 30, 31, 32, 33] (by decide +kernel) (by decide +kernel)
set_option maxRecDepth 20000 in
theorem gX11_done_X11_endOf : GoodIn wsX11_done (wsV RX11 116 RX11 yX11_endOf wsX11_endOf) := goodIn_app (goodIn_of _ (by decide +kernel)) ggX11_done_X11_endOf
theorem dX11_done_0 : decode cX11_done 0 = .ok (.aload_n 0, 1) := by decide +kernel
theorem dX11_done_1 : decode cX11_done 1 = .ok (.getfield 13, 3) := by decide +kernel
theorem dX11_done_4 : decode cX11_done 4 = .ok (.iconst 3, 1) := by decide +kernel
theorem dX11_done_5 : decode cX11_done 5 = .ok (.iaload, 1) := by decide +kernel
theorem dX11_done_6 : decode cX11_done 6 = .ok (.ifCond .ne 8, 3) := by decide +kernel
theorem dX11_done_9 : decode cX11_done 9 = .ok (.bipush (-9), 2) := by decide +kernel
theorem dX11_done_11 : decode cX11_done 11 = .ok (.goto 15, 3) := by decide +kernel
theorem dX11_done_14 : decode cX11_done 14 = .ok (.aload_n 0, 1) := by decide +kernel
theorem dX11_done_15 : decode cX11_done 15 = .ok (.aload_n 0, 1) := by decide +kernel
theorem dX11_done_16 : decode cX11_done 16 = .ok (.getfield 13, 3) := by decide +kernel
theorem dX11_done_19 : decode cX11_done 19 = .ok (.iconst 3, 1) := by decide +kernel
theorem dX11_done_20 : decode cX11_done 20 = .ok (.iaload, 1) := by decide +kernel
theorem dX11_done_21 : decode cX11_done 21 = .ok (.iconst 1, 1) := by decide +kernel
theorem dX11_done_22 : decode cX11_done 22 = .ok (.isub, 1) := by decide +kernel
theorem dX11_done_23 : decode cX11_done 23 = .ok (.invokevirtual 116, 3) := by decide +kernel
theorem dX11_done_26 : decode cX11_done 26 = .ok (.ireturn, 1) := by decide +kernel
set_option maxRecDepth 20000 in
theorem ggX11_where_X11_isIn : GoodIn wsX11_where wsX11_isIn := goodIn_r _ [5] (by decide +kernel) (by decide +kernel)
set_option maxRecDepth 20000 in
theorem gX11_where_X11_isIn : GoodIn wsX11_where (va_wsS RX11 46 yX11_isIn wsX11_isIn) := goodIn_app (goodIn_of _ (by decide +kernel)) ggX11_where_X11_isIn
set_option maxRecDepth 20000 in
theorem ggX11_where_X11_whereOf : GoodIn wsX11_where wsX11_whereOf := goodIn_r _ [9, 10, 11, 12, 4, 13, 1, 14, 15, 16, 17, 18, 19, 20, 21, 22, 23, 24, 25, 26, 27, 28, 29, 30, 31, 32, 33, 34, 35, 36, 37, 43, 44, 45, 46, 47, 48, 49, 50, 51, 52, 53, 54, 55, 56, 57, 58, 59, 60, 61] (by decide +kernel) (by decide +kernel)
set_option maxRecDepth 20000 in
theorem gX11_where_X11_whereOf : GoodIn wsX11_where (wsV RX11 135 RX11 yX11_whereOf wsX11_whereOf) := goodIn_app (goodIn_of _ (by decide +kernel)) ggX11_where_X11_whereOf
set_option maxRecDepth 20000 in
theorem ggX11_where_X11_refuse : GoodIn wsX11_where wsX11_refuse := goodIn_r _ [41, 42, 43, 44, 45, 46, 47, 48, 49, 50, 51, 52, 53, 54, 55, 56, 57, 58, 59, 60, 61] (by decide +kernel) (by decide +kernel)
set_option maxRecDepth 20000 in
theorem gX11_where_X11_refuse : GoodIn wsX11_where (wsV RX11 54 RX11 yX11_refuse wsX11_refuse) := goodIn_app (goodIn_of _ (by decide +kernel)) ggX11_where_X11_refuse
theorem dX11_where_0 : decode cX11_where 0 = .ok (.iload_n 1, 1) := by decide +kernel
theorem dX11_where_1 : decode cX11_where 1 = .ok (.aload_n 0, 1) := by decide +kernel
theorem dX11_where_2 : decode cX11_where 2 = .ok (.getfield 13, 3) := by decide +kernel
theorem dX11_where_5 : decode cX11_where 5 = .ok (.iconst 3, 1) := by decide +kernel
theorem dX11_where_6 : decode cX11_where 6 = .ok (.iaload, 1) := by decide +kernel
theorem dX11_where_7 : decode cX11_where 7 = .ok (.iconst 1, 1) := by decide +kernel
theorem dX11_where_8 : decode cX11_where 8 = .ok (.iadd, 1) := by decide +kernel
theorem dX11_where_9 : decode cX11_where 9 = .ok (.invokestatic 46, 3) := by decide +kernel
theorem dX11_where_12 : decode cX11_where 12 = .ok (.ifCond .eq 11, 3) := by decide +kernel
theorem dX11_where_15 : decode cX11_where 15 = .ok (.aload_n 0, 1) := by decide +kernel
theorem dX11_where_16 : decode cX11_where 16 = .ok (.iload_n 1, 1) := by decide +kernel
theorem dX11_where_17 : decode cX11_where 17 = .ok (.invokevirtual 135, 3) := by decide +kernel
theorem dX11_where_20 : decode cX11_where 20 = .ok (.goto 8, 3) := by decide +kernel
theorem dX11_where_23 : decode cX11_where 23 = .ok (.aload_n 0, 1) := by decide +kernel
theorem dX11_where_24 : decode cX11_where 24 = .ok (.iconst (-1), 1) := by decide +kernel
theorem dX11_where_25 : decode cX11_where 25 = .ok (.invokevirtual 54, 3) := by decide +kernel
theorem dX11_where_28 : decode cX11_where 28 = .ok (.ireturn, 1) := by decide +kernel
theorem dX11_coatsInAll_0 : decode cX11_coatsInAll 0 = .ok (.iconst 0, 1) := by decide +kernel
theorem dX11_coatsInAll_1 : decode cX11_coatsInAll 1 = .ok (.istore_n 1, 1) := by decide +kernel
theorem dX11_coatsInAll_2 : decode cX11_coatsInAll 2 = .ok (.iconst 1, 1) := by decide +kernel
theorem dX11_coatsInAll_3 : decode cX11_coatsInAll 3 = .ok (.istore_n 2, 1) := by decide +kernel
theorem dX11_coatsInAll_4 : decode cX11_coatsInAll 4 = .ok (.iload_n 2, 1) := by decide +kernel
theorem dX11_coatsInAll_5 : decode cX11_coatsInAll 5 = .ok (.aload_n 0, 1) := by decide +kernel
theorem dX11_coatsInAll_6 : decode cX11_coatsInAll 6 = .ok (.getfield 13, 3) := by decide +kernel
theorem dX11_coatsInAll_9 : decode cX11_coatsInAll 9 = .ok (.iconst 0, 1) := by decide +kernel
theorem dX11_coatsInAll_10 : decode cX11_coatsInAll 10 = .ok (.iaload, 1) := by decide +kernel
theorem dX11_coatsInAll_11 : decode cX11_coatsInAll 11 = .ok (.if_icmp .ge 21, 3) := by decide +kernel
theorem dX11_coatsInAll_14 : decode cX11_coatsInAll 14 = .ok (.iload_n 1, 1) := by decide +kernel
theorem dX11_coatsInAll_15 : decode cX11_coatsInAll 15 = .ok (.aload_n 0, 1) := by decide +kernel
theorem dX11_coatsInAll_16 : decode cX11_coatsInAll 16 = .ok (.getfield 13, 3) := by decide +kernel
theorem dX11_coatsInAll_19 : decode cX11_coatsInAll 19 = .ok (.bipush 15, 2) := by decide +kernel
theorem dX11_coatsInAll_21 : decode cX11_coatsInAll 21 = .ok (.iload_n 2, 1) := by decide +kernel
theorem dX11_coatsInAll_22 : decode cX11_coatsInAll 22 = .ok (.iadd, 1) := by decide +kernel
theorem dX11_coatsInAll_23 : decode cX11_coatsInAll 23 = .ok (.iaload, 1) := by decide +kernel
theorem dX11_coatsInAll_24 : decode cX11_coatsInAll 24 = .ok (.iadd, 1) := by decide +kernel
theorem dX11_coatsInAll_25 : decode cX11_coatsInAll 25 = .ok (.istore_n 1, 1) := by decide +kernel
theorem dX11_coatsInAll_26 : decode cX11_coatsInAll 26 = .ok (.iinc 2 1, 3) := by decide +kernel
theorem dX11_coatsInAll_29 : decode cX11_coatsInAll 29 = .ok (.goto (-25), 3) := by decide +kernel
theorem dX11_coatsInAll_32 : decode cX11_coatsInAll 32 = .ok (.iload_n 1, 1) := by decide +kernel
theorem dX11_coatsInAll_33 : decode cX11_coatsInAll 33 = .ok (.ireturn, 1) := by decide +kernel
set_option maxRecDepth 20000 in
theorem ggX11_canBegin_X11_endOf : GoodIn wsX11_canBegin wsX11_endOf := goodIn_r _ [6, 1, 7, 8, 9, 5, 10, 11, 12, 13, 14, 72, 73, 74, 75, 76, 77, 78, 79, 80, 81, 82, 83, 84, 85, 86, 87, 88, 89, 90] (by decide +kernel) (by decide +kernel)
set_option maxRecDepth 20000 in
theorem gX11_canBegin_X11_endOf : GoodIn wsX11_canBegin (wsV RX11 116 RX11 yX11_endOf wsX11_endOf) := goodIn_app (goodIn_of _ (by decide +kernel)) ggX11_canBegin_X11_endOf
set_option maxRecDepth 20000 in
theorem ggX11_canBegin_X11_isWrong : GoodIn wsX11_canBegin wsX11_isWrong := goodIn_r _ [18, 1, 19, 20, 21, 5, 22, 23, 24, 25, 26, 11, 12, 13, 14, 27, 28, 29, 30, 2, 3, 4, 6, 7, 8, 9, 10, 31, 32, 33, 34, 35, 36, 37, 38, 39, 40, 41, 42, 43, 44, 45, 46, 47, 48, 49, 50, 51, 52, 53, 54, 55, 56, 57, 58, 72, 73, 74, 75, 76, 77, 78, 79, 80, 81, 82, 83, 84, 85, 86, 87, 88, 89, 90] (by decide +kernel) (by decide +kernel)
set_option maxRecDepth 20000 in
theorem gX11_canBegin_X11_isWrong : GoodIn wsX11_canBegin (wsV RX11 160 RX11 yX11_isWrong wsX11_isWrong) := goodIn_app (goodIn_of _ (by decide +kernel)) ggX11_canBegin_X11_isWrong
set_option maxRecDepth 20000 in
theorem ggX11_canBegin_X11_isShutIn : GoodIn wsX11_canBegin wsX11_isShutIn := goodIn_r _ [62, 23, 24, 25, 5, 26, 1, 11, 12, 13, 14, 27, 28, 29, 30, 2, 3, 4, 6, 7, 8, 9, 10, 31, 32, 33, 34, 35, 36, 37, 38, 72, 73, 74, 75, 76, 77, 78, 79, 80, 81, 82, 83, 84, 85, 86, 87, 88, 89, 90] (by decide +kernel) (by decide +kernel)
set_option maxRecDepth 20000 in
theorem gX11_canBegin_X11_isShutIn : GoodIn wsX11_canBegin (wsV RX11 167 RX11 yX11_isShutIn wsX11_isShutIn) := goodIn_app (goodIn_of _ (by decide +kernel)) ggX11_canBegin_X11_isShutIn
set_option maxRecDepth 20000 in
theorem ggX11_canBegin_X11_failsAt : GoodIn wsX11_canBegin wsX11_failsAt := goodIn_r _ [66, 67, 68, 69, 70, 5, 71, 1, 31, 32, 33, 34, 7, 8, 9, 10, 2, 3, 4, 6, 11, 12, 13, 14, 35, 36, 37, 38, 72, 73, 74, 75, 76, 77, 78, 79, 80, 81, 82, 83, 84, 85, 86, 87, 88, 89, 90] (by decide +kernel) (by decide +kernel)
set_option maxRecDepth 20000 in
theorem gX11_canBegin_X11_failsAt : GoodIn wsX11_canBegin (wsV RX11 173 RX11 yX11_failsAt wsX11_failsAt) := goodIn_app (goodIn_of _ (by decide +kernel)) ggX11_canBegin_X11_failsAt
theorem dX11_canBegin_0 : decode cX11_canBegin 0 = .ok (.aload_n 0, 1) := by decide +kernel
theorem dX11_canBegin_1 : decode cX11_canBegin 1 = .ok (.getfield 13, 3) := by decide +kernel
theorem dX11_canBegin_4 : decode cX11_canBegin 4 = .ok (.iconst 3, 1) := by decide +kernel
theorem dX11_canBegin_5 : decode cX11_canBegin 5 = .ok (.iaload, 1) := by decide +kernel
theorem dX11_canBegin_6 : decode cX11_canBegin 6 = .ok (.istore_n 2, 1) := by decide +kernel
theorem dX11_canBegin_7 : decode cX11_canBegin 7 = .ok (.aload_n 0, 1) := by decide +kernel
theorem dX11_canBegin_8 : decode cX11_canBegin 8 = .ok (.getfield 13, 3) := by decide +kernel
theorem dX11_canBegin_11 : decode cX11_canBegin 11 = .ok (.bipush 77, 2) := by decide +kernel
theorem dX11_canBegin_13 : decode cX11_canBegin 13 = .ok (.iconst 2, 1) := by decide +kernel
theorem dX11_canBegin_14 : decode cX11_canBegin 14 = .ok (.iload_n 2, 1) := by decide +kernel
theorem dX11_canBegin_15 : decode cX11_canBegin 15 = .ok (.imul, 1) := by decide +kernel
theorem dX11_canBegin_16 : decode cX11_canBegin 16 = .ok (.iadd, 1) := by decide +kernel
theorem dX11_canBegin_17 : decode cX11_canBegin 17 = .ok (.iload_n 1, 1) := by decide +kernel
theorem dX11_canBegin_18 : decode cX11_canBegin 18 = .ok (.iastore, 1) := by decide +kernel
theorem dX11_canBegin_19 : decode cX11_canBegin 19 = .ok (.aload_n 0, 1) := by decide +kernel
theorem dX11_canBegin_20 : decode cX11_canBegin 20 = .ok (.getfield 13, 3) := by decide +kernel
theorem dX11_canBegin_23 : decode cX11_canBegin 23 = .ok (.iconst 3, 1) := by decide +kernel
theorem dX11_canBegin_24 : decode cX11_canBegin 24 = .ok (.iload_n 2, 1) := by decide +kernel
theorem dX11_canBegin_25 : decode cX11_canBegin 25 = .ok (.iconst 1, 1) := by decide +kernel
theorem dX11_canBegin_26 : decode cX11_canBegin 26 = .ok (.iadd, 1) := by decide +kernel
theorem dX11_canBegin_27 : decode cX11_canBegin 27 = .ok (.iastore, 1) := by decide +kernel
theorem dX11_canBegin_28 : decode cX11_canBegin 28 = .ok (.iload_n 2, 1) := by decide +kernel
theorem dX11_canBegin_29 : decode cX11_canBegin 29 = .ok (.ifCond .ne 7, 3) := by decide +kernel
theorem dX11_canBegin_32 : decode cX11_canBegin 32 = .ok (.iconst 0, 1) := by decide +kernel
theorem dX11_canBegin_33 : decode cX11_canBegin 33 = .ok (.goto 10, 3) := by decide +kernel
theorem dX11_canBegin_36 : decode cX11_canBegin 36 = .ok (.aload_n 0, 1) := by decide +kernel
theorem dX11_canBegin_37 : decode cX11_canBegin 37 = .ok (.iload_n 2, 1) := by decide +kernel
theorem dX11_canBegin_38 : decode cX11_canBegin 38 = .ok (.iconst 1, 1) := by decide +kernel
theorem dX11_canBegin_39 : decode cX11_canBegin 39 = .ok (.isub, 1) := by decide +kernel
theorem dX11_canBegin_40 : decode cX11_canBegin 40 = .ok (.invokevirtual 116, 3) := by decide +kernel
theorem dX11_canBegin_43 : decode cX11_canBegin 43 = .ok (.istore_n 3, 1) := by decide +kernel
theorem dX11_canBegin_44 : decode cX11_canBegin 44 = .ok (.iload_n 3, 1) := by decide +kernel
theorem dX11_canBegin_45 : decode cX11_canBegin 45 = .ok (.bipush 60, 2) := by decide +kernel
theorem dX11_canBegin_47 : decode cX11_canBegin 47 = .ok (.if_icmp .gt 108, 3) := by decide +kernel
theorem dX11_canBegin_50 : decode cX11_canBegin 50 = .ok (.aload_n 0, 1) := by decide +kernel
theorem dX11_canBegin_51 : decode cX11_canBegin 51 = .ok (.getfield 13, 3) := by decide +kernel
theorem dX11_canBegin_54 : decode cX11_canBegin 54 = .ok (.bipush 77, 2) := by decide +kernel
theorem dX11_canBegin_56 : decode cX11_canBegin 56 = .ok (.iconst 2, 1) := by decide +kernel
theorem dX11_canBegin_57 : decode cX11_canBegin 57 = .ok (.iload_n 2, 1) := by decide +kernel
theorem dX11_canBegin_58 : decode cX11_canBegin 58 = .ok (.imul, 1) := by decide +kernel
theorem dX11_canBegin_59 : decode cX11_canBegin 59 = .ok (.iadd, 1) := by decide +kernel
theorem dX11_canBegin_60 : decode cX11_canBegin 60 = .ok (.iconst 1, 1) := by decide +kernel
theorem dX11_canBegin_61 : decode cX11_canBegin 61 = .ok (.iadd, 1) := by decide +kernel
theorem dX11_canBegin_62 : decode cX11_canBegin 62 = .ok (.iload_n 3, 1) := by decide +kernel
theorem dX11_canBegin_63 : decode cX11_canBegin 63 = .ok (.iastore, 1) := by decide +kernel
theorem dX11_canBegin_64 : decode cX11_canBegin 64 = .ok (.iload_n 2, 1) := by decide +kernel
theorem dX11_canBegin_65 : decode cX11_canBegin 65 = .ok (.ifCond .ne 7, 3) := by decide +kernel
theorem dX11_canBegin_68 : decode cX11_canBegin 68 = .ok (.iconst 0, 1) := by decide +kernel
theorem dX11_canBegin_69 : decode cX11_canBegin 69 = .ok (.goto 4, 3) := by decide +kernel
theorem dX11_canBegin_72 : decode cX11_canBegin 72 = .ok (.iload_n 3, 1) := by decide +kernel
theorem dX11_canBegin_73 : decode cX11_canBegin 73 = .ok (.istore 4, 2) := by decide +kernel
theorem dX11_canBegin_75 : decode cX11_canBegin 75 = .ok (.iload_n 2, 1) := by decide +kernel
theorem dX11_canBegin_76 : decode cX11_canBegin 76 = .ok (.ifCond .ne 8, 3) := by decide +kernel
theorem dX11_canBegin_79 : decode cX11_canBegin 79 = .ok (.bipush 99, 2) := by decide +kernel
theorem dX11_canBegin_81 : decode cX11_canBegin 81 = .ok (.goto 15, 3) := by decide +kernel
theorem dX11_canBegin_84 : decode cX11_canBegin 84 = .ok (.aload_n 0, 1) := by decide +kernel
theorem dX11_canBegin_85 : decode cX11_canBegin 85 = .ok (.iload_n 2, 1) := by decide +kernel
theorem dX11_canBegin_86 : decode cX11_canBegin 86 = .ok (.invokevirtual 116, 3) := by decide +kernel
theorem dX11_canBegin_89 : decode cX11_canBegin 89 = .ok (.aload_n 0, 1) := by decide +kernel
theorem dX11_canBegin_90 : decode cX11_canBegin 90 = .ok (.getfield 13, 3) := by decide +kernel
theorem dX11_canBegin_93 : decode cX11_canBegin 93 = .ok (.iconst 4, 1) := by decide +kernel
theorem dX11_canBegin_94 : decode cX11_canBegin 94 = .ok (.iaload, 1) := by decide +kernel
theorem dX11_canBegin_95 : decode cX11_canBegin 95 = .ok (.iadd, 1) := by decide +kernel
theorem dX11_canBegin_96 : decode cX11_canBegin 96 = .ok (.istore 5, 2) := by decide +kernel
theorem dX11_canBegin_98 : decode cX11_canBegin 98 = .ok (.aload_n 0, 1) := by decide +kernel
theorem dX11_canBegin_99 : decode cX11_canBegin 99 = .ok (.iload_n 2, 1) := by decide +kernel
theorem dX11_canBegin_100 : decode cX11_canBegin 100 = .ok (.iconst 4, 1) := by decide +kernel
theorem dX11_canBegin_101 : decode cX11_canBegin 101 = .ok (.invokevirtual 160, 3) := by decide +kernel
theorem dX11_canBegin_104 : decode cX11_canBegin 104 = .ok (.ifCond .ne 45, 3) := by decide +kernel
theorem dX11_canBegin_107 : decode cX11_canBegin 107 = .ok (.aload_n 0, 1) := by decide +kernel
theorem dX11_canBegin_108 : decode cX11_canBegin 108 = .ok (.iload_n 2, 1) := by decide +kernel
theorem dX11_canBegin_109 : decode cX11_canBegin 109 = .ok (.iconst 5, 1) := by decide +kernel
theorem dX11_canBegin_110 : decode cX11_canBegin 110 = .ok (.invokevirtual 160, 3) := by decide +kernel
theorem dX11_canBegin_113 : decode cX11_canBegin 113 = .ok (.ifCond .ne 36, 3) := by decide +kernel
theorem dX11_canBegin_116 : decode cX11_canBegin 116 = .ok (.aload_n 0, 1) := by decide +kernel
theorem dX11_canBegin_117 : decode cX11_canBegin 117 = .ok (.iload_n 2, 1) := by decide +kernel
theorem dX11_canBegin_118 : decode cX11_canBegin 118 = .ok (.iconst 1, 1) := by decide +kernel
theorem dX11_canBegin_119 : decode cX11_canBegin 119 = .ok (.invokevirtual 160, 3) := by decide +kernel
theorem dX11_canBegin_122 : decode cX11_canBegin 122 = .ok (.ifCond .ne 27, 3) := by decide +kernel
theorem dX11_canBegin_125 : decode cX11_canBegin 125 = .ok (.aload_n 0, 1) := by decide +kernel
theorem dX11_canBegin_126 : decode cX11_canBegin 126 = .ok (.iload_n 2, 1) := by decide +kernel
theorem dX11_canBegin_127 : decode cX11_canBegin 127 = .ok (.invokevirtual 167, 3) := by decide +kernel
theorem dX11_canBegin_130 : decode cX11_canBegin 130 = .ok (.ifCond .ne 19, 3) := by decide +kernel
theorem dX11_canBegin_133 : decode cX11_canBegin 133 = .ok (.aload_n 0, 1) := by decide +kernel
theorem dX11_canBegin_134 : decode cX11_canBegin 134 = .ok (.iload_n 2, 1) := by decide +kernel
theorem dX11_canBegin_135 : decode cX11_canBegin 135 = .ok (.iconst 1, 1) := by decide +kernel
theorem dX11_canBegin_136 : decode cX11_canBegin 136 = .ok (.iadd, 1) := by decide +kernel
theorem dX11_canBegin_137 : decode cX11_canBegin 137 = .ok (.iload 4, 2) := by decide +kernel
theorem dX11_canBegin_139 : decode cX11_canBegin 139 = .ok (.iload 5, 2) := by decide +kernel
theorem dX11_canBegin_141 : decode cX11_canBegin 141 = .ok (.invokevirtual 173, 3) := by decide +kernel
theorem dX11_canBegin_144 : decode cX11_canBegin 144 = .ok (.ifCond .ge 5, 3) := by decide +kernel
theorem dX11_canBegin_147 : decode cX11_canBegin 147 = .ok (.iconst 1, 1) := by decide +kernel
theorem dX11_canBegin_148 : decode cX11_canBegin 148 = .ok (.ireturn, 1) := by decide +kernel
theorem dX11_canBegin_149 : decode cX11_canBegin 149 = .ok (.iinc 3 1, 3) := by decide +kernel
theorem dX11_canBegin_152 : decode cX11_canBegin 152 = .ok (.goto (-108), 3) := by decide +kernel
theorem dX11_canBegin_155 : decode cX11_canBegin 155 = .ok (.aload_n 0, 1) := by decide +kernel
theorem dX11_canBegin_156 : decode cX11_canBegin 156 = .ok (.getfield 13, 3) := by decide +kernel
theorem dX11_canBegin_159 : decode cX11_canBegin 159 = .ok (.iconst 3, 1) := by decide +kernel
theorem dX11_canBegin_160 : decode cX11_canBegin 160 = .ok (.iload_n 2, 1) := by decide +kernel
theorem dX11_canBegin_161 : decode cX11_canBegin 161 = .ok (.iastore, 1) := by decide +kernel
theorem dX11_canBegin_162 : decode cX11_canBegin 162 = .ok (.iconst 0, 1) := by decide +kernel
theorem dX11_canBegin_163 : decode cX11_canBegin 163 = .ok (.ireturn, 1) := by decide +kernel
set_option maxRecDepth 20000 in
theorem ggX11_goesOn_X11_endOf : GoodIn wsX11_goesOn wsX11_endOf := goodIn_r _ [9, 1, 10, 11, 12, 8, 13, 14, 15, 16, 17, 82, 83, 84, 85, 86, 87, 88, 89, 90, 91, 92, 93, 94, 95, 96, 97, 98, 99, 100] (by decide +kernel) (by decide +kernel)
set_option maxRecDepth 20000 in
theorem gX11_goesOn_X11_endOf : GoodIn wsX11_goesOn (wsV RX11 116 RX11 yX11_endOf wsX11_endOf) := goodIn_app (goodIn_of _ (by decide +kernel)) ggX11_goesOn_X11_endOf
set_option maxRecDepth 20000 in
theorem ggX11_goesOn_X11_coatsOf : GoodIn wsX11_goesOn wsX11_coatsOf := goodIn_r _ [21, 14, 15, 16, 8, 17, 1, 82, 83, 84, 85, 86, 87, 88, 89, 90, 91, 92, 93, 94, 95, 96, 97, 98, 99, 100] (by decide +kernel) (by decide +kernel)
set_option maxRecDepth 20000 in
theorem gX11_goesOn_X11_coatsOf : GoodIn wsX11_goesOn (wsV RX11 148 RX11 yX11_coatsOf wsX11_coatsOf) := goodIn_app (goodIn_of _ (by decide +kernel)) ggX11_goesOn_X11_coatsOf
set_option maxRecDepth 20000 in
theorem ggX11_goesOn_X11_canBegin : GoodIn wsX11_goesOn wsX11_canBegin := goodIn_r _ [25, 1, 5, 6, 7, 8, 9, 10, 11, 12, 13, 14, 15, 16, 17, 26, 27, 28, 29, 30, 31, 32, 33, 34, 35, 36, 37, 38, 39, 40, 41, 42, 43, 44, 45, 46, 47, 48, 49, 50, 51, 52, 53, 54, 55, 56, 57, 58, 59, 60, 61, 62, 63, 64, 65, 18, 19, 20, 21, 66, 67, 68, 69, 70, 71, 72, 73, 74, 75, 76, 77, 78, 82, 83, 84, 85, 86, 87, 88, 89, 90, 91, 92, 93, 94, 95, 96, 97, 98, 99, 100] (by decide +kernel) (by decide +kernel)
set_option maxRecDepth 20000 in
theorem gX11_goesOn_X11_canBegin : GoodIn wsX11_goesOn (wsV RX11 182 RX11 yX11_canBegin wsX11_canBegin) := goodIn_app (goodIn_of _ (by decide +kernel)) ggX11_goesOn_X11_canBegin
set_option maxRecDepth 20000 in
theorem ggX11_goesOn_X11_goesOn : GoodIn wsX11_goesOn wsX11_goesOn := goodIn_r _ [0, 1, 2, 3, 4, 5, 6, 7, 8, 9, 10, 11, 12, 13, 14, 15, 16, 17, 18, 19, 20, 21, 22, 23, 24, 25, 26, 27, 28, 29, 30, 31, 32, 33, 34, 35, 36, 37, 38, 39, 40, 41, 42, 43, 44, 45, 46, 47, 48, 49, 50, 51, 52, 53, 54, 55, 56, 57, 58, 59, 60, 61, 62, 63, 64, 65, 66, 67, 68, 69, 70, 71, 72, 73, 74, 75, 76, 77, 78, 79, 80, 81, 82, 83, 84, 85, 86, 87, 88, 89, 90, 91, 92, 93, 94, 95, 96, 97, 98, 99, 100] (by decide +kernel) (by decide +kernel)
set_option maxRecDepth 20000 in
theorem gX11_goesOn_X11_goesOn : GoodIn wsX11_goesOn (wsV RX11 185 RX11 yX11_goesOn wsX11_goesOn) := goodIn_app (goodIn_of _ (by decide +kernel)) ggX11_goesOn_X11_goesOn
theorem dX11_goesOn_0 : decode cX11_goesOn 0 = .ok (.aload_n 0, 1) := by decide +kernel
theorem dX11_goesOn_1 : decode cX11_goesOn 1 = .ok (.getfield 13, 3) := by decide +kernel
theorem dX11_goesOn_4 : decode cX11_goesOn 4 = .ok (.iconst 3, 1) := by decide +kernel
theorem dX11_goesOn_5 : decode cX11_goesOn 5 = .ok (.iaload, 1) := by decide +kernel
theorem dX11_goesOn_6 : decode cX11_goesOn 6 = .ok (.iload_n 1, 1) := by decide +kernel
theorem dX11_goesOn_7 : decode cX11_goesOn 7 = .ok (.if_icmp .ne 76, 3) := by decide +kernel
theorem dX11_goesOn_10 : decode cX11_goesOn 10 = .ok (.iload_n 1, 1) := by decide +kernel
theorem dX11_goesOn_11 : decode cX11_goesOn 11 = .ok (.ifCond .ne 7, 3) := by decide +kernel
theorem dX11_goesOn_14 : decode cX11_goesOn 14 = .ok (.iconst 0, 1) := by decide +kernel
theorem dX11_goesOn_15 : decode cX11_goesOn 15 = .ok (.goto 10, 3) := by decide +kernel
theorem dX11_goesOn_18 : decode cX11_goesOn 18 = .ok (.aload_n 0, 1) := by decide +kernel
theorem dX11_goesOn_19 : decode cX11_goesOn 19 = .ok (.iload_n 1, 1) := by decide +kernel
theorem dX11_goesOn_20 : decode cX11_goesOn 20 = .ok (.iconst 1, 1) := by decide +kernel
theorem dX11_goesOn_21 : decode cX11_goesOn 21 = .ok (.isub, 1) := by decide +kernel
theorem dX11_goesOn_22 : decode cX11_goesOn 22 = .ok (.invokevirtual 116, 3) := by decide +kernel
theorem dX11_goesOn_25 : decode cX11_goesOn 25 = .ok (.istore_n 2, 1) := by decide +kernel
theorem dX11_goesOn_26 : decode cX11_goesOn 26 = .ok (.aload_n 0, 1) := by decide +kernel
theorem dX11_goesOn_27 : decode cX11_goesOn 27 = .ok (.getfield 176, 3) := by decide +kernel
theorem dX11_goesOn_30 : decode cX11_goesOn 30 = .ok (.ifCond .lt 12, 3) := by decide +kernel
theorem dX11_goesOn_33 : decode cX11_goesOn 33 = .ok (.iload_n 2, 1) := by decide +kernel
theorem dX11_goesOn_34 : decode cX11_goesOn 34 = .ok (.aload_n 0, 1) := by decide +kernel
theorem dX11_goesOn_35 : decode cX11_goesOn 35 = .ok (.getfield 176, 3) := by decide +kernel
theorem dX11_goesOn_38 : decode cX11_goesOn 38 = .ok (.if_icmp .lt 4, 3) := by decide +kernel
theorem dX11_goesOn_41 : decode cX11_goesOn 41 = .ok (.return_, 1) := by decide +kernel
theorem dX11_goesOn_42 : decode cX11_goesOn 42 = .ok (.aload_n 0, 1) := by decide +kernel
theorem dX11_goesOn_43 : decode cX11_goesOn 43 = .ok (.iload_n 2, 1) := by decide +kernel
theorem dX11_goesOn_44 : decode cX11_goesOn 44 = .ok (.putfield 176, 3) := by decide +kernel
theorem dX11_goesOn_47 : decode cX11_goesOn 47 = .ok (.aload_n 0, 1) := by decide +kernel
theorem dX11_goesOn_48 : decode cX11_goesOn 48 = .ok (.iload_n 1, 1) := by decide +kernel
theorem dX11_goesOn_49 : decode cX11_goesOn 49 = .ok (.putfield 179, 3) := by decide +kernel
theorem dX11_goesOn_52 : decode cX11_goesOn 52 = .ok (.iconst 0, 1) := by decide +kernel
theorem dX11_goesOn_53 : decode cX11_goesOn 53 = .ok (.istore_n 3, 1) := by decide +kernel
theorem dX11_goesOn_54 : decode cX11_goesOn 54 = .ok (.iload_n 3, 1) := by decide +kernel
theorem dX11_goesOn_55 : decode cX11_goesOn 55 = .ok (.iconst 2, 1) := by decide +kernel
theorem dX11_goesOn_56 : decode cX11_goesOn 56 = .ok (.iload_n 1, 1) := by decide +kernel
theorem dX11_goesOn_57 : decode cX11_goesOn 57 = .ok (.imul, 1) := by decide +kernel
theorem dX11_goesOn_58 : decode cX11_goesOn 58 = .ok (.if_icmp .ge 24, 3) := by decide +kernel
theorem dX11_goesOn_61 : decode cX11_goesOn 61 = .ok (.aload_n 0, 1) := by decide +kernel
theorem dX11_goesOn_62 : decode cX11_goesOn 62 = .ok (.getfield 31, 3) := by decide +kernel
theorem dX11_goesOn_65 : decode cX11_goesOn 65 = .ok (.iload_n 3, 1) := by decide +kernel
theorem dX11_goesOn_66 : decode cX11_goesOn 66 = .ok (.aload_n 0, 1) := by decide +kernel
theorem dX11_goesOn_67 : decode cX11_goesOn 67 = .ok (.getfield 13, 3) := by decide +kernel
theorem dX11_goesOn_70 : decode cX11_goesOn 70 = .ok (.bipush 77, 2) := by decide +kernel
theorem dX11_goesOn_72 : decode cX11_goesOn 72 = .ok (.iload_n 3, 1) := by decide +kernel
theorem dX11_goesOn_73 : decode cX11_goesOn 73 = .ok (.iadd, 1) := by decide +kernel
theorem dX11_goesOn_74 : decode cX11_goesOn 74 = .ok (.iaload, 1) := by decide +kernel
theorem dX11_goesOn_75 : decode cX11_goesOn 75 = .ok (.iastore, 1) := by decide +kernel
theorem dX11_goesOn_76 : decode cX11_goesOn 76 = .ok (.iinc 3 1, 3) := by decide +kernel
theorem dX11_goesOn_79 : decode cX11_goesOn 79 = .ok (.goto (-25), 3) := by decide +kernel
theorem dX11_goesOn_82 : decode cX11_goesOn 82 = .ok (.return_, 1) := by decide +kernel
theorem dX11_goesOn_83 : decode cX11_goesOn 83 = .ok (.iconst 1, 1) := by decide +kernel
theorem dX11_goesOn_84 : decode cX11_goesOn 84 = .ok (.istore_n 2, 1) := by decide +kernel
theorem dX11_goesOn_85 : decode cX11_goesOn 85 = .ok (.iload_n 2, 1) := by decide +kernel
theorem dX11_goesOn_86 : decode cX11_goesOn 86 = .ok (.aload_n 0, 1) := by decide +kernel
theorem dX11_goesOn_87 : decode cX11_goesOn 87 = .ok (.getfield 13, 3) := by decide +kernel
theorem dX11_goesOn_90 : decode cX11_goesOn 90 = .ok (.iconst 0, 1) := by decide +kernel
theorem dX11_goesOn_91 : decode cX11_goesOn 91 = .ok (.iaload, 1) := by decide +kernel
theorem dX11_goesOn_92 : decode cX11_goesOn 92 = .ok (.if_icmp .ge 58, 3) := by decide +kernel
theorem dX11_goesOn_95 : decode cX11_goesOn 95 = .ok (.aload_n 0, 1) := by decide +kernel
theorem dX11_goesOn_96 : decode cX11_goesOn 96 = .ok (.iload_n 2, 1) := by decide +kernel
theorem dX11_goesOn_97 : decode cX11_goesOn 97 = .ok (.aload_n 0, 1) := by decide +kernel
theorem dX11_goesOn_98 : decode cX11_goesOn 98 = .ok (.getfield 13, 3) := by decide +kernel
theorem dX11_goesOn_101 : decode cX11_goesOn 101 = .ok (.iconst 3, 1) := by decide +kernel
theorem dX11_goesOn_102 : decode cX11_goesOn 102 = .ok (.iaload, 1) := by decide +kernel
theorem dX11_goesOn_103 : decode cX11_goesOn 103 = .ok (.invokevirtual 148, 3) := by decide +kernel
theorem dX11_goesOn_106 : decode cX11_goesOn 106 = .ok (.aload_n 0, 1) := by decide +kernel
theorem dX11_goesOn_107 : decode cX11_goesOn 107 = .ok (.getfield 13, 3) := by decide +kernel
theorem dX11_goesOn_110 : decode cX11_goesOn 110 = .ok (.bipush 15, 2) := by decide +kernel
theorem dX11_goesOn_112 : decode cX11_goesOn 112 = .ok (.iload_n 2, 1) := by decide +kernel
theorem dX11_goesOn_113 : decode cX11_goesOn 113 = .ok (.iadd, 1) := by decide +kernel
theorem dX11_goesOn_114 : decode cX11_goesOn 114 = .ok (.iaload, 1) := by decide +kernel
theorem dX11_goesOn_115 : decode cX11_goesOn 115 = .ok (.if_icmp .eq 29, 3) := by decide +kernel
theorem dX11_goesOn_118 : decode cX11_goesOn 118 = .ok (.aload_n 0, 1) := by decide +kernel
theorem dX11_goesOn_119 : decode cX11_goesOn 119 = .ok (.iload_n 2, 1) := by decide +kernel
theorem dX11_goesOn_120 : decode cX11_goesOn 120 = .ok (.invokevirtual 182, 3) := by decide +kernel
theorem dX11_goesOn_123 : decode cX11_goesOn 123 = .ok (.ifCond .ne 6, 3) := by decide +kernel
theorem dX11_goesOn_126 : decode cX11_goesOn 126 = .ok (.goto 18, 3) := by decide +kernel
theorem dX11_goesOn_129 : decode cX11_goesOn 129 = .ok (.aload_n 0, 1) := by decide +kernel
theorem dX11_goesOn_130 : decode cX11_goesOn 130 = .ok (.iload_n 1, 1) := by decide +kernel
theorem dX11_goesOn_131 : decode cX11_goesOn 131 = .ok (.invokevirtual 185, 3) := by decide +kernel
theorem dX11_goesOn_134 : decode cX11_goesOn 134 = .ok (.aload_n 0, 1) := by decide +kernel
theorem dX11_goesOn_135 : decode cX11_goesOn 135 = .ok (.getfield 13, 3) := by decide +kernel
theorem dX11_goesOn_138 : decode cX11_goesOn 138 = .ok (.iconst 3, 1) := by decide +kernel
theorem dX11_goesOn_139 : decode cX11_goesOn 139 = .ok (.dup2, 1) := by decide +kernel
theorem dX11_goesOn_140 : decode cX11_goesOn 140 = .ok (.iaload, 1) := by decide +kernel
theorem dX11_goesOn_141 : decode cX11_goesOn 141 = .ok (.iconst 1, 1) := by decide +kernel
theorem dX11_goesOn_142 : decode cX11_goesOn 142 = .ok (.isub, 1) := by decide +kernel
theorem dX11_goesOn_143 : decode cX11_goesOn 143 = .ok (.iastore, 1) := by decide +kernel
theorem dX11_goesOn_144 : decode cX11_goesOn 144 = .ok (.iinc 2 1, 3) := by decide +kernel
theorem dX11_goesOn_147 : decode cX11_goesOn 147 = .ok (.goto (-62), 3) := by decide +kernel
theorem dX11_goesOn_150 : decode cX11_goesOn 150 = .ok (.return_, 1) := by decide +kernel
set_option maxRecDepth 20000 in
theorem ggX11_findSoonest_X11_findMet : GoodIn wsX11_findSoonest wsX11_findMet := goodIn_r _ [8, 9, 1, 10, 11, 12, 7, 13, 14, 15, 16, 17, 18, 19, 20, 21, 92, 93, 94, 95, 96, 97, 98, 99, 100, 101, 102, 103, 104, 105, 106, 107, 108, 109, 110] (by decide +kernel) (by decide +kernel)
set_option maxRecDepth 20000 in
theorem gX11_findSoonest_X11_findMet : GoodIn wsX11_findSoonest (wsV RX11 170 RX11 yX11_findMet wsX11_findMet) := goodIn_app (goodIn_of _ (by decide +kernel)) ggX11_findSoonest_X11_findMet
set_option maxRecDepth 20000 in
theorem ggX11_findSoonest_X11_coatsInAll : GoodIn wsX11_findSoonest wsX11_coatsInAll := goodIn_r _ [25, 1, 92, 93, 94, 95, 96, 97, 98, 99, 100, 101, 102, 103, 104, 105, 106, 107, 108, 109, 110] (by decide +kernel) (by decide +kernel)
set_option maxRecDepth 20000 in
theorem gX11_findSoonest_X11_coatsInAll : GoodIn wsX11_findSoonest (wsV RX11 189 RX11 yX11_coatsInAll wsX11_coatsInAll) := goodIn_app (goodIn_of _ (by decide +kernel)) ggX11_findSoonest_X11_coatsInAll
set_option maxRecDepth 20000 in
theorem ggX11_findSoonest_X11_goesOn : GoodIn wsX11_findSoonest wsX11_goesOn := goodIn_r _ [29, 1, 3, 30, 31, 32, 33, 34, 7, 35, 36, 37, 38, 39, 40, 41, 42, 43, 44, 45, 46, 47, 48, 49, 50, 51, 52, 53, 54, 55, 56, 57, 58, 59, 60, 61, 62, 63, 18, 19, 20, 21, 64, 65, 66, 67, 68, 69, 70, 71, 10, 11, 12, 13, 14, 15, 16, 17, 72, 73, 74, 75, 76, 77, 78, 79, 80, 81, 82, 83, 84, 85, 86, 87, 9, 88, 89, 90, 91, 26, 27, 28, 92, 93, 94, 95, 96, 97, 98, 99, 100, 101, 102, 103, 104, 105, 106, 107, 108, 109, 110] (by decide +kernel) (by decide +kernel)
set_option maxRecDepth 20000 in
theorem gX11_findSoonest_X11_goesOn : GoodIn wsX11_findSoonest (wsV RX11 185 RX11 yX11_goesOn wsX11_goesOn) := goodIn_app (goodIn_of _ (by decide +kernel)) ggX11_findSoonest_X11_goesOn
theorem dX11_findSoonest_0 : decode cX11_findSoonest 0 = .ok (.aload_n 0, 1) := by decide +kernel
theorem dX11_findSoonest_1 : decode cX11_findSoonest 1 = .ok (.getfield 13, 3) := by decide +kernel
theorem dX11_findSoonest_4 : decode cX11_findSoonest 4 = .ok (.iconst 3, 1) := by decide +kernel
theorem dX11_findSoonest_5 : decode cX11_findSoonest 5 = .ok (.iaload, 1) := by decide +kernel
theorem dX11_findSoonest_6 : decode cX11_findSoonest 6 = .ok (.istore_n 1, 1) := by decide +kernel
theorem dX11_findSoonest_7 : decode cX11_findSoonest 7 = .ok (.iconst 0, 1) := by decide +kernel
theorem dX11_findSoonest_8 : decode cX11_findSoonest 8 = .ok (.istore_n 2, 1) := by decide +kernel
theorem dX11_findSoonest_9 : decode cX11_findSoonest 9 = .ok (.iload_n 2, 1) := by decide +kernel
theorem dX11_findSoonest_10 : decode cX11_findSoonest 10 = .ok (.bipush 16, 2) := by decide +kernel
theorem dX11_findSoonest_12 : decode cX11_findSoonest 12 = .ok (.if_icmp .ge 24, 3) := by decide +kernel
theorem dX11_findSoonest_15 : decode cX11_findSoonest 15 = .ok (.aload_n 0, 1) := by decide +kernel
theorem dX11_findSoonest_16 : decode cX11_findSoonest 16 = .ok (.getfield 34, 3) := by decide +kernel
theorem dX11_findSoonest_19 : decode cX11_findSoonest 19 = .ok (.iload_n 2, 1) := by decide +kernel
theorem dX11_findSoonest_20 : decode cX11_findSoonest 20 = .ok (.aload_n 0, 1) := by decide +kernel
theorem dX11_findSoonest_21 : decode cX11_findSoonest 21 = .ok (.getfield 13, 3) := by decide +kernel
theorem dX11_findSoonest_24 : decode cX11_findSoonest 24 = .ok (.bipush 77, 2) := by decide +kernel
theorem dX11_findSoonest_26 : decode cX11_findSoonest 26 = .ok (.iload_n 2, 1) := by decide +kernel
theorem dX11_findSoonest_27 : decode cX11_findSoonest 27 = .ok (.iadd, 1) := by decide +kernel
theorem dX11_findSoonest_28 : decode cX11_findSoonest 28 = .ok (.iaload, 1) := by decide +kernel
theorem dX11_findSoonest_29 : decode cX11_findSoonest 29 = .ok (.iastore, 1) := by decide +kernel
theorem dX11_findSoonest_30 : decode cX11_findSoonest 30 = .ok (.iinc 2 1, 3) := by decide +kernel
theorem dX11_findSoonest_33 : decode cX11_findSoonest 33 = .ok (.goto (-24), 3) := by decide +kernel
theorem dX11_findSoonest_36 : decode cX11_findSoonest 36 = .ok (.aload_n 0, 1) := by decide +kernel
theorem dX11_findSoonest_37 : decode cX11_findSoonest 37 = .ok (.getfield 13, 3) := by decide +kernel
theorem dX11_findSoonest_40 : decode cX11_findSoonest 40 = .ok (.iconst 3, 1) := by decide +kernel
theorem dX11_findSoonest_41 : decode cX11_findSoonest 41 = .ok (.iconst 0, 1) := by decide +kernel
theorem dX11_findSoonest_42 : decode cX11_findSoonest 42 = .ok (.iastore, 1) := by decide +kernel
theorem dX11_findSoonest_43 : decode cX11_findSoonest 43 = .ok (.aload_n 0, 1) := by decide +kernel
theorem dX11_findSoonest_44 : decode cX11_findSoonest 44 = .ok (.bipush (-9), 2) := by decide +kernel
theorem dX11_findSoonest_46 : decode cX11_findSoonest 46 = .ok (.putfield 176, 3) := by decide +kernel
theorem dX11_findSoonest_49 : decode cX11_findSoonest 49 = .ok (.aload_n 0, 1) := by decide +kernel
theorem dX11_findSoonest_50 : decode cX11_findSoonest 50 = .ok (.invokevirtual 170, 3) := by decide +kernel
theorem dX11_findSoonest_53 : decode cX11_findSoonest 53 = .ok (.aload_n 0, 1) := by decide +kernel
theorem dX11_findSoonest_54 : decode cX11_findSoonest 54 = .ok (.aload_n 0, 1) := by decide +kernel
theorem dX11_findSoonest_55 : decode cX11_findSoonest 55 = .ok (.invokevirtual 189, 3) := by decide +kernel
theorem dX11_findSoonest_58 : decode cX11_findSoonest 58 = .ok (.invokevirtual 185, 3) := by decide +kernel
theorem dX11_findSoonest_61 : decode cX11_findSoonest 61 = .ok (.aload_n 0, 1) := by decide +kernel
theorem dX11_findSoonest_62 : decode cX11_findSoonest 62 = .ok (.getfield 13, 3) := by decide +kernel
theorem dX11_findSoonest_65 : decode cX11_findSoonest 65 = .ok (.iconst 3, 1) := by decide +kernel
theorem dX11_findSoonest_66 : decode cX11_findSoonest 66 = .ok (.iload_n 1, 1) := by decide +kernel
theorem dX11_findSoonest_67 : decode cX11_findSoonest 67 = .ok (.iastore, 1) := by decide +kernel
theorem dX11_findSoonest_68 : decode cX11_findSoonest 68 = .ok (.iconst 0, 1) := by decide +kernel
theorem dX11_findSoonest_69 : decode cX11_findSoonest 69 = .ok (.istore_n 2, 1) := by decide +kernel
theorem dX11_findSoonest_70 : decode cX11_findSoonest 70 = .ok (.iload_n 2, 1) := by decide +kernel
theorem dX11_findSoonest_71 : decode cX11_findSoonest 71 = .ok (.bipush 16, 2) := by decide +kernel
theorem dX11_findSoonest_73 : decode cX11_findSoonest 73 = .ok (.if_icmp .ge 24, 3) := by decide +kernel
theorem dX11_findSoonest_76 : decode cX11_findSoonest 76 = .ok (.aload_n 0, 1) := by decide +kernel
theorem dX11_findSoonest_77 : decode cX11_findSoonest 77 = .ok (.getfield 13, 3) := by decide +kernel
theorem dX11_findSoonest_80 : decode cX11_findSoonest 80 = .ok (.bipush 77, 2) := by decide +kernel
theorem dX11_findSoonest_82 : decode cX11_findSoonest 82 = .ok (.iload_n 2, 1) := by decide +kernel
theorem dX11_findSoonest_83 : decode cX11_findSoonest 83 = .ok (.iadd, 1) := by decide +kernel
theorem dX11_findSoonest_84 : decode cX11_findSoonest 84 = .ok (.aload_n 0, 1) := by decide +kernel
theorem dX11_findSoonest_85 : decode cX11_findSoonest 85 = .ok (.getfield 34, 3) := by decide +kernel
theorem dX11_findSoonest_88 : decode cX11_findSoonest 88 = .ok (.iload_n 2, 1) := by decide +kernel
theorem dX11_findSoonest_89 : decode cX11_findSoonest 89 = .ok (.iaload, 1) := by decide +kernel
theorem dX11_findSoonest_90 : decode cX11_findSoonest 90 = .ok (.iastore, 1) := by decide +kernel
theorem dX11_findSoonest_91 : decode cX11_findSoonest 91 = .ok (.iinc 2 1, 3) := by decide +kernel
theorem dX11_findSoonest_94 : decode cX11_findSoonest 94 = .ok (.goto (-24), 3) := by decide +kernel
theorem dX11_findSoonest_97 : decode cX11_findSoonest 97 = .ok (.return_, 1) := by decide +kernel
set_option maxRecDepth 20000 in
theorem ggX11_wrongSoonest_X11_coatsInAll : GoodIn wsX11_wrongSoonest wsX11_coatsInAll := goodIn_r _ [6, 1, 7, 8, 9, 10, 11, 12, 13, 14, 15, 16, 17, 18, 19, 20, 21, 22, 23, 24, 25] (by decide +kernel) (by decide +kernel)
set_option maxRecDepth 20000 in
theorem gX11_wrongSoonest_X11_coatsInAll : GoodIn wsX11_wrongSoonest (wsV RX11 189 RX11 yX11_coatsInAll wsX11_coatsInAll) := goodIn_app (goodIn_of _ (by decide +kernel)) ggX11_wrongSoonest_X11_coatsInAll
theorem dX11_wrongSoonest_0 : decode cX11_wrongSoonest 0 = .ok (.aload_n 0, 1) := by decide +kernel
theorem dX11_wrongSoonest_1 : decode cX11_wrongSoonest 1 = .ok (.getfield 13, 3) := by decide +kernel
theorem dX11_wrongSoonest_4 : decode cX11_wrongSoonest 4 = .ok (.iconst 0, 1) := by decide +kernel
theorem dX11_wrongSoonest_5 : decode cX11_wrongSoonest 5 = .ok (.iaload, 1) := by decide +kernel
theorem dX11_wrongSoonest_6 : decode cX11_wrongSoonest 6 = .ok (.iconst 1, 1) := by decide +kernel
theorem dX11_wrongSoonest_7 : decode cX11_wrongSoonest 7 = .ok (.if_icmp .ne 8, 3) := by decide +kernel
theorem dX11_wrongSoonest_10 : decode cX11_wrongSoonest 10 = .ok (.bipush (-3), 2) := by decide +kernel
theorem dX11_wrongSoonest_12 : decode cX11_wrongSoonest 12 = .ok (.goto 18, 3) := by decide +kernel
theorem dX11_wrongSoonest_15 : decode cX11_wrongSoonest 15 = .ok (.aload_n 0, 1) := by decide +kernel
theorem dX11_wrongSoonest_16 : decode cX11_wrongSoonest 16 = .ok (.invokevirtual 189, 3) := by decide +kernel
theorem dX11_wrongSoonest_19 : decode cX11_wrongSoonest 19 = .ok (.bipush 6, 2) := by decide +kernel
theorem dX11_wrongSoonest_21 : decode cX11_wrongSoonest 21 = .ok (.if_icmp .le 8, 3) := by decide +kernel
theorem dX11_wrongSoonest_24 : decode cX11_wrongSoonest 24 = .ok (.bipush (-6), 2) := by decide +kernel
theorem dX11_wrongSoonest_26 : decode cX11_wrongSoonest 26 = .ok (.goto 4, 3) := by decide +kernel
theorem dX11_wrongSoonest_29 : decode cX11_wrongSoonest 29 = .ok (.iconst 0, 1) := by decide +kernel
theorem dX11_wrongSoonest_30 : decode cX11_wrongSoonest 30 = .ok (.ireturn, 1) := by decide +kernel
set_option maxRecDepth 20000 in
theorem ggX11_soonest_X11_wrongSoonest : GoodIn wsX11_soonest wsX11_wrongSoonest := goodIn_r _ [9, 2, 10, 11, 12, 8, 13, 105, 106, 107, 108, 109, 110, 111, 112, 113, 114, 115, 116, 117, 118, 119, 120, 121, 122, 123] (by decide +kernel) (by decide +kernel)
set_option maxRecDepth 20000 in
theorem gX11_soonest_X11_wrongSoonest : GoodIn wsX11_soonest (wsV RX11 192 RX11 yX11_wrongSoonest wsX11_wrongSoonest) := goodIn_app (goodIn_of _ (by decide +kernel)) ggX11_soonest_X11_wrongSoonest
set_option maxRecDepth 20000 in
theorem ggX11_soonest_X11_refuse : GoodIn wsX11_soonest wsX11_refuse := goodIn_r _ [17, 18, 105, 106, 107, 108, 109, 110, 111, 112, 113, 114, 115, 116, 117, 118, 119, 120, 121, 122, 123] (by decide +kernel) (by decide +kernel)
set_option maxRecDepth 20000 in
theorem gX11_soonest_X11_refuse : GoodIn wsX11_soonest (wsV RX11 54 RX11 yX11_refuse wsX11_refuse) := goodIn_app (goodIn_of _ (by decide +kernel)) ggX11_soonest_X11_refuse
set_option maxRecDepth 20000 in
theorem ggX11_soonest_X11_findSoonest : GoodIn wsX11_soonest wsX11_findSoonest := goodIn_r _ [22, 2, 23, 1, 24, 25, 26, 8, 27, 28, 29, 30, 31, 32, 33, 34, 35, 36, 37, 38, 39, 40, 10, 11, 12, 13, 41, 42, 43, 44, 3, 4, 45, 46, 47, 48, 49, 50, 51, 52, 53, 54, 55, 56, 57, 58, 59, 60, 61, 62, 63, 64, 65, 66, 67, 68, 69, 70, 71, 72, 73, 74, 75, 76, 77, 78, 79, 80, 81, 82, 83, 84, 85, 86, 87, 88, 89, 90, 91, 92, 93, 94, 95, 96, 97, 98, 99, 100, 101, 102, 103, 104, 105, 106, 107, 108, 109, 110, 111, 112, 113, 114, 115, 116, 117, 118, 119, 120, 121, 122, 123] (by decide +kernel) (by decide +kernel)
set_option maxRecDepth 20000 in
theorem gX11_soonest_X11_findSoonest : GoodIn wsX11_soonest (wsV RX11 195 RX11 yX11_findSoonest wsX11_findSoonest) := goodIn_app (goodIn_of _ (by decide +kernel)) ggX11_soonest_X11_findSoonest
theorem dX11_soonest_0 : decode cX11_soonest 0 = .ok (.aload_n 0, 1) := by decide +kernel
theorem dX11_soonest_1 : decode cX11_soonest 1 = .ok (.invokevirtual 192, 3) := by decide +kernel
theorem dX11_soonest_4 : decode cX11_soonest 4 = .ok (.istore_n 1, 1) := by decide +kernel
theorem dX11_soonest_5 : decode cX11_soonest 5 = .ok (.iload_n 1, 1) := by decide +kernel
theorem dX11_soonest_6 : decode cX11_soonest 6 = .ok (.ifCond .eq 9, 3) := by decide +kernel
theorem dX11_soonest_9 : decode cX11_soonest 9 = .ok (.aload_n 0, 1) := by decide +kernel
theorem dX11_soonest_10 : decode cX11_soonest 10 = .ok (.iload_n 1, 1) := by decide +kernel
theorem dX11_soonest_11 : decode cX11_soonest 11 = .ok (.invokevirtual 54, 3) := by decide +kernel
theorem dX11_soonest_14 : decode cX11_soonest 14 = .ok (.ireturn, 1) := by decide +kernel
theorem dX11_soonest_15 : decode cX11_soonest 15 = .ok (.aload_n 0, 1) := by decide +kernel
theorem dX11_soonest_16 : decode cX11_soonest 16 = .ok (.invokevirtual 195, 3) := by decide +kernel
theorem dX11_soonest_19 : decode cX11_soonest 19 = .ok (.aload_n 0, 1) := by decide +kernel
theorem dX11_soonest_20 : decode cX11_soonest 20 = .ok (.getfield 176, 3) := by decide +kernel
theorem dX11_soonest_23 : decode cX11_soonest 23 = .ok (.ifCond .ge 6, 3) := by decide +kernel
theorem dX11_soonest_26 : decode cX11_soonest 26 = .ok (.bipush (-9), 2) := by decide +kernel
theorem dX11_soonest_28 : decode cX11_soonest 28 = .ok (.ireturn, 1) := by decide +kernel
theorem dX11_soonest_29 : decode cX11_soonest 29 = .ok (.aload_n 0, 1) := by decide +kernel
theorem dX11_soonest_30 : decode cX11_soonest 30 = .ok (.getfield 13, 3) := by decide +kernel
theorem dX11_soonest_33 : decode cX11_soonest 33 = .ok (.iconst 3, 1) := by decide +kernel
theorem dX11_soonest_34 : decode cX11_soonest 34 = .ok (.aload_n 0, 1) := by decide +kernel
theorem dX11_soonest_35 : decode cX11_soonest 35 = .ok (.getfield 179, 3) := by decide +kernel
theorem dX11_soonest_38 : decode cX11_soonest 38 = .ok (.iastore, 1) := by decide +kernel
theorem dX11_soonest_39 : decode cX11_soonest 39 = .ok (.iconst 0, 1) := by decide +kernel
theorem dX11_soonest_40 : decode cX11_soonest 40 = .ok (.istore_n 2, 1) := by decide +kernel
theorem dX11_soonest_41 : decode cX11_soonest 41 = .ok (.iload_n 2, 1) := by decide +kernel
theorem dX11_soonest_42 : decode cX11_soonest 42 = .ok (.iconst 2, 1) := by decide +kernel
theorem dX11_soonest_43 : decode cX11_soonest 43 = .ok (.aload_n 0, 1) := by decide +kernel
theorem dX11_soonest_44 : decode cX11_soonest 44 = .ok (.getfield 179, 3) := by decide +kernel
theorem dX11_soonest_47 : decode cX11_soonest 47 = .ok (.imul, 1) := by decide +kernel
theorem dX11_soonest_48 : decode cX11_soonest 48 = .ok (.if_icmp .ge 24, 3) := by decide +kernel
theorem dX11_soonest_51 : decode cX11_soonest 51 = .ok (.aload_n 0, 1) := by decide +kernel
theorem dX11_soonest_52 : decode cX11_soonest 52 = .ok (.getfield 13, 3) := by decide +kernel
theorem dX11_soonest_55 : decode cX11_soonest 55 = .ok (.bipush 77, 2) := by decide +kernel
theorem dX11_soonest_57 : decode cX11_soonest 57 = .ok (.iload_n 2, 1) := by decide +kernel
theorem dX11_soonest_58 : decode cX11_soonest 58 = .ok (.iadd, 1) := by decide +kernel
theorem dX11_soonest_59 : decode cX11_soonest 59 = .ok (.aload_n 0, 1) := by decide +kernel
theorem dX11_soonest_60 : decode cX11_soonest 60 = .ok (.getfield 31, 3) := by decide +kernel
theorem dX11_soonest_63 : decode cX11_soonest 63 = .ok (.iload_n 2, 1) := by decide +kernel
theorem dX11_soonest_64 : decode cX11_soonest 64 = .ok (.iaload, 1) := by decide +kernel
theorem dX11_soonest_65 : decode cX11_soonest 65 = .ok (.iastore, 1) := by decide +kernel
theorem dX11_soonest_66 : decode cX11_soonest 66 = .ok (.iinc 2 1, 3) := by decide +kernel
theorem dX11_soonest_69 : decode cX11_soonest 69 = .ok (.goto (-28), 3) := by decide +kernel
theorem dX11_soonest_72 : decode cX11_soonest 72 = .ok (.aload_n 0, 1) := by decide +kernel
theorem dX11_soonest_73 : decode cX11_soonest 73 = .ok (.getfield 176, 3) := by decide +kernel
theorem dX11_soonest_76 : decode cX11_soonest 76 = .ok (.ireturn, 1) := by decide +kernel
theorem dX11_bits_0 : decode cX11_bits 0 = .ok (.iconst 0, 1) := by decide +kernel
theorem dX11_bits_1 : decode cX11_bits 1 = .ok (.istore_n 1, 1) := by decide +kernel
theorem dX11_bits_2 : decode cX11_bits 2 = .ok (.iload_n 0, 1) := by decide +kernel
theorem dX11_bits_3 : decode cX11_bits 3 = .ok (.istore_n 2, 1) := by decide +kernel
theorem dX11_bits_4 : decode cX11_bits 4 = .ok (.iload_n 2, 1) := by decide +kernel
theorem dX11_bits_5 : decode cX11_bits 5 = .ok (.ifCond .le 16, 3) := by decide +kernel
theorem dX11_bits_8 : decode cX11_bits 8 = .ok (.iload_n 1, 1) := by decide +kernel
theorem dX11_bits_9 : decode cX11_bits 9 = .ok (.iload_n 2, 1) := by decide +kernel
theorem dX11_bits_10 : decode cX11_bits 10 = .ok (.iconst 1, 1) := by decide +kernel
theorem dX11_bits_11 : decode cX11_bits 11 = .ok (.iand, 1) := by decide +kernel
theorem dX11_bits_12 : decode cX11_bits 12 = .ok (.iadd, 1) := by decide +kernel
theorem dX11_bits_13 : decode cX11_bits 13 = .ok (.istore_n 1, 1) := by decide +kernel
theorem dX11_bits_14 : decode cX11_bits 14 = .ok (.iload_n 2, 1) := by decide +kernel
theorem dX11_bits_15 : decode cX11_bits 15 = .ok (.iconst 1, 1) := by decide +kernel
theorem dX11_bits_16 : decode cX11_bits 16 = .ok (.ishr, 1) := by decide +kernel
theorem dX11_bits_17 : decode cX11_bits 17 = .ok (.istore_n 2, 1) := by decide +kernel
theorem dX11_bits_18 : decode cX11_bits 18 = .ok (.goto (-14), 3) := by decide +kernel
theorem dX11_bits_21 : decode cX11_bits 21 = .ok (.iload_n 1, 1) := by decide +kernel
theorem dX11_bits_22 : decode cX11_bits 22 = .ok (.ireturn, 1) := by decide +kernel
set_option maxRecDepth 20000 in
theorem ggX11_fewest_X11_within : GoodIn wsX11_fewest wsX11_within := goodIn_r _ [6] (by decide +kernel) (by decide +kernel)
set_option maxRecDepth 20000 in
theorem gX11_fewest_X11_within : GoodIn wsX11_fewest (va_wsS RX11 103 yX11_within wsX11_within) := goodIn_app (goodIn_of _ (by decide +kernel)) ggX11_fewest_X11_within
set_option maxRecDepth 20000 in
theorem ggX11_fewest_X11_wrongSoonest : GoodIn wsX11_fewest wsX11_wrongSoonest := goodIn_r _ [10, 1, 11, 12, 13, 5, 14, 115, 116, 117, 118, 119, 120, 121, 122, 123, 124, 125, 126, 127, 128, 129, 130, 131, 132, 133] (by decide +kernel) (by decide +kernel)
set_option maxRecDepth 20000 in
theorem gX11_fewest_X11_wrongSoonest : GoodIn wsX11_fewest (wsV RX11 192 RX11 yX11_wrongSoonest wsX11_wrongSoonest) := goodIn_app (goodIn_of _ (by decide +kernel)) ggX11_fewest_X11_wrongSoonest
set_option maxRecDepth 20000 in
theorem ggX11_fewest_X11_refuse : GoodIn wsX11_fewest wsX11_refuse := goodIn_r _ [18, 19, 115, 116, 117, 118, 119, 120, 121, 122, 123, 124, 125, 126, 127, 128, 129, 130, 131, 132, 133] (by decide +kernel) (by decide +kernel)
set_option maxRecDepth 20000 in
theorem gX11_fewest_X11_refuse : GoodIn wsX11_fewest (wsV RX11 54 RX11 yX11_refuse wsX11_refuse) := goodIn_app (goodIn_of _ (by decide +kernel)) ggX11_fewest_X11_refuse
set_option maxRecDepth 20000 in
theorem ggX11_fewest_X11_bits : GoodIn wsX11_fewest wsX11_bits := goodIn_r _ [22] (by decide +kernel) (by decide +kernel)
set_option maxRecDepth 20000 in
theorem gX11_fewest_X11_bits : GoodIn wsX11_fewest (va_wsS RX11 198 yX11_bits wsX11_bits) := goodIn_app (goodIn_of _ (by decide +kernel)) ggX11_fewest_X11_bits
set_option maxRecDepth 20000 in
theorem ggX11_fewest_X11_allRooms : GoodIn wsX11_fewest wsX11_allRooms := goodIn_r _ [26, 1, 115, 116, 117, 118, 119, 120, 121, 122, 123, 124, 125, 126, 127, 128, 129, 130, 131, 132, 133] (by decide +kernel) (by decide +kernel)
set_option maxRecDepth 20000 in
theorem gX11_fewest_X11_allRooms : GoodIn wsX11_fewest (wsV RX11 107 RX11 yX11_allRooms wsX11_allRooms) := goodIn_app (goodIn_of _ (by decide +kernel)) ggX11_fewest_X11_allRooms
set_option maxRecDepth 20000 in
theorem ggX11_fewest_X11_findSoonest : GoodIn wsX11_fewest wsX11_findSoonest := goodIn_r _ [30, 1, 31, 2, 32, 33, 34, 5, 35, 36, 37, 38, 39, 40, 41, 42, 43, 44, 45, 46, 47, 48, 11, 12, 13, 14, 49, 50, 51, 52, 53, 54, 55, 56, 57, 58, 59, 60, 61, 62, 63, 64, 65, 66, 67, 68, 69, 70, 71, 72, 73, 74, 75, 76, 77, 78, 79, 80, 81, 82, 83, 84, 85, 86, 87, 88, 89, 90, 91, 92, 93, 94, 95, 96, 97, 98, 99, 100, 101, 102, 103, 104, 105, 106, 107, 108, 109, 110, 111, 112, 113, 114, 115, 116, 117, 118, 119, 120, 121, 122, 123, 124, 125, 126, 127, 128, 129, 130, 131, 132, 133] (by decide +kernel) (by decide +kernel)
set_option maxRecDepth 20000 in
theorem gX11_fewest_X11_findSoonest : GoodIn wsX11_fewest (wsV RX11 195 RX11 yX11_findSoonest wsX11_findSoonest) := goodIn_app (goodIn_of _ (by decide +kernel)) ggX11_fewest_X11_findSoonest
theorem dX11_fewest_0 : decode cX11_fewest 0 = .ok (.aload_n 0, 1) := by decide +kernel
theorem dX11_fewest_1 : decode cX11_fewest 1 = .ok (.getfield 13, 3) := by decide +kernel
theorem dX11_fewest_4 : decode cX11_fewest 4 = .ok (.iconst 0, 1) := by decide +kernel
theorem dX11_fewest_5 : decode cX11_fewest 5 = .ok (.iaload, 1) := by decide +kernel
theorem dX11_fewest_6 : decode cX11_fewest 6 = .ok (.iconst 1, 1) := by decide +kernel
theorem dX11_fewest_7 : decode cX11_fewest 7 = .ok (.if_icmp .ne 8, 3) := by decide +kernel
theorem dX11_fewest_10 : decode cX11_fewest 10 = .ok (.bipush (-3), 2) := by decide +kernel
theorem dX11_fewest_12 : decode cX11_fewest 12 = .ok (.goto 10, 3) := by decide +kernel
theorem dX11_fewest_15 : decode cX11_fewest 15 = .ok (.iload_n 1, 1) := by decide +kernel
theorem dX11_fewest_16 : decode cX11_fewest 16 = .ok (.iconst 0, 1) := by decide +kernel
theorem dX11_fewest_17 : decode cX11_fewest 17 = .ok (.bipush 99, 2) := by decide +kernel
theorem dX11_fewest_19 : decode cX11_fewest 19 = .ok (.invokestatic 103, 3) := by decide +kernel
theorem dX11_fewest_22 : decode cX11_fewest 22 = .ok (.istore_n 2, 1) := by decide +kernel
theorem dX11_fewest_23 : decode cX11_fewest 23 = .ok (.iload_n 2, 1) := by decide +kernel
theorem dX11_fewest_24 : decode cX11_fewest 24 = .ok (.ifCond .ne 8, 3) := by decide +kernel
theorem dX11_fewest_27 : decode cX11_fewest 27 = .ok (.aload_n 0, 1) := by decide +kernel
theorem dX11_fewest_28 : decode cX11_fewest 28 = .ok (.invokevirtual 192, 3) := by decide +kernel
theorem dX11_fewest_31 : decode cX11_fewest 31 = .ok (.istore_n 2, 1) := by decide +kernel
theorem dX11_fewest_32 : decode cX11_fewest 32 = .ok (.iload_n 2, 1) := by decide +kernel
theorem dX11_fewest_33 : decode cX11_fewest 33 = .ok (.ifCond .eq 9, 3) := by decide +kernel
theorem dX11_fewest_36 : decode cX11_fewest 36 = .ok (.aload_n 0, 1) := by decide +kernel
theorem dX11_fewest_37 : decode cX11_fewest 37 = .ok (.iload_n 2, 1) := by decide +kernel
theorem dX11_fewest_38 : decode cX11_fewest 38 = .ok (.invokevirtual 54, 3) := by decide +kernel
theorem dX11_fewest_41 : decode cX11_fewest 41 = .ok (.ireturn, 1) := by decide +kernel
theorem dX11_fewest_42 : decode cX11_fewest 42 = .ok (.aload_n 0, 1) := by decide +kernel
theorem dX11_fewest_43 : decode cX11_fewest 43 = .ok (.getfield 13, 3) := by decide +kernel
theorem dX11_fewest_46 : decode cX11_fewest 46 = .ok (.bipush 8, 2) := by decide +kernel
theorem dX11_fewest_48 : decode cX11_fewest 48 = .ok (.iaload, 1) := by decide +kernel
theorem dX11_fewest_49 : decode cX11_fewest 49 = .ok (.istore_n 3, 1) := by decide +kernel
theorem dX11_fewest_50 : decode cX11_fewest 50 = .ok (.bipush (-9), 2) := by decide +kernel
theorem dX11_fewest_52 : decode cX11_fewest 52 = .ok (.istore 4, 2) := by decide +kernel
theorem dX11_fewest_54 : decode cX11_fewest 54 = .ok (.iconst 0, 1) := by decide +kernel
theorem dX11_fewest_55 : decode cX11_fewest 55 = .ok (.istore 5, 2) := by decide +kernel
theorem dX11_fewest_57 : decode cX11_fewest 57 = .ok (.iload 5, 2) := by decide +kernel
theorem dX11_fewest_59 : decode cX11_fewest 59 = .ok (.bipush 6, 2) := by decide +kernel
theorem dX11_fewest_61 : decode cX11_fewest 61 = .ok (.if_icmp .ge 97, 3) := by decide +kernel
theorem dX11_fewest_64 : decode cX11_fewest 64 = .ok (.iload 4, 2) := by decide +kernel
theorem dX11_fewest_66 : decode cX11_fewest 66 = .ok (.ifCond .ge 92, 3) := by decide +kernel
theorem dX11_fewest_69 : decode cX11_fewest 69 = .ok (.iconst 0, 1) := by decide +kernel
theorem dX11_fewest_70 : decode cX11_fewest 70 = .ok (.istore 6, 2) := by decide +kernel
theorem dX11_fewest_72 : decode cX11_fewest 72 = .ok (.iload 6, 2) := by decide +kernel
theorem dX11_fewest_74 : decode cX11_fewest 74 = .ok (.bipush 64, 2) := by decide +kernel
theorem dX11_fewest_76 : decode cX11_fewest 76 = .ok (.if_icmp .ge 76, 3) := by decide +kernel
theorem dX11_fewest_79 : decode cX11_fewest 79 = .ok (.iload 4, 2) := by decide +kernel
theorem dX11_fewest_81 : decode cX11_fewest 81 = .ok (.ifCond .ge 71, 3) := by decide +kernel
theorem dX11_fewest_84 : decode cX11_fewest 84 = .ok (.iload 6, 2) := by decide +kernel
theorem dX11_fewest_86 : decode cX11_fewest 86 = .ok (.invokestatic 198, 3) := by decide +kernel
theorem dX11_fewest_89 : decode cX11_fewest 89 = .ok (.iload 5, 2) := by decide +kernel
theorem dX11_fewest_91 : decode cX11_fewest 91 = .ok (.if_icmp .ne 55, 3) := by decide +kernel
theorem dX11_fewest_94 : decode cX11_fewest 94 = .ok (.iload 6, 2) := by decide +kernel
theorem dX11_fewest_96 : decode cX11_fewest 96 = .ok (.aload_n 0, 1) := by decide +kernel
theorem dX11_fewest_97 : decode cX11_fewest 97 = .ok (.invokevirtual 107, 3) := by decide +kernel
theorem dX11_fewest_100 : decode cX11_fewest 100 = .ok (.iconst (-1), 1) := by decide +kernel
theorem dX11_fewest_101 : decode cX11_fewest 101 = .ok (.ixor, 1) := by decide +kernel
theorem dX11_fewest_102 : decode cX11_fewest 102 = .ok (.iand, 1) := by decide +kernel
theorem dX11_fewest_103 : decode cX11_fewest 103 = .ok (.ifCond .eq 6, 3) := by decide +kernel
theorem dX11_fewest_106 : decode cX11_fewest 106 = .ok (.goto 40, 3) := by decide +kernel
theorem dX11_fewest_109 : decode cX11_fewest 109 = .ok (.aload_n 0, 1) := by decide +kernel
theorem dX11_fewest_110 : decode cX11_fewest 110 = .ok (.getfield 13, 3) := by decide +kernel
theorem dX11_fewest_113 : decode cX11_fewest 113 = .ok (.bipush 8, 2) := by decide +kernel
theorem dX11_fewest_115 : decode cX11_fewest 115 = .ok (.iload 6, 2) := by decide +kernel
theorem dX11_fewest_117 : decode cX11_fewest 117 = .ok (.iastore, 1) := by decide +kernel
theorem dX11_fewest_118 : decode cX11_fewest 118 = .ok (.aload_n 0, 1) := by decide +kernel
theorem dX11_fewest_119 : decode cX11_fewest 119 = .ok (.invokevirtual 195, 3) := by decide +kernel
theorem dX11_fewest_122 : decode cX11_fewest 122 = .ok (.aload_n 0, 1) := by decide +kernel
theorem dX11_fewest_123 : decode cX11_fewest 123 = .ok (.getfield 176, 3) := by decide +kernel
theorem dX11_fewest_126 : decode cX11_fewest 126 = .ok (.ifCond .lt 16, 3) := by decide +kernel
theorem dX11_fewest_129 : decode cX11_fewest 129 = .ok (.aload_n 0, 1) := by decide +kernel
theorem dX11_fewest_130 : decode cX11_fewest 130 = .ok (.getfield 176, 3) := by decide +kernel
theorem dX11_fewest_133 : decode cX11_fewest 133 = .ok (.iload_n 1, 1) := by decide +kernel
theorem dX11_fewest_134 : decode cX11_fewest 134 = .ok (.if_icmp .gt 8, 3) := by decide +kernel
theorem dX11_fewest_137 : decode cX11_fewest 137 = .ok (.iload 6, 2) := by decide +kernel
theorem dX11_fewest_139 : decode cX11_fewest 139 = .ok (.goto 5, 3) := by decide +kernel
theorem dX11_fewest_142 : decode cX11_fewest 142 = .ok (.bipush (-9), 2) := by decide +kernel
theorem dX11_fewest_144 : decode cX11_fewest 144 = .ok (.istore 4, 2) := by decide +kernel
theorem dX11_fewest_146 : decode cX11_fewest 146 = .ok (.iinc 6 2, 3) := by decide +kernel
theorem dX11_fewest_149 : decode cX11_fewest 149 = .ok (.goto (-77), 3) := by decide +kernel
theorem dX11_fewest_152 : decode cX11_fewest 152 = .ok (.iinc 5 1, 3) := by decide +kernel
theorem dX11_fewest_155 : decode cX11_fewest 155 = .ok (.goto (-98), 3) := by decide +kernel
theorem dX11_fewest_158 : decode cX11_fewest 158 = .ok (.aload_n 0, 1) := by decide +kernel
theorem dX11_fewest_159 : decode cX11_fewest 159 = .ok (.getfield 13, 3) := by decide +kernel
theorem dX11_fewest_162 : decode cX11_fewest 162 = .ok (.bipush 8, 2) := by decide +kernel
theorem dX11_fewest_164 : decode cX11_fewest 164 = .ok (.iload_n 3, 1) := by decide +kernel
theorem dX11_fewest_165 : decode cX11_fewest 165 = .ok (.iastore, 1) := by decide +kernel
theorem dX11_fewest_166 : decode cX11_fewest 166 = .ok (.iload 4, 2) := by decide +kernel
theorem dX11_fewest_168 : decode cX11_fewest 168 = .ok (.ireturn, 1) := by decide +kernel
set_option maxRecDepth 20000 in
theorem ggX11_cuts_X11_comesTo : GoodIn wsX11_cuts wsX11_comesTo := goodIn_r _ [6, 7, 8, 9, 5, 10, 1, 11, 12, 13, 14, 15, 16, 17, 18, 19, 20, 21, 22, 23, 24, 25, 26, 27, 28, 29, 30, 31, 32, 33] (by decide +kernel) (by decide +kernel)
set_option maxRecDepth 20000 in
theorem gX11_cuts_X11_comesTo : GoodIn wsX11_cuts (wsV RX11 138 RX11 yX11_comesTo wsX11_comesTo) := goodIn_app (goodIn_of _ (by decide +kernel)) ggX11_cuts_X11_comesTo
theorem dX11_cuts_0 : decode cX11_cuts 0 = .ok (.iconst 0, 1) := by decide +kernel
theorem dX11_cuts_1 : decode cX11_cuts 1 = .ok (.istore_n 1, 1) := by decide +kernel
theorem dX11_cuts_2 : decode cX11_cuts 2 = .ok (.iconst 1, 1) := by decide +kernel
theorem dX11_cuts_3 : decode cX11_cuts 3 = .ok (.istore_n 2, 1) := by decide +kernel
theorem dX11_cuts_4 : decode cX11_cuts 4 = .ok (.iload_n 2, 1) := by decide +kernel
theorem dX11_cuts_5 : decode cX11_cuts 5 = .ok (.aload_n 0, 1) := by decide +kernel
theorem dX11_cuts_6 : decode cX11_cuts 6 = .ok (.getfield 13, 3) := by decide +kernel
theorem dX11_cuts_9 : decode cX11_cuts 9 = .ok (.iconst 0, 1) := by decide +kernel
theorem dX11_cuts_10 : decode cX11_cuts 10 = .ok (.iaload, 1) := by decide +kernel
theorem dX11_cuts_11 : decode cX11_cuts 11 = .ok (.if_icmp .ge 86, 3) := by decide +kernel
theorem dX11_cuts_14 : decode cX11_cuts 14 = .ok (.iconst 1, 1) := by decide +kernel
theorem dX11_cuts_15 : decode cX11_cuts 15 = .ok (.aload_n 0, 1) := by decide +kernel
theorem dX11_cuts_16 : decode cX11_cuts 16 = .ok (.getfield 13, 3) := by decide +kernel
theorem dX11_cuts_19 : decode cX11_cuts 19 = .ok (.iconst 0, 1) := by decide +kernel
theorem dX11_cuts_20 : decode cX11_cuts 20 = .ok (.iaload, 1) := by decide +kernel
theorem dX11_cuts_21 : decode cX11_cuts 21 = .ok (.ishl, 1) := by decide +kernel
theorem dX11_cuts_22 : decode cX11_cuts 22 = .ok (.iconst 1, 1) := by decide +kernel
theorem dX11_cuts_23 : decode cX11_cuts 23 = .ok (.isub, 1) := by decide +kernel
theorem dX11_cuts_24 : decode cX11_cuts 24 = .ok (.iconst 1, 1) := by decide +kernel
theorem dX11_cuts_25 : decode cX11_cuts 25 = .ok (.iload_n 2, 1) := by decide +kernel
theorem dX11_cuts_26 : decode cX11_cuts 26 = .ok (.ishl, 1) := by decide +kernel
theorem dX11_cuts_27 : decode cX11_cuts 27 = .ok (.iconst (-1), 1) := by decide +kernel
theorem dX11_cuts_28 : decode cX11_cuts 28 = .ok (.ixor, 1) := by decide +kernel
theorem dX11_cuts_29 : decode cX11_cuts 29 = .ok (.iand, 1) := by decide +kernel
theorem dX11_cuts_30 : decode cX11_cuts 30 = .ok (.istore_n 3, 1) := by decide +kernel
theorem dX11_cuts_31 : decode cX11_cuts 31 = .ok (.iconst 0, 1) := by decide +kernel
theorem dX11_cuts_32 : decode cX11_cuts 32 = .ok (.istore 4, 2) := by decide +kernel
theorem dX11_cuts_34 : decode cX11_cuts 34 = .ok (.iload 4, 2) := by decide +kernel
theorem dX11_cuts_36 : decode cX11_cuts 36 = .ok (.aload_n 0, 1) := by decide +kernel
theorem dX11_cuts_37 : decode cX11_cuts 37 = .ok (.getfield 13, 3) := by decide +kernel
theorem dX11_cuts_40 : decode cX11_cuts 40 = .ok (.iconst 2, 1) := by decide +kernel
theorem dX11_cuts_41 : decode cX11_cuts 41 = .ok (.iaload, 1) := by decide +kernel
theorem dX11_cuts_42 : decode cX11_cuts 42 = .ok (.if_icmp .ge 49, 3) := by decide +kernel
theorem dX11_cuts_45 : decode cX11_cuts 45 = .ok (.aload_n 0, 1) := by decide +kernel
theorem dX11_cuts_46 : decode cX11_cuts 46 = .ok (.aload_n 0, 1) := by decide +kernel
theorem dX11_cuts_47 : decode cX11_cuts 47 = .ok (.getfield 13, 3) := by decide +kernel
theorem dX11_cuts_50 : decode cX11_cuts 50 = .ok (.bipush 45, 2) := by decide +kernel
theorem dX11_cuts_52 : decode cX11_cuts 52 = .ok (.iconst 4, 1) := by decide +kernel
theorem dX11_cuts_53 : decode cX11_cuts 53 = .ok (.iload 4, 2) := by decide +kernel
theorem dX11_cuts_55 : decode cX11_cuts 55 = .ok (.imul, 1) := by decide +kernel
theorem dX11_cuts_56 : decode cX11_cuts 56 = .ok (.iadd, 1) := by decide +kernel
theorem dX11_cuts_57 : decode cX11_cuts 57 = .ok (.iaload, 1) := by decide +kernel
theorem dX11_cuts_58 : decode cX11_cuts 58 = .ok (.aload_n 0, 1) := by decide +kernel
theorem dX11_cuts_59 : decode cX11_cuts 59 = .ok (.getfield 13, 3) := by decide +kernel
theorem dX11_cuts_62 : decode cX11_cuts 62 = .ok (.bipush 45, 2) := by decide +kernel
theorem dX11_cuts_64 : decode cX11_cuts 64 = .ok (.iconst 4, 1) := by decide +kernel
theorem dX11_cuts_65 : decode cX11_cuts 65 = .ok (.iload 4, 2) := by decide +kernel
theorem dX11_cuts_67 : decode cX11_cuts 67 = .ok (.imul, 1) := by decide +kernel
theorem dX11_cuts_68 : decode cX11_cuts 68 = .ok (.iadd, 1) := by decide +kernel
theorem dX11_cuts_69 : decode cX11_cuts 69 = .ok (.iconst 1, 1) := by decide +kernel
theorem dX11_cuts_70 : decode cX11_cuts 70 = .ok (.iadd, 1) := by decide +kernel
theorem dX11_cuts_71 : decode cX11_cuts 71 = .ok (.iaload, 1) := by decide +kernel
theorem dX11_cuts_72 : decode cX11_cuts 72 = .ok (.iload_n 3, 1) := by decide +kernel
theorem dX11_cuts_73 : decode cX11_cuts 73 = .ok (.invokevirtual 138, 3) := by decide +kernel
theorem dX11_cuts_76 : decode cX11_cuts 76 = .ok (.ifCond .ne 9, 3) := by decide +kernel
theorem dX11_cuts_79 : decode cX11_cuts 79 = .ok (.iload_n 1, 1) := by decide +kernel
theorem dX11_cuts_80 : decode cX11_cuts 80 = .ok (.iconst 1, 1) := by decide +kernel
theorem dX11_cuts_81 : decode cX11_cuts 81 = .ok (.iload_n 2, 1) := by decide +kernel
theorem dX11_cuts_82 : decode cX11_cuts 82 = .ok (.ishl, 1) := by decide +kernel
theorem dX11_cuts_83 : decode cX11_cuts 83 = .ok (.ior, 1) := by decide +kernel
theorem dX11_cuts_84 : decode cX11_cuts 84 = .ok (.istore_n 1, 1) := by decide +kernel
theorem dX11_cuts_85 : decode cX11_cuts 85 = .ok (.iinc 4 1, 3) := by decide +kernel
theorem dX11_cuts_88 : decode cX11_cuts 88 = .ok (.goto (-54), 3) := by decide +kernel
theorem dX11_cuts_91 : decode cX11_cuts 91 = .ok (.iinc 2 1, 3) := by decide +kernel
theorem dX11_cuts_94 : decode cX11_cuts 94 = .ok (.goto (-90), 3) := by decide +kernel
theorem dX11_cuts_97 : decode cX11_cuts 97 = .ok (.iload_n 1, 1) := by decide +kernel
theorem dX11_cuts_98 : decode cX11_cuts 98 = .ok (.ireturn, 1) := by decide +kernel
set_option maxRecDepth 20000 in
theorem ggX11_way_X11_isPlace : GoodIn wsX11_way wsX11_isPlace := goodIn_r _ [6, 1, 7, 8, 5, 9, 46, 47, 48, 49, 50, 51, 52, 53, 54, 55, 56, 57, 58, 59, 60, 61, 62, 63, 64] (by decide +kernel) (by decide +kernel)
set_option maxRecDepth 20000 in
theorem gX11_way_X11_isPlace : GoodIn wsX11_way (wsV RX11 50 RX11 yX11_isPlace wsX11_isPlace) := goodIn_app (goodIn_of _ (by decide +kernel)) ggX11_way_X11_isPlace
set_option maxRecDepth 20000 in
theorem ggX11_way_X11_within : GoodIn wsX11_way wsX11_within := goodIn_r _ [12] (by decide +kernel) (by decide +kernel)
set_option maxRecDepth 20000 in
theorem gX11_way_X11_within : GoodIn wsX11_way (va_wsS RX11 103 yX11_within wsX11_within) := goodIn_app (goodIn_of _ (by decide +kernel)) ggX11_way_X11_within
set_option maxRecDepth 20000 in
theorem ggX11_way_X11_refuse : GoodIn wsX11_way wsX11_refuse := goodIn_r _ [16, 17, 46, 47, 48, 49, 50, 51, 52, 53, 54, 55, 56, 57, 58, 59, 60, 61, 62, 63, 64] (by decide +kernel) (by decide +kernel)
set_option maxRecDepth 20000 in
theorem gX11_way_X11_refuse : GoodIn wsX11_way (wsV RX11 54 RX11 yX11_refuse wsX11_refuse) := goodIn_app (goodIn_of _ (by decide +kernel)) ggX11_way_X11_refuse
set_option maxRecDepth 20000 in
theorem ggX11_way_X11_openAt : GoodIn wsX11_way wsX11_openAt := goodIn_r _ [21, 1, 22, 23, 24, 5, 25, 26, 27, 28, 29, 30, 31, 32, 33, 34, 35, 36, 37, 46, 47, 48, 49, 50, 51, 52, 53, 54, 55, 56, 57, 58, 59, 60, 61, 62, 63, 64] (by decide +kernel) (by decide +kernel)
set_option maxRecDepth 20000 in
theorem gX11_way_X11_openAt : GoodIn wsX11_way (wsV RX11 131 RX11 yX11_openAt wsX11_openAt) := goodIn_app (goodIn_of _ (by decide +kernel)) ggX11_way_X11_openAt
set_option maxRecDepth 20000 in
theorem ggX11_way_X11_wayOf : GoodIn wsX11_way wsX11_wayOf := goodIn_r _ [41, 1, 42, 43, 44, 5, 45, 46, 47, 48, 49, 50, 51, 52, 53, 54, 55, 56, 57, 58, 59, 60, 61, 62, 63, 64] (by decide +kernel) (by decide +kernel)
set_option maxRecDepth 20000 in
theorem gX11_way_X11_wayOf : GoodIn wsX11_way (wsV RX11 125 RX11 yX11_wayOf wsX11_wayOf) := goodIn_app (goodIn_of _ (by decide +kernel)) ggX11_way_X11_wayOf
theorem dX11_way_0 : decode cX11_way 0 = .ok (.aload_n 0, 1) := by decide +kernel
theorem dX11_way_1 : decode cX11_way 1 = .ok (.iload_n 1, 1) := by decide +kernel
theorem dX11_way_2 : decode cX11_way 2 = .ok (.invokevirtual 50, 3) := by decide +kernel
theorem dX11_way_5 : decode cX11_way 5 = .ok (.ifCond .eq 21, 3) := by decide +kernel
theorem dX11_way_8 : decode cX11_way 8 = .ok (.aload_n 0, 1) := by decide +kernel
theorem dX11_way_9 : decode cX11_way 9 = .ok (.iload_n 2, 1) := by decide +kernel
theorem dX11_way_10 : decode cX11_way 10 = .ok (.invokevirtual 50, 3) := by decide +kernel
theorem dX11_way_13 : decode cX11_way 13 = .ok (.ifCond .eq 13, 3) := by decide +kernel
theorem dX11_way_16 : decode cX11_way 16 = .ok (.iload_n 3, 1) := by decide +kernel
theorem dX11_way_17 : decode cX11_way 17 = .ok (.iconst 0, 1) := by decide +kernel
theorem dX11_way_18 : decode cX11_way 18 = .ok (.bipush 99, 2) := by decide +kernel
theorem dX11_way_20 : decode cX11_way 20 = .ok (.invokestatic 103, 3) := by decide +kernel
theorem dX11_way_23 : decode cX11_way 23 = .ok (.goto 4, 3) := by decide +kernel
theorem dX11_way_26 : decode cX11_way 26 = .ok (.iconst (-1), 1) := by decide +kernel
theorem dX11_way_27 : decode cX11_way 27 = .ok (.istore 4, 2) := by decide +kernel
theorem dX11_way_29 : decode cX11_way 29 = .ok (.iload 4, 2) := by decide +kernel
theorem dX11_way_31 : decode cX11_way 31 = .ok (.ifCond .eq 12, 3) := by decide +kernel
theorem dX11_way_34 : decode cX11_way 34 = .ok (.aload_n 0, 1) := by decide +kernel
theorem dX11_way_35 : decode cX11_way 35 = .ok (.iload 4, 2) := by decide +kernel
theorem dX11_way_37 : decode cX11_way 37 = .ok (.invokevirtual 54, 3) := by decide +kernel
theorem dX11_way_40 : decode cX11_way 40 = .ok (.goto 20, 3) := by decide +kernel
theorem dX11_way_43 : decode cX11_way 43 = .ok (.aload_n 0, 1) := by decide +kernel
theorem dX11_way_44 : decode cX11_way 44 = .ok (.iload_n 1, 1) := by decide +kernel
theorem dX11_way_45 : decode cX11_way 45 = .ok (.iload_n 2, 1) := by decide +kernel
theorem dX11_way_46 : decode cX11_way 46 = .ok (.aload_n 0, 1) := by decide +kernel
theorem dX11_way_47 : decode cX11_way 47 = .ok (.iload_n 3, 1) := by decide +kernel
theorem dX11_way_48 : decode cX11_way 48 = .ok (.aload_n 0, 1) := by decide +kernel
theorem dX11_way_49 : decode cX11_way 49 = .ok (.getfield 13, 3) := by decide +kernel
theorem dX11_way_52 : decode cX11_way 52 = .ok (.iconst 3, 1) := by decide +kernel
theorem dX11_way_53 : decode cX11_way 53 = .ok (.iaload, 1) := by decide +kernel
theorem dX11_way_54 : decode cX11_way 54 = .ok (.invokevirtual 131, 3) := by decide +kernel
theorem dX11_way_57 : decode cX11_way 57 = .ok (.invokevirtual 125, 3) := by decide +kernel
theorem dX11_way_60 : decode cX11_way 60 = .ok (.ireturn, 1) := by decide +kernel
set_option maxRecDepth 20000 in
theorem ggX11_free_X11_within : GoodIn wsX11_free wsX11_within := goodIn_r _ [5] (by decide +kernel) (by decide +kernel)
set_option maxRecDepth 20000 in
theorem gX11_free_X11_within : GoodIn wsX11_free (va_wsS RX11 103 yX11_within wsX11_within) := goodIn_app (goodIn_of _ (by decide +kernel)) ggX11_free_X11_within
set_option maxRecDepth 20000 in
theorem ggX11_free_X11_refuse : GoodIn wsX11_free wsX11_refuse := goodIn_r _ [9, 10, 31, 32, 33, 34, 35, 36, 37, 38, 39, 40, 41, 42, 43, 44, 45, 46, 47, 48, 49] (by decide +kernel) (by decide +kernel)
set_option maxRecDepth 20000 in
theorem gX11_free_X11_refuse : GoodIn wsX11_free (wsV RX11 54 RX11 yX11_refuse wsX11_refuse) := goodIn_app (goodIn_of _ (by decide +kernel)) ggX11_free_X11_refuse
set_option maxRecDepth 20000 in
theorem ggX11_free_X11_openAt : GoodIn wsX11_free wsX11_openAt := goodIn_r _ [14, 1, 15, 16, 17, 4, 18, 19, 20, 21, 22, 23, 24, 25, 26, 27, 28, 29, 30, 31, 32, 33, 34, 35, 36, 37, 38, 39, 40, 41, 42, 43, 44, 45, 46, 47, 48, 49] (by decide +kernel) (by decide +kernel)
set_option maxRecDepth 20000 in
theorem gX11_free_X11_openAt : GoodIn wsX11_free (wsV RX11 131 RX11 yX11_openAt wsX11_openAt) := goodIn_app (goodIn_of _ (by decide +kernel)) ggX11_free_X11_openAt
theorem dX11_free_0 : decode cX11_free 0 = .ok (.iload_n 1, 1) := by decide +kernel
theorem dX11_free_1 : decode cX11_free 1 = .ok (.iconst 0, 1) := by decide +kernel
theorem dX11_free_2 : decode cX11_free 2 = .ok (.bipush 99, 2) := by decide +kernel
theorem dX11_free_4 : decode cX11_free 4 = .ok (.invokestatic 103, 3) := by decide +kernel
theorem dX11_free_7 : decode cX11_free 7 = .ok (.istore_n 2, 1) := by decide +kernel
theorem dX11_free_8 : decode cX11_free 8 = .ok (.iload_n 2, 1) := by decide +kernel
theorem dX11_free_9 : decode cX11_free 9 = .ok (.ifCond .eq 11, 3) := by decide +kernel
theorem dX11_free_12 : decode cX11_free 12 = .ok (.aload_n 0, 1) := by decide +kernel
theorem dX11_free_13 : decode cX11_free 13 = .ok (.iload_n 2, 1) := by decide +kernel
theorem dX11_free_14 : decode cX11_free 14 = .ok (.invokevirtual 54, 3) := by decide +kernel
theorem dX11_free_17 : decode cX11_free 17 = .ok (.goto 14, 3) := by decide +kernel
theorem dX11_free_20 : decode cX11_free 20 = .ok (.aload_n 0, 1) := by decide +kernel
theorem dX11_free_21 : decode cX11_free 21 = .ok (.iload_n 1, 1) := by decide +kernel
theorem dX11_free_22 : decode cX11_free 22 = .ok (.aload_n 0, 1) := by decide +kernel
theorem dX11_free_23 : decode cX11_free 23 = .ok (.getfield 13, 3) := by decide +kernel
theorem dX11_free_26 : decode cX11_free 26 = .ok (.iconst 3, 1) := by decide +kernel
theorem dX11_free_27 : decode cX11_free 27 = .ok (.iaload, 1) := by decide +kernel
theorem dX11_free_28 : decode cX11_free 28 = .ok (.invokevirtual 131, 3) := by decide +kernel
theorem dX11_free_31 : decode cX11_free 31 = .ok (.ireturn, 1) := by decide +kernel
theorem dX11_isBeside_0 : decode cX11_isBeside 0 = .ok (.aload_n 0, 1) := by decide +kernel
theorem dX11_isBeside_1 : decode cX11_isBeside 1 = .ok (.getfield 37, 3) := by decide +kernel
theorem dX11_isBeside_4 : decode cX11_isBeside 4 = .ok (.iload_n 1, 1) := by decide +kernel
theorem dX11_isBeside_5 : decode cX11_isBeside 5 = .ok (.iaload, 1) := by decide +kernel
theorem dX11_isBeside_6 : decode cX11_isBeside 6 = .ok (.iconst 5, 1) := by decide +kernel
theorem dX11_isBeside_7 : decode cX11_isBeside 7 = .ok (.idiv, 1) := by decide +kernel
theorem dX11_isBeside_8 : decode cX11_isBeside 8 = .ok (.aload_n 0, 1) := by decide +kernel
theorem dX11_isBeside_9 : decode cX11_isBeside 9 = .ok (.getfield 37, 3) := by decide +kernel
theorem dX11_isBeside_12 : decode cX11_isBeside 12 = .ok (.iload_n 2, 1) := by decide +kernel
theorem dX11_isBeside_13 : decode cX11_isBeside 13 = .ok (.iaload, 1) := by decide +kernel
theorem dX11_isBeside_14 : decode cX11_isBeside 14 = .ok (.iconst 5, 1) := by decide +kernel
theorem dX11_isBeside_15 : decode cX11_isBeside 15 = .ok (.idiv, 1) := by decide +kernel
theorem dX11_isBeside_16 : decode cX11_isBeside 16 = .ok (.isub, 1) := by decide +kernel
theorem dX11_isBeside_17 : decode cX11_isBeside 17 = .ok (.istore_n 3, 1) := by decide +kernel
theorem dX11_isBeside_18 : decode cX11_isBeside 18 = .ok (.aload_n 0, 1) := by decide +kernel
theorem dX11_isBeside_19 : decode cX11_isBeside 19 = .ok (.getfield 37, 3) := by decide +kernel
theorem dX11_isBeside_22 : decode cX11_isBeside 22 = .ok (.iload_n 1, 1) := by decide +kernel
theorem dX11_isBeside_23 : decode cX11_isBeside 23 = .ok (.iaload, 1) := by decide +kernel
theorem dX11_isBeside_24 : decode cX11_isBeside 24 = .ok (.iconst 5, 1) := by decide +kernel
theorem dX11_isBeside_25 : decode cX11_isBeside 25 = .ok (.irem, 1) := by decide +kernel
theorem dX11_isBeside_26 : decode cX11_isBeside 26 = .ok (.aload_n 0, 1) := by decide +kernel
theorem dX11_isBeside_27 : decode cX11_isBeside 27 = .ok (.getfield 37, 3) := by decide +kernel
theorem dX11_isBeside_30 : decode cX11_isBeside 30 = .ok (.iload_n 2, 1) := by decide +kernel
theorem dX11_isBeside_31 : decode cX11_isBeside 31 = .ok (.iaload, 1) := by decide +kernel
theorem dX11_isBeside_32 : decode cX11_isBeside 32 = .ok (.iconst 5, 1) := by decide +kernel
theorem dX11_isBeside_33 : decode cX11_isBeside 33 = .ok (.irem, 1) := by decide +kernel
theorem dX11_isBeside_34 : decode cX11_isBeside 34 = .ok (.isub, 1) := by decide +kernel
theorem dX11_isBeside_35 : decode cX11_isBeside 35 = .ok (.istore 4, 2) := by decide +kernel
theorem dX11_isBeside_37 : decode cX11_isBeside 37 = .ok (.iload_n 3, 1) := by decide +kernel
theorem dX11_isBeside_38 : decode cX11_isBeside 38 = .ok (.iload_n 3, 1) := by decide +kernel
theorem dX11_isBeside_39 : decode cX11_isBeside 39 = .ok (.imul, 1) := by decide +kernel
theorem dX11_isBeside_40 : decode cX11_isBeside 40 = .ok (.iload 4, 2) := by decide +kernel
theorem dX11_isBeside_42 : decode cX11_isBeside 42 = .ok (.iload 4, 2) := by decide +kernel
theorem dX11_isBeside_44 : decode cX11_isBeside 44 = .ok (.imul, 1) := by decide +kernel
theorem dX11_isBeside_45 : decode cX11_isBeside 45 = .ok (.iadd, 1) := by decide +kernel
theorem dX11_isBeside_46 : decode cX11_isBeside 46 = .ok (.iconst 1, 1) := by decide +kernel
theorem dX11_isBeside_47 : decode cX11_isBeside 47 = .ok (.if_icmp .ne 7, 3) := by decide +kernel
theorem dX11_isBeside_50 : decode cX11_isBeside 50 = .ok (.iconst 1, 1) := by decide +kernel
theorem dX11_isBeside_51 : decode cX11_isBeside 51 = .ok (.goto 4, 3) := by decide +kernel
theorem dX11_isBeside_54 : decode cX11_isBeside 54 = .ok (.iconst 0, 1) := by decide +kernel
theorem dX11_isBeside_55 : decode cX11_isBeside 55 = .ok (.ireturn, 1) := by decide +kernel
set_option maxRecDepth 20000 in
theorem ggX11_out_X11_refuse : GoodIn wsX11_out wsX11_refuse := goodIn_r _ [9, 10, 15, 16, 17, 18, 19, 20, 21, 22, 23, 24, 25, 26, 27, 28, 29, 30, 31, 32, 33] (by decide +kernel) (by decide +kernel)
set_option maxRecDepth 20000 in
theorem gX11_out_X11_refuse : GoodIn wsX11_out (wsV RX11 54 RX11 yX11_refuse wsX11_refuse) := goodIn_app (goodIn_of _ (by decide +kernel)) ggX11_out_X11_refuse
set_option maxRecDepth 20000 in
theorem ggX11_out_X11_isBeside : GoodIn wsX11_out wsX11_isBeside := goodIn_r _ [14, 2, 15, 16, 17, 18, 19, 20, 21, 22, 23, 24, 25, 26, 27, 28, 29, 30, 31, 32, 33] (by decide +kernel) (by decide +kernel)
set_option maxRecDepth 20000 in
theorem gX11_out_X11_isBeside : GoodIn wsX11_out (wsV RX11 201 RX11 yX11_isBeside wsX11_isBeside) := goodIn_app (goodIn_of _ (by decide +kernel)) ggX11_out_X11_isBeside
theorem dX11_out_0 : decode cX11_out 0 = .ok (.aload_n 0, 1) := by decide +kernel
theorem dX11_out_1 : decode cX11_out 1 = .ok (.getfield 13, 3) := by decide +kernel
theorem dX11_out_4 : decode cX11_out 4 = .ok (.bipush 93, 2) := by decide +kernel
theorem dX11_out_6 : decode cX11_out 6 = .ok (.iaload, 1) := by decide +kernel
theorem dX11_out_7 : decode cX11_out 7 = .ok (.ifCond .ne 10, 3) := by decide +kernel
theorem dX11_out_10 : decode cX11_out 10 = .ok (.aload_n 0, 1) := by decide +kernel
theorem dX11_out_11 : decode cX11_out 11 = .ok (.bipush (-3), 2) := by decide +kernel
theorem dX11_out_13 : decode cX11_out 13 = .ok (.invokevirtual 54, 3) := by decide +kernel
theorem dX11_out_16 : decode cX11_out 16 = .ok (.ireturn, 1) := by decide +kernel
theorem dX11_out_17 : decode cX11_out 17 = .ok (.iconst 0, 1) := by decide +kernel
theorem dX11_out_18 : decode cX11_out 18 = .ok (.istore_n 1, 1) := by decide +kernel
theorem dX11_out_19 : decode cX11_out 19 = .ok (.iconst 0, 1) := by decide +kernel
theorem dX11_out_20 : decode cX11_out 20 = .ok (.istore_n 2, 1) := by decide +kernel
theorem dX11_out_21 : decode cX11_out 21 = .ok (.iconst 0, 1) := by decide +kernel
theorem dX11_out_22 : decode cX11_out 22 = .ok (.istore_n 3, 1) := by decide +kernel
theorem dX11_out_23 : decode cX11_out 23 = .ok (.iload_n 3, 1) := by decide +kernel
theorem dX11_out_24 : decode cX11_out 24 = .ok (.bipush 25, 2) := by decide +kernel
theorem dX11_out_26 : decode cX11_out 26 = .ok (.if_icmp .ge 53, 3) := by decide +kernel
theorem dX11_out_29 : decode cX11_out 29 = .ok (.aload_n 0, 1) := by decide +kernel
theorem dX11_out_30 : decode cX11_out 30 = .ok (.getfield 13, 3) := by decide +kernel
theorem dX11_out_33 : decode cX11_out 33 = .ok (.bipush 95, 2) := by decide +kernel
theorem dX11_out_35 : decode cX11_out 35 = .ok (.iload_n 3, 1) := by decide +kernel
theorem dX11_out_36 : decode cX11_out 36 = .ok (.iadd, 1) := by decide +kernel
theorem dX11_out_37 : decode cX11_out 37 = .ok (.iaload, 1) := by decide +kernel
theorem dX11_out_38 : decode cX11_out 38 = .ok (.ifCond .ne 6, 3) := by decide +kernel
theorem dX11_out_41 : decode cX11_out 41 = .ok (.goto 32, 3) := by decide +kernel
theorem dX11_out_44 : decode cX11_out 44 = .ok (.aload_n 0, 1) := by decide +kernel
theorem dX11_out_45 : decode cX11_out 45 = .ok (.getfield 13, 3) := by decide +kernel
theorem dX11_out_48 : decode cX11_out 48 = .ok (.bipush 95, 2) := by decide +kernel
theorem dX11_out_50 : decode cX11_out 50 = .ok (.iload_n 3, 1) := by decide +kernel
theorem dX11_out_51 : decode cX11_out 51 = .ok (.iadd, 1) := by decide +kernel
theorem dX11_out_52 : decode cX11_out 52 = .ok (.iaload, 1) := by decide +kernel
theorem dX11_out_53 : decode cX11_out 53 = .ok (.iconst 2, 1) := by decide +kernel
theorem dX11_out_54 : decode cX11_out 54 = .ok (.if_icmp .ne 7, 3) := by decide +kernel
theorem dX11_out_57 : decode cX11_out 57 = .ok (.iload_n 1, 1) := by decide +kernel
theorem dX11_out_58 : decode cX11_out 58 = .ok (.goto 4, 3) := by decide +kernel
theorem dX11_out_61 : decode cX11_out 61 = .ok (.iload_n 2, 1) := by decide +kernel
theorem dX11_out_62 : decode cX11_out 62 = .ok (.istore_n 2, 1) := by decide +kernel
theorem dX11_out_63 : decode cX11_out 63 = .ok (.aload_n 0, 1) := by decide +kernel
theorem dX11_out_64 : decode cX11_out 64 = .ok (.getfield 37, 3) := by decide +kernel
theorem dX11_out_67 : decode cX11_out 67 = .ok (.iload_n 1, 1) := by decide +kernel
theorem dX11_out_68 : decode cX11_out 68 = .ok (.iload_n 3, 1) := by decide +kernel
theorem dX11_out_69 : decode cX11_out 69 = .ok (.iastore, 1) := by decide +kernel
theorem dX11_out_70 : decode cX11_out 70 = .ok (.iinc 1 1, 3) := by decide +kernel
theorem dX11_out_73 : decode cX11_out 73 = .ok (.iinc 3 1, 3) := by decide +kernel
theorem dX11_out_76 : decode cX11_out 76 = .ok (.goto (-53), 3) := by decide +kernel
theorem dX11_out_79 : decode cX11_out 79 = .ok (.iconst 1, 1) := by decide +kernel
theorem dX11_out_80 : decode cX11_out 80 = .ok (.iload_n 1, 1) := by decide +kernel
theorem dX11_out_81 : decode cX11_out 81 = .ok (.ishl, 1) := by decide +kernel
theorem dX11_out_82 : decode cX11_out 82 = .ok (.iconst 1, 1) := by decide +kernel
theorem dX11_out_83 : decode cX11_out 83 = .ok (.isub, 1) := by decide +kernel
theorem dX11_out_84 : decode cX11_out 84 = .ok (.iconst 1, 1) := by decide +kernel
theorem dX11_out_85 : decode cX11_out 85 = .ok (.iload_n 2, 1) := by decide +kernel
theorem dX11_out_86 : decode cX11_out 86 = .ok (.ishl, 1) := by decide +kernel
theorem dX11_out_87 : decode cX11_out 87 = .ok (.iconst (-1), 1) := by decide +kernel
theorem dX11_out_88 : decode cX11_out 88 = .ok (.ixor, 1) := by decide +kernel
theorem dX11_out_89 : decode cX11_out 89 = .ok (.iand, 1) := by decide +kernel
theorem dX11_out_90 : decode cX11_out 90 = .ok (.istore_n 3, 1) := by decide +kernel
theorem dX11_out_91 : decode cX11_out 91 = .ok (.iconst 0, 1) := by decide +kernel
theorem dX11_out_92 : decode cX11_out 92 = .ok (.istore 4, 2) := by decide +kernel
theorem dX11_out_94 : decode cX11_out 94 = .ok (.iload 4, 2) := by decide +kernel
theorem dX11_out_96 : decode cX11_out 96 = .ok (.sipush 10240, 3) := by decide +kernel
theorem dX11_out_99 : decode cX11_out 99 = .ok (.if_icmp .ge 18, 3) := by decide +kernel
theorem dX11_out_102 : decode cX11_out 102 = .ok (.aload_n 0, 1) := by decide +kernel
theorem dX11_out_103 : decode cX11_out 103 = .ok (.getfield 40, 3) := by decide +kernel
theorem dX11_out_106 : decode cX11_out 106 = .ok (.iload 4, 2) := by decide +kernel
theorem dX11_out_108 : decode cX11_out 108 = .ok (.bipush (-9), 2) := by decide +kernel
theorem dX11_out_110 : decode cX11_out 110 = .ok (.iastore, 1) := by decide +kernel
theorem dX11_out_111 : decode cX11_out 111 = .ok (.iinc 4 1, 3) := by decide +kernel
theorem dX11_out_114 : decode cX11_out 114 = .ok (.goto (-20), 3) := by decide +kernel
theorem dX11_out_117 : decode cX11_out 117 = .ok (.aload_n 0, 1) := by decide +kernel
theorem dX11_out_118 : decode cX11_out 118 = .ok (.getfield 40, 3) := by decide +kernel
theorem dX11_out_121 : decode cX11_out 121 = .ok (.sipush 1024, 3) := by decide +kernel
theorem dX11_out_124 : decode cX11_out 124 = .ok (.iload_n 2, 1) := by decide +kernel
theorem dX11_out_125 : decode cX11_out 125 = .ok (.imul, 1) := by decide +kernel
theorem dX11_out_126 : decode cX11_out 126 = .ok (.iconst 0, 1) := by decide +kernel
theorem dX11_out_127 : decode cX11_out 127 = .ok (.iastore, 1) := by decide +kernel
theorem dX11_out_128 : decode cX11_out 128 = .ok (.aload_n 0, 1) := by decide +kernel
theorem dX11_out_129 : decode cX11_out 129 = .ok (.getfield 43, 3) := by decide +kernel
theorem dX11_out_132 : decode cX11_out 132 = .ok (.iconst 0, 1) := by decide +kernel
theorem dX11_out_133 : decode cX11_out 133 = .ok (.sipush 1024, 3) := by decide +kernel
theorem dX11_out_136 : decode cX11_out 136 = .ok (.iload_n 2, 1) := by decide +kernel
theorem dX11_out_137 : decode cX11_out 137 = .ok (.imul, 1) := by decide +kernel
theorem dX11_out_138 : decode cX11_out 138 = .ok (.iastore, 1) := by decide +kernel
theorem dX11_out_139 : decode cX11_out 139 = .ok (.iconst 1, 1) := by decide +kernel
theorem dX11_out_140 : decode cX11_out 140 = .ok (.istore 4, 2) := by decide +kernel
theorem dX11_out_142 : decode cX11_out 142 = .ok (.iconst 0, 1) := by decide +kernel
theorem dX11_out_143 : decode cX11_out 143 = .ok (.istore 5, 2) := by decide +kernel
theorem dX11_out_145 : decode cX11_out 145 = .ok (.iload 5, 2) := by decide +kernel
theorem dX11_out_147 : decode cX11_out 147 = .ok (.iload 4, 2) := by decide +kernel
theorem dX11_out_149 : decode cX11_out 149 = .ok (.if_icmp .ge 178, 3) := by decide +kernel
theorem dX11_out_152 : decode cX11_out 152 = .ok (.aload_n 0, 1) := by decide +kernel
theorem dX11_out_153 : decode cX11_out 153 = .ok (.getfield 43, 3) := by decide +kernel
theorem dX11_out_156 : decode cX11_out 156 = .ok (.iload 5, 2) := by decide +kernel
theorem dX11_out_158 : decode cX11_out 158 = .ok (.iaload, 1) := by decide +kernel
theorem dX11_out_159 : decode cX11_out 159 = .ok (.sipush 1024, 3) := by decide +kernel
theorem dX11_out_162 : decode cX11_out 162 = .ok (.idiv, 1) := by decide +kernel
theorem dX11_out_163 : decode cX11_out 163 = .ok (.istore 6, 2) := by decide +kernel
theorem dX11_out_165 : decode cX11_out 165 = .ok (.aload_n 0, 1) := by decide +kernel
theorem dX11_out_166 : decode cX11_out 166 = .ok (.getfield 43, 3) := by decide +kernel
theorem dX11_out_169 : decode cX11_out 169 = .ok (.iload 5, 2) := by decide +kernel
theorem dX11_out_171 : decode cX11_out 171 = .ok (.iaload, 1) := by decide +kernel
theorem dX11_out_172 : decode cX11_out 172 = .ok (.sipush 1024, 3) := by decide +kernel
theorem dX11_out_175 : decode cX11_out 175 = .ok (.irem, 1) := by decide +kernel
theorem dX11_out_176 : decode cX11_out 176 = .ok (.istore 7, 2) := by decide +kernel
theorem dX11_out_178 : decode cX11_out 178 = .ok (.iload 6, 2) := by decide +kernel
theorem dX11_out_180 : decode cX11_out 180 = .ok (.iload_n 2, 1) := by decide +kernel
theorem dX11_out_181 : decode cX11_out 181 = .ok (.if_icmp .ne 22, 3) := by decide +kernel
theorem dX11_out_184 : decode cX11_out 184 = .ok (.iload 7, 2) := by decide +kernel
theorem dX11_out_186 : decode cX11_out 186 = .ok (.iload_n 3, 1) := by decide +kernel
theorem dX11_out_187 : decode cX11_out 187 = .ok (.if_icmp .ne 16, 3) := by decide +kernel
theorem dX11_out_190 : decode cX11_out 190 = .ok (.aload_n 0, 1) := by decide +kernel
theorem dX11_out_191 : decode cX11_out 191 = .ok (.getfield 40, 3) := by decide +kernel
theorem dX11_out_194 : decode cX11_out 194 = .ok (.aload_n 0, 1) := by decide +kernel
theorem dX11_out_195 : decode cX11_out 195 = .ok (.getfield 43, 3) := by decide +kernel
theorem dX11_out_198 : decode cX11_out 198 = .ok (.iload 5, 2) := by decide +kernel
theorem dX11_out_200 : decode cX11_out 200 = .ok (.iaload, 1) := by decide +kernel
theorem dX11_out_201 : decode cX11_out 201 = .ok (.iaload, 1) := by decide +kernel
theorem dX11_out_202 : decode cX11_out 202 = .ok (.ireturn, 1) := by decide +kernel
theorem dX11_out_203 : decode cX11_out 203 = .ok (.iconst 0, 1) := by decide +kernel
theorem dX11_out_204 : decode cX11_out 204 = .ok (.istore 8, 2) := by decide +kernel
theorem dX11_out_206 : decode cX11_out 206 = .ok (.iload 8, 2) := by decide +kernel
theorem dX11_out_208 : decode cX11_out 208 = .ok (.iload_n 1, 1) := by decide +kernel
theorem dX11_out_209 : decode cX11_out 209 = .ok (.if_icmp .ge 112, 3) := by decide +kernel
theorem dX11_out_212 : decode cX11_out 212 = .ok (.aload_n 0, 1) := by decide +kernel
theorem dX11_out_213 : decode cX11_out 213 = .ok (.iload 6, 2) := by decide +kernel
theorem dX11_out_215 : decode cX11_out 215 = .ok (.iload 8, 2) := by decide +kernel
theorem dX11_out_217 : decode cX11_out 217 = .ok (.invokevirtual 201, 3) := by decide +kernel
theorem dX11_out_220 : decode cX11_out 220 = .ok (.ifCond .eq 95, 3) := by decide +kernel
theorem dX11_out_223 : decode cX11_out 223 = .ok (.iload 7, 2) := by decide +kernel
theorem dX11_out_225 : decode cX11_out 225 = .ok (.iload 8, 2) := by decide +kernel
theorem dX11_out_227 : decode cX11_out 227 = .ok (.ishr, 1) := by decide +kernel
theorem dX11_out_228 : decode cX11_out 228 = .ok (.iconst 1, 1) := by decide +kernel
theorem dX11_out_229 : decode cX11_out 229 = .ok (.iand, 1) := by decide +kernel
theorem dX11_out_230 : decode cX11_out 230 = .ok (.iconst 1, 1) := by decide +kernel
theorem dX11_out_231 : decode cX11_out 231 = .ok (.if_icmp .ne 6, 3) := by decide +kernel
theorem dX11_out_234 : decode cX11_out 234 = .ok (.goto 81, 3) := by decide +kernel
theorem dX11_out_237 : decode cX11_out 237 = .ok (.iconst 0, 1) := by decide +kernel
theorem dX11_out_238 : decode cX11_out 238 = .ok (.istore 9, 2) := by decide +kernel
theorem dX11_out_240 : decode cX11_out 240 = .ok (.iload 9, 2) := by decide +kernel
theorem dX11_out_242 : decode cX11_out 242 = .ok (.iconst 2, 1) := by decide +kernel
theorem dX11_out_243 : decode cX11_out 243 = .ok (.if_icmp .ge 72, 3) := by decide +kernel
theorem dX11_out_246 : decode cX11_out 246 = .ok (.sipush 1024, 3) := by decide +kernel
theorem dX11_out_249 : decode cX11_out 249 = .ok (.iload 8, 2) := by decide +kernel
theorem dX11_out_251 : decode cX11_out 251 = .ok (.imul, 1) := by decide +kernel
theorem dX11_out_252 : decode cX11_out 252 = .ok (.iload 7, 2) := by decide +kernel
theorem dX11_out_254 : decode cX11_out 254 = .ok (.iload 9, 2) := by decide +kernel
theorem dX11_out_256 : decode cX11_out 256 = .ok (.iload 6, 2) := by decide +kernel
theorem dX11_out_258 : decode cX11_out 258 = .ok (.ishl, 1) := by decide +kernel
theorem dX11_out_259 : decode cX11_out 259 = .ok (.ior, 1) := by decide +kernel
theorem dX11_out_260 : decode cX11_out 260 = .ok (.iadd, 1) := by decide +kernel
theorem dX11_out_261 : decode cX11_out 261 = .ok (.istore 10, 2) := by decide +kernel
theorem dX11_out_263 : decode cX11_out 263 = .ok (.aload_n 0, 1) := by decide +kernel
theorem dX11_out_264 : decode cX11_out 264 = .ok (.getfield 40, 3) := by decide +kernel
theorem dX11_out_267 : decode cX11_out 267 = .ok (.iload 10, 2) := by decide +kernel
theorem dX11_out_269 : decode cX11_out 269 = .ok (.iaload, 1) := by decide +kernel
theorem dX11_out_270 : decode cX11_out 270 = .ok (.ifCond .lt 6, 3) := by decide +kernel
theorem dX11_out_273 : decode cX11_out 273 = .ok (.goto 36, 3) := by decide +kernel
theorem dX11_out_276 : decode cX11_out 276 = .ok (.aload_n 0, 1) := by decide +kernel
theorem dX11_out_277 : decode cX11_out 277 = .ok (.getfield 40, 3) := by decide +kernel
theorem dX11_out_280 : decode cX11_out 280 = .ok (.iload 10, 2) := by decide +kernel
theorem dX11_out_282 : decode cX11_out 282 = .ok (.aload_n 0, 1) := by decide +kernel
theorem dX11_out_283 : decode cX11_out 283 = .ok (.getfield 40, 3) := by decide +kernel
theorem dX11_out_286 : decode cX11_out 286 = .ok (.aload_n 0, 1) := by decide +kernel
theorem dX11_out_287 : decode cX11_out 287 = .ok (.getfield 43, 3) := by decide +kernel
theorem dX11_out_290 : decode cX11_out 290 = .ok (.iload 5, 2) := by decide +kernel
theorem dX11_out_292 : decode cX11_out 292 = .ok (.iaload, 1) := by decide +kernel
theorem dX11_out_293 : decode cX11_out 293 = .ok (.iaload, 1) := by decide +kernel
theorem dX11_out_294 : decode cX11_out 294 = .ok (.iconst 1, 1) := by decide +kernel
theorem dX11_out_295 : decode cX11_out 295 = .ok (.iadd, 1) := by decide +kernel
theorem dX11_out_296 : decode cX11_out 296 = .ok (.iastore, 1) := by decide +kernel
theorem dX11_out_297 : decode cX11_out 297 = .ok (.aload_n 0, 1) := by decide +kernel
theorem dX11_out_298 : decode cX11_out 298 = .ok (.getfield 43, 3) := by decide +kernel
theorem dX11_out_301 : decode cX11_out 301 = .ok (.iload 4, 2) := by decide +kernel
theorem dX11_out_303 : decode cX11_out 303 = .ok (.iload 10, 2) := by decide +kernel
theorem dX11_out_305 : decode cX11_out 305 = .ok (.iastore, 1) := by decide +kernel
theorem dX11_out_306 : decode cX11_out 306 = .ok (.iinc 4 1, 3) := by decide +kernel
theorem dX11_out_309 : decode cX11_out 309 = .ok (.iinc 9 1, 3) := by decide +kernel
theorem dX11_out_312 : decode cX11_out 312 = .ok (.goto (-72), 3) := by decide +kernel
theorem dX11_out_315 : decode cX11_out 315 = .ok (.iinc 8 1, 3) := by decide +kernel
theorem dX11_out_318 : decode cX11_out 318 = .ok (.goto (-112), 3) := by decide +kernel
theorem dX11_out_321 : decode cX11_out 321 = .ok (.iinc 5 1, 3) := by decide +kernel
theorem dX11_out_324 : decode cX11_out 324 = .ok (.goto (-179), 3) := by decide +kernel
theorem dX11_out_327 : decode cX11_out 327 = .ok (.bipush (-9), 2) := by decide +kernel
theorem dX11_out_329 : decode cX11_out 329 = .ok (.ireturn, 1) := by decide +kernel
set_option maxRecDepth 20000 in
theorem ggX11_square_X11_refuse : GoodIn wsX11_square wsX11_refuse := goodIn_r _ [6, 7, 11, 12, 13, 14, 15, 16, 17, 18, 19, 20, 21, 22, 23, 24, 25, 26, 27, 28, 29] (by decide +kernel) (by decide +kernel)
set_option maxRecDepth 20000 in
theorem gX11_square_X11_refuse : GoodIn wsX11_square (wsV RX11 54 RX11 yX11_refuse wsX11_refuse) := goodIn_app (goodIn_of _ (by decide +kernel)) ggX11_square_X11_refuse
set_option maxRecDepth 20000 in
theorem ggX11_square_X11_isIn : GoodIn wsX11_square wsX11_isIn := goodIn_r _ [10] (by decide +kernel) (by decide +kernel)
set_option maxRecDepth 20000 in
theorem gX11_square_X11_isIn : GoodIn wsX11_square (va_wsS RX11 46 yX11_isIn wsX11_isIn) := goodIn_app (goodIn_of _ (by decide +kernel)) ggX11_square_X11_isIn
theorem dX11_square_0 : decode cX11_square 0 = .ok (.aload_n 0, 1) := by decide +kernel
theorem dX11_square_1 : decode cX11_square 1 = .ok (.getfield 13, 3) := by decide +kernel
theorem dX11_square_4 : decode cX11_square 4 = .ok (.bipush 93, 2) := by decide +kernel
theorem dX11_square_6 : decode cX11_square 6 = .ok (.iaload, 1) := by decide +kernel
theorem dX11_square_7 : decode cX11_square 7 = .ok (.ifCond .ne 10, 3) := by decide +kernel
theorem dX11_square_10 : decode cX11_square 10 = .ok (.aload_n 0, 1) := by decide +kernel
theorem dX11_square_11 : decode cX11_square 11 = .ok (.bipush (-3), 2) := by decide +kernel
theorem dX11_square_13 : decode cX11_square 13 = .ok (.invokevirtual 54, 3) := by decide +kernel
theorem dX11_square_16 : decode cX11_square 16 = .ok (.ireturn, 1) := by decide +kernel
theorem dX11_square_17 : decode cX11_square 17 = .ok (.iload_n 1, 1) := by decide +kernel
theorem dX11_square_18 : decode cX11_square 18 = .ok (.aload_n 0, 1) := by decide +kernel
theorem dX11_square_19 : decode cX11_square 19 = .ok (.getfield 13, 3) := by decide +kernel
theorem dX11_square_22 : decode cX11_square 22 = .ok (.bipush 93, 2) := by decide +kernel
theorem dX11_square_24 : decode cX11_square 24 = .ok (.iaload, 1) := by decide +kernel
theorem dX11_square_25 : decode cX11_square 25 = .ok (.invokestatic 46, 3) := by decide +kernel
theorem dX11_square_28 : decode cX11_square 28 = .ok (.ifCond .eq 33, 3) := by decide +kernel
theorem dX11_square_31 : decode cX11_square 31 = .ok (.iload_n 2, 1) := by decide +kernel
theorem dX11_square_32 : decode cX11_square 32 = .ok (.aload_n 0, 1) := by decide +kernel
theorem dX11_square_33 : decode cX11_square 33 = .ok (.getfield 13, 3) := by decide +kernel
theorem dX11_square_36 : decode cX11_square 36 = .ok (.bipush 94, 2) := by decide +kernel
theorem dX11_square_38 : decode cX11_square 38 = .ok (.iaload, 1) := by decide +kernel
theorem dX11_square_39 : decode cX11_square 39 = .ok (.invokestatic 46, 3) := by decide +kernel
theorem dX11_square_42 : decode cX11_square 42 = .ok (.ifCond .eq 19, 3) := by decide +kernel
theorem dX11_square_45 : decode cX11_square 45 = .ok (.aload_n 0, 1) := by decide +kernel
theorem dX11_square_46 : decode cX11_square 46 = .ok (.getfield 13, 3) := by decide +kernel
theorem dX11_square_49 : decode cX11_square 49 = .ok (.bipush 95, 2) := by decide +kernel
theorem dX11_square_51 : decode cX11_square 51 = .ok (.iconst 5, 1) := by decide +kernel
theorem dX11_square_52 : decode cX11_square 52 = .ok (.iload_n 1, 1) := by decide +kernel
theorem dX11_square_53 : decode cX11_square 53 = .ok (.imul, 1) := by decide +kernel
theorem dX11_square_54 : decode cX11_square 54 = .ok (.iadd, 1) := by decide +kernel
theorem dX11_square_55 : decode cX11_square 55 = .ok (.iload_n 2, 1) := by decide +kernel
theorem dX11_square_56 : decode cX11_square 56 = .ok (.iadd, 1) := by decide +kernel
theorem dX11_square_57 : decode cX11_square 57 = .ok (.iaload, 1) := by decide +kernel
theorem dX11_square_58 : decode cX11_square 58 = .ok (.goto 8, 3) := by decide +kernel
theorem dX11_square_61 : decode cX11_square 61 = .ok (.aload_n 0, 1) := by decide +kernel
theorem dX11_square_62 : decode cX11_square 62 = .ok (.iconst (-1), 1) := by decide +kernel
theorem dX11_square_63 : decode cX11_square 63 = .ok (.invokevirtual 54, 3) := by decide +kernel
theorem dX11_square_66 : decode cX11_square 66 = .ok (.ireturn, 1) := by decide +kernel
theorem dX11_image_0 : decode cX11_image 0 = .ok (.iconst 0, 1) := by decide +kernel
theorem dX11_image_1 : decode cX11_image 1 = .ok (.istore_n 1, 1) := by decide +kernel
theorem dX11_image_2 : decode cX11_image 2 = .ok (.iload_n 1, 1) := by decide +kernel
theorem dX11_image_3 : decode cX11_image 3 = .ok (.bipush 120, 2) := by decide +kernel
theorem dX11_image_5 : decode cX11_image 5 = .ok (.if_icmp .ge 21, 3) := by decide +kernel
theorem dX11_image_8 : decode cX11_image 8 = .ok (.aload_n 0, 1) := by decide +kernel
theorem dX11_image_9 : decode cX11_image 9 = .ok (.getfield 16, 3) := by decide +kernel
theorem dX11_image_12 : decode cX11_image 12 = .ok (.iload_n 1, 1) := by decide +kernel
theorem dX11_image_13 : decode cX11_image 13 = .ok (.aload_n 0, 1) := by decide +kernel
theorem dX11_image_14 : decode cX11_image 14 = .ok (.getfield 13, 3) := by decide +kernel
theorem dX11_image_17 : decode cX11_image 17 = .ok (.iload_n 1, 1) := by decide +kernel
theorem dX11_image_18 : decode cX11_image 18 = .ok (.iaload, 1) := by decide +kernel
theorem dX11_image_19 : decode cX11_image 19 = .ok (.iastore, 1) := by decide +kernel
theorem dX11_image_20 : decode cX11_image 20 = .ok (.iinc 1 1, 3) := by decide +kernel
theorem dX11_image_23 : decode cX11_image 23 = .ok (.goto (-21), 3) := by decide +kernel
theorem dX11_image_26 : decode cX11_image 26 = .ok (.aload_n 0, 1) := by decide +kernel
theorem dX11_image_27 : decode cX11_image 27 = .ok (.iconst 1, 1) := by decide +kernel
theorem dX11_image_28 : decode cX11_image 28 = .ok (.putfield 204, 3) := by decide +kernel
theorem dX11_image_31 : decode cX11_image 31 = .ok (.aload_n 0, 1) := by decide +kernel
theorem dX11_image_32 : decode cX11_image 32 = .ok (.getfield 13, 3) := by decide +kernel
theorem dX11_image_35 : decode cX11_image 35 = .ok (.iconst 0, 1) := by decide +kernel
theorem dX11_image_36 : decode cX11_image 36 = .ok (.iaload, 1) := by decide +kernel
theorem dX11_image_37 : decode cX11_image 37 = .ok (.iconst 1, 1) := by decide +kernel
theorem dX11_image_38 : decode cX11_image 38 = .ok (.isub, 1) := by decide +kernel
theorem dX11_image_39 : decode cX11_image 39 = .ok (.ireturn, 1) := by decide +kernel
set_option maxRecDepth 20000 in
theorem ggX11_on_X11_refuse : GoodIn wsX11_on wsX11_refuse := goodIn_r _ [8, 9, 10, 11, 12, 13, 14, 15, 16, 17, 18, 19, 20, 21, 22, 23, 24, 25, 26, 27, 28] (by decide +kernel) (by decide +kernel)
set_option maxRecDepth 20000 in
theorem gX11_on_X11_refuse : GoodIn wsX11_on (wsV RX11 54 RX11 yX11_refuse wsX11_refuse) := goodIn_app (goodIn_of _ (by decide +kernel)) ggX11_on_X11_refuse
theorem dX11_on_0 : decode cX11_on 0 = .ok (.aload_n 0, 1) := by decide +kernel
theorem dX11_on_1 : decode cX11_on 1 = .ok (.getfield 204, 3) := by decide +kernel
theorem dX11_on_4 : decode cX11_on 4 = .ok (.ifCond .ne 10, 3) := by decide +kernel
theorem dX11_on_7 : decode cX11_on 7 = .ok (.aload_n 0, 1) := by decide +kernel
theorem dX11_on_8 : decode cX11_on 8 = .ok (.bipush (-3), 2) := by decide +kernel
theorem dX11_on_10 : decode cX11_on 10 = .ok (.invokevirtual 54, 3) := by decide +kernel
theorem dX11_on_13 : decode cX11_on 13 = .ok (.ireturn, 1) := by decide +kernel
theorem dX11_on_14 : decode cX11_on 14 = .ok (.iconst 0, 1) := by decide +kernel
theorem dX11_on_15 : decode cX11_on 15 = .ok (.istore_n 1, 1) := by decide +kernel
theorem dX11_on_16 : decode cX11_on 16 = .ok (.iload_n 1, 1) := by decide +kernel
theorem dX11_on_17 : decode cX11_on 17 = .ok (.bipush 120, 2) := by decide +kernel
theorem dX11_on_19 : decode cX11_on 19 = .ok (.if_icmp .ge 21, 3) := by decide +kernel
theorem dX11_on_22 : decode cX11_on 22 = .ok (.aload_n 0, 1) := by decide +kernel
theorem dX11_on_23 : decode cX11_on 23 = .ok (.getfield 13, 3) := by decide +kernel
theorem dX11_on_26 : decode cX11_on 26 = .ok (.iload_n 1, 1) := by decide +kernel
theorem dX11_on_27 : decode cX11_on 27 = .ok (.aload_n 0, 1) := by decide +kernel
theorem dX11_on_28 : decode cX11_on 28 = .ok (.getfield 16, 3) := by decide +kernel
theorem dX11_on_31 : decode cX11_on 31 = .ok (.iload_n 1, 1) := by decide +kernel
theorem dX11_on_32 : decode cX11_on 32 = .ok (.iaload, 1) := by decide +kernel
theorem dX11_on_33 : decode cX11_on 33 = .ok (.iastore, 1) := by decide +kernel
theorem dX11_on_34 : decode cX11_on 34 = .ok (.iinc 1 1, 3) := by decide +kernel
theorem dX11_on_37 : decode cX11_on 37 = .ok (.goto (-21), 3) := by decide +kernel
theorem dX11_on_40 : decode cX11_on 40 = .ok (.aload_n 0, 1) := by decide +kernel
theorem dX11_on_41 : decode cX11_on 41 = .ok (.getfield 13, 3) := by decide +kernel
theorem dX11_on_44 : decode cX11_on 44 = .ok (.iconst 0, 1) := by decide +kernel
theorem dX11_on_45 : decode cX11_on 45 = .ok (.iaload, 1) := by decide +kernel
theorem dX11_on_46 : decode cX11_on 46 = .ok (.iconst 1, 1) := by decide +kernel
theorem dX11_on_47 : decode cX11_on 47 = .ok (.isub, 1) := by decide +kernel
theorem dX11_on_48 : decode cX11_on 48 = .ok (.ireturn, 1) := by decide +kernel
set_option maxRecDepth 20000 in
theorem ggX11_count_X11_coatsInAll : GoodIn wsX11_count wsX11_coatsInAll := goodIn_r _ [8, 2, 9, 10, 11, 12, 13, 14, 15, 16, 17, 18, 19, 20, 21, 22, 23, 24, 25, 26, 27] (by decide +kernel) (by decide +kernel)
set_option maxRecDepth 20000 in
theorem gX11_count_X11_coatsInAll : GoodIn wsX11_count (wsV RX11 189 RX11 yX11_coatsInAll wsX11_coatsInAll) := goodIn_app (goodIn_of _ (by decide +kernel)) ggX11_count_X11_coatsInAll
theorem dX11_count_0 : decode cX11_count 0 = .ok (.iload_n 1, 1) := by decide +kernel
theorem dX11_count_1 : decode cX11_count 1 = .ok (.bipush 10, 2) := by decide +kernel
theorem dX11_count_3 : decode cX11_count 3 = .ok (.if_icmp .le 19, 3) := by decide +kernel
theorem dX11_count_6 : decode cX11_count 6 = .ok (.iload_n 1, 1) := by decide +kernel
theorem dX11_count_7 : decode cX11_count 7 = .ok (.bipush 17, 2) := by decide +kernel
theorem dX11_count_9 : decode cX11_count 9 = .ok (.if_icmp .ge 13, 3) := by decide +kernel
theorem dX11_count_12 : decode cX11_count 12 = .ok (.aload_n 0, 1) := by decide +kernel
theorem dX11_count_13 : decode cX11_count 13 = .ok (.getfield 7, 3) := by decide +kernel
theorem dX11_count_16 : decode cX11_count 16 = .ok (.iload_n 1, 1) := by decide +kernel
theorem dX11_count_17 : decode cX11_count 17 = .ok (.bipush 10, 2) := by decide +kernel
theorem dX11_count_19 : decode cX11_count 19 = .ok (.isub, 1) := by decide +kernel
