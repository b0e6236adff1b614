theorem dX11_readsHour_25 : decode cX11_readsHour 25 = .ok (.getfield 25, 3) := by decide +kernel
theorem dX11_readsHour_28 : decode cX11_readsHour 28 = .ok (.iload_n 1, 1) := by decide +kernel
theorem dX11_readsHour_29 : decode cX11_readsHour 29 = .ok (.iaload, 1) := by decide +kernel
theorem dX11_readsHour_30 : decode cX11_readsHour 30 = .ok (.imul, 1) := by decide +kernel
theorem dX11_readsHour_31 : decode cX11_readsHour 31 = .ok (.aload_n 0, 1) := by decide +kernel
theorem dX11_readsHour_32 : decode cX11_readsHour 32 = .ok (.invokevirtual 67, 3) := by decide +kernel
theorem dX11_readsHour_35 : decode cX11_readsHour 35 = .ok (.iadd, 1) := by decide +kernel
theorem dX11_readsHour_36 : decode cX11_readsHour 36 = .ok (.bipush 48, 2) := by decide +kernel
theorem dX11_readsHour_38 : decode cX11_readsHour 38 = .ok (.isub, 1) := by decide +kernel
theorem dX11_readsHour_39 : decode cX11_readsHour 39 = .ok (.iastore, 1) := by decide +kernel
theorem dX11_readsHour_40 : decode cX11_readsHour 40 = .ok (.aload_n 0, 1) := by decide +kernel
theorem dX11_readsHour_41 : decode cX11_readsHour 41 = .ok (.dup, 1) := by decide +kernel
theorem dX11_readsHour_42 : decode cX11_readsHour 42 = .ok (.getfield 64, 3) := by decide +kernel
theorem dX11_readsHour_45 : decode cX11_readsHour 45 = .ok (.iconst 1, 1) := by decide +kernel
theorem dX11_readsHour_46 : decode cX11_readsHour 46 = .ok (.iadd, 1) := by decide +kernel
theorem dX11_readsHour_47 : decode cX11_readsHour 47 = .ok (.putfield 64, 3) := by decide +kernel
theorem dX11_readsHour_50 : decode cX11_readsHour 50 = .ok (.iconst 1, 1) := by decide +kernel
theorem dX11_readsHour_51 : decode cX11_readsHour 51 = .ok (.ireturn, 1) := by decide +kernel
set_option maxRecDepth 20000 in
theorem ggX11_readsStatement_X11_sign : GoodIn wsX11_readsStatement wsX11_sign := goodIn_r _ [6, 1, 7, 8, 26, 27, 28, 29, 30, 31, 32, 33, 34, 35, 36, 37, 38, 39, 40, 41, 42, 43, 44] (by decide +kernel) (by decide +kernel)
set_option maxRecDepth 20000 in
theorem gX11_readsStatement_X11_sign : GoodIn wsX11_readsStatement (wsV RX11 67 RX11 yX11_sign wsX11_sign) := goodIn_app (goodIn_of _ (by decide +kernel)) ggX11_readsStatement_X11_sign
set_option maxRecDepth 20000 in
theorem ggX11_readsStatement_X11_readsDigit : GoodIn wsX11_readsStatement wsX11_readsDigit := goodIn_r _ [12, 13, 1, 14, 15, 16, 5, 17, 2, 3, 4, 6, 7, 8, 26, 27, 28, 29, 30, 31, 32, 33, 34, 35, 36, 37, 38, 39, 40, 41, 42, 43, 44] (by decide +kernel) (by decide +kernel)
set_option maxRecDepth 20000 in
theorem gX11_readsStatement_X11_readsDigit : GoodIn wsX11_readsStatement (wsV RX11 75 RX11 yX11_readsDigit wsX11_readsDigit) := goodIn_app (goodIn_of _ (by decide +kernel)) ggX11_readsStatement_X11_readsDigit
set_option maxRecDepth 20000 in
theorem ggX11_readsStatement_X11_takes : GoodIn wsX11_readsStatement wsX11_takes := goodIn_r _ [21, 1, 2, 3, 4, 5, 6, 7, 8, 26, 27, 28, 29, 30, 31, 32, 33, 34, 35, 36, 37, 38, 39, 40, 41, 42, 43, 44] (by decide +kernel) (by decide +kernel)
set_option maxRecDepth 20000 in
theorem gX11_readsStatement_X11_takes : GoodIn wsX11_readsStatement (wsV RX11 78 RX11 yX11_takes wsX11_takes) := goodIn_app (goodIn_of _ (by decide +kernel)) ggX11_readsStatement_X11_takes
set_option maxRecDepth 20000 in
theorem ggX11_readsStatement_X11_readsHour : GoodIn wsX11_readsStatement wsX11_readsHour := goodIn_r _ [25, 13, 1, 9, 10, 11, 5, 12, 14, 15, 16, 17, 2, 3, 4, 6, 7, 8, 26, 27, 28, 29, 30, 31, 32, 33, 34, 35, 36, 37, 38, 39, 40, 41, 42, 43, 44] (by decide +kernel) (by decide +kernel)
set_option maxRecDepth 20000 in
theorem gX11_readsStatement_X11_readsHour : GoodIn wsX11_readsStatement (wsV RX11 81 RX11 yX11_readsHour wsX11_readsHour) := goodIn_app (goodIn_of _ (by decide +kernel)) ggX11_readsStatement_X11_readsHour
theorem dX11_readsStatement_0 : decode cX11_readsStatement 0 = .ok (.aload_n 0, 1) := by decide +kernel
theorem dX11_readsStatement_1 : decode cX11_readsStatement 1 = .ok (.invokevirtual 67, 3) := by decide +kernel
theorem dX11_readsStatement_4 : decode cX11_readsStatement 4 = .ok (.istore_n 1, 1) := by decide +kernel
theorem dX11_readsStatement_5 : decode cX11_readsStatement 5 = .ok (.iload_n 1, 1) := by decide +kernel
theorem dX11_readsStatement_6 : decode cX11_readsStatement 6 = .ok (.bipush 114, 2) := by decide +kernel
theorem dX11_readsStatement_8 : decode cX11_readsStatement 8 = .ok (.if_icmp .eq 17, 3) := by decide +kernel
theorem dX11_readsStatement_11 : decode cX11_readsStatement 11 = .ok (.iload_n 1, 1) := by decide +kernel
theorem dX11_readsStatement_12 : decode cX11_readsStatement 12 = .ok (.bipush 100, 2) := by decide +kernel
theorem dX11_readsStatement_14 : decode cX11_readsStatement 14 = .ok (.if_icmp .eq 11, 3) := by decide +kernel
theorem dX11_readsStatement_17 : decode cX11_readsStatement 17 = .ok (.iload_n 1, 1) := by decide +kernel
theorem dX11_readsStatement_18 : decode cX11_readsStatement 18 = .ok (.bipush 110, 2) := by decide +kernel
theorem dX11_readsStatement_20 : decode cX11_readsStatement 20 = .ok (.if_icmp .eq 5, 3) := by decide +kernel
theorem dX11_readsStatement_23 : decode cX11_readsStatement 23 = .ok (.iconst 0, 1) := by decide +kernel
theorem dX11_readsStatement_24 : decode cX11_readsStatement 24 = .ok (.ireturn, 1) := by decide +kernel
theorem dX11_readsStatement_25 : decode cX11_readsStatement 25 = .ok (.aload_n 0, 1) := by decide +kernel
theorem dX11_readsStatement_26 : decode cX11_readsStatement 26 = .ok (.dup, 1) := by decide +kernel
theorem dX11_readsStatement_27 : decode cX11_readsStatement 27 = .ok (.getfield 64, 3) := by decide +kernel
theorem dX11_readsStatement_30 : decode cX11_readsStatement 30 = .ok (.iconst 1, 1) := by decide +kernel
theorem dX11_readsStatement_31 : decode cX11_readsStatement 31 = .ok (.iadd, 1) := by decide +kernel
theorem dX11_readsStatement_32 : decode cX11_readsStatement 32 = .ok (.putfield 64, 3) := by decide +kernel
theorem dX11_readsStatement_35 : decode cX11_readsStatement 35 = .ok (.aload_n 0, 1) := by decide +kernel
theorem dX11_readsStatement_36 : decode cX11_readsStatement 36 = .ok (.iconst 0, 1) := by decide +kernel
theorem dX11_readsStatement_37 : decode cX11_readsStatement 37 = .ok (.invokevirtual 75, 3) := by decide +kernel
theorem dX11_readsStatement_40 : decode cX11_readsStatement 40 = .ok (.ifCond .ne 5, 3) := by decide +kernel
theorem dX11_readsStatement_43 : decode cX11_readsStatement 43 = .ok (.iconst 0, 1) := by decide +kernel
theorem dX11_readsStatement_44 : decode cX11_readsStatement 44 = .ok (.ireturn, 1) := by decide +kernel
theorem dX11_readsStatement_45 : decode cX11_readsStatement 45 = .ok (.iload_n 1, 1) := by decide +kernel
theorem dX11_readsStatement_46 : decode cX11_readsStatement 46 = .ok (.bipush 114, 2) := by decide +kernel
theorem dX11_readsStatement_48 : decode cX11_readsStatement 48 = .ok (.if_icmp .ne 14, 3) := by decide +kernel
theorem dX11_readsStatement_51 : decode cX11_readsStatement 51 = .ok (.aload_n 0, 1) := by decide +kernel
theorem dX11_readsStatement_52 : decode cX11_readsStatement 52 = .ok (.bipush 42, 2) := by decide +kernel
theorem dX11_readsStatement_54 : decode cX11_readsStatement 54 = .ok (.invokevirtual 78, 3) := by decide +kernel
theorem dX11_readsStatement_57 : decode cX11_readsStatement 57 = .ok (.ifCond .ne 5, 3) := by decide +kernel
theorem dX11_readsStatement_60 : decode cX11_readsStatement 60 = .ok (.iconst 0, 1) := by decide +kernel
theorem dX11_readsStatement_61 : decode cX11_readsStatement 61 = .ok (.ireturn, 1) := by decide +kernel
theorem dX11_readsStatement_62 : decode cX11_readsStatement 62 = .ok (.aload_n 0, 1) := by decide +kernel
theorem dX11_readsStatement_63 : decode cX11_readsStatement 63 = .ok (.iconst 1, 1) := by decide +kernel
theorem dX11_readsStatement_64 : decode cX11_readsStatement 64 = .ok (.invokevirtual 75, 3) := by decide +kernel
theorem dX11_readsStatement_67 : decode cX11_readsStatement 67 = .ok (.ifCond .ne 5, 3) := by decide +kernel
theorem dX11_readsStatement_70 : decode cX11_readsStatement 70 = .ok (.iconst 0, 1) := by decide +kernel
theorem dX11_readsStatement_71 : decode cX11_readsStatement 71 = .ok (.ireturn, 1) := by decide +kernel
theorem dX11_readsStatement_72 : decode cX11_readsStatement 72 = .ok (.iload_n 1, 1) := by decide +kernel
theorem dX11_readsStatement_73 : decode cX11_readsStatement 73 = .ok (.bipush 110, 2) := by decide +kernel
theorem dX11_readsStatement_75 : decode cX11_readsStatement 75 = .ok (.if_icmp .ne 39, 3) := by decide +kernel
theorem dX11_readsStatement_78 : decode cX11_readsStatement 78 = .ok (.aload_n 0, 1) := by decide +kernel
theorem dX11_readsStatement_79 : decode cX11_readsStatement 79 = .ok (.bipush 64, 2) := by decide +kernel
theorem dX11_readsStatement_81 : decode cX11_readsStatement 81 = .ok (.invokevirtual 78, 3) := by decide +kernel
theorem dX11_readsStatement_84 : decode cX11_readsStatement 84 = .ok (.ifCond .eq 28, 3) := by decide +kernel
theorem dX11_readsStatement_87 : decode cX11_readsStatement 87 = .ok (.aload_n 0, 1) := by decide +kernel
theorem dX11_readsStatement_88 : decode cX11_readsStatement 88 = .ok (.iconst 2, 1) := by decide +kernel
theorem dX11_readsStatement_89 : decode cX11_readsStatement 89 = .ok (.invokevirtual 81, 3) := by decide +kernel
theorem dX11_readsStatement_92 : decode cX11_readsStatement 92 = .ok (.ifCond .eq 20, 3) := by decide +kernel
theorem dX11_readsStatement_95 : decode cX11_readsStatement 95 = .ok (.aload_n 0, 1) := by decide +kernel
theorem dX11_readsStatement_96 : decode cX11_readsStatement 96 = .ok (.bipush 45, 2) := by decide +kernel
theorem dX11_readsStatement_98 : decode cX11_readsStatement 98 = .ok (.invokevirtual 78, 3) := by decide +kernel
theorem dX11_readsStatement_101 : decode cX11_readsStatement 101 = .ok (.ifCond .eq 11, 3) := by decide +kernel
theorem dX11_readsStatement_104 : decode cX11_readsStatement 104 = .ok (.aload_n 0, 1) := by decide +kernel
theorem dX11_readsStatement_105 : decode cX11_readsStatement 105 = .ok (.iconst 3, 1) := by decide +kernel
theorem dX11_readsStatement_106 : decode cX11_readsStatement 106 = .ok (.invokevirtual 81, 3) := by decide +kernel
theorem dX11_readsStatement_109 : decode cX11_readsStatement 109 = .ok (.ifCond .ne 5, 3) := by decide +kernel
theorem dX11_readsStatement_112 : decode cX11_readsStatement 112 = .ok (.iconst 0, 1) := by decide +kernel
theorem dX11_readsStatement_113 : decode cX11_readsStatement 113 = .ok (.ireturn, 1) := by decide +kernel
theorem dX11_readsStatement_114 : decode cX11_readsStatement 114 = .ok (.aload_n 0, 1) := by decide +kernel
theorem dX11_readsStatement_115 : decode cX11_readsStatement 115 = .ok (.bipush 59, 2) := by decide +kernel
theorem dX11_readsStatement_117 : decode cX11_readsStatement 117 = .ok (.invokevirtual 78, 3) := by decide +kernel
theorem dX11_readsStatement_120 : decode cX11_readsStatement 120 = .ok (.ireturn, 1) := by decide +kernel
theorem dX11_isDoor_0 : decode cX11_isDoor 0 = .ok (.iconst 0, 1) := by decide +kernel
theorem dX11_isDoor_1 : decode cX11_isDoor 1 = .ok (.istore_n 3, 1) := by decide +kernel
theorem dX11_isDoor_2 : decode cX11_isDoor 2 = .ok (.iload_n 3, 1) := by decide +kernel
theorem dX11_isDoor_3 : decode cX11_isDoor 3 = .ok (.aload_n 0, 1) := by decide +kernel
theorem dX11_isDoor_4 : decode cX11_isDoor 4 = .ok (.iconst 1, 1) := by decide +kernel
theorem dX11_isDoor_5 : decode cX11_isDoor 5 = .ok (.iaload, 1) := by decide +kernel
theorem dX11_isDoor_6 : decode cX11_isDoor 6 = .ok (.if_icmp .ge 57, 3) := by decide +kernel
theorem dX11_isDoor_9 : decode cX11_isDoor 9 = .ok (.aload_n 0, 1) := by decide +kernel
theorem dX11_isDoor_10 : decode cX11_isDoor 10 = .ok (.bipush 21, 2) := by decide +kernel
theorem dX11_isDoor_12 : decode cX11_isDoor 12 = .ok (.iconst 2, 1) := by decide +kernel
theorem dX11_isDoor_13 : decode cX11_isDoor 13 = .ok (.iload_n 3, 1) := by decide +kernel
theorem dX11_isDoor_14 : decode cX11_isDoor 14 = .ok (.imul, 1) := by decide +kernel
theorem dX11_isDoor_15 : decode cX11_isDoor 15 = .ok (.iadd, 1) := by decide +kernel
theorem dX11_isDoor_16 : decode cX11_isDoor 16 = .ok (.iaload, 1) := by decide +kernel
theorem dX11_isDoor_17 : decode cX11_isDoor 17 = .ok (.istore 4, 2) := by decide +kernel
theorem dX11_isDoor_19 : decode cX11_isDoor 19 = .ok (.aload_n 0, 1) := by decide +kernel
theorem dX11_isDoor_20 : decode cX11_isDoor 20 = .ok (.bipush 21, 2) := by decide +kernel
theorem dX11_isDoor_22 : decode cX11_isDoor 22 = .ok (.iconst 2, 1) := by decide +kernel
theorem dX11_isDoor_23 : decode cX11_isDoor 23 = .ok (.iload_n 3, 1) := by decide +kernel
theorem dX11_isDoor_24 : decode cX11_isDoor 24 = .ok (.imul, 1) := by decide +kernel
theorem dX11_isDoor_25 : decode cX11_isDoor 25 = .ok (.iadd, 1) := by decide +kernel
theorem dX11_isDoor_26 : decode cX11_isDoor 26 = .ok (.iconst 1, 1) := by decide +kernel
theorem dX11_isDoor_27 : decode cX11_isDoor 27 = .ok (.iadd, 1) := by decide +kernel
theorem dX11_isDoor_28 : decode cX11_isDoor 28 = .ok (.iaload, 1) := by decide +kernel
theorem dX11_isDoor_29 : decode cX11_isDoor 29 = .ok (.istore 5, 2) := by decide +kernel
theorem dX11_isDoor_31 : decode cX11_isDoor 31 = .ok (.iload 4, 2) := by decide +kernel
theorem dX11_isDoor_33 : decode cX11_isDoor 33 = .ok (.iload_n 1, 1) := by decide +kernel
theorem dX11_isDoor_34 : decode cX11_isDoor 34 = .ok (.if_icmp .ne 9, 3) := by decide +kernel
theorem dX11_isDoor_37 : decode cX11_isDoor 37 = .ok (.iload 5, 2) := by decide +kernel
theorem dX11_isDoor_39 : decode cX11_isDoor 39 = .ok (.iload_n 2, 1) := by decide +kernel
theorem dX11_isDoor_40 : decode cX11_isDoor 40 = .ok (.if_icmp .eq 15, 3) := by decide +kernel
theorem dX11_isDoor_43 : decode cX11_isDoor 43 = .ok (.iload 4, 2) := by decide +kernel
theorem dX11_isDoor_45 : decode cX11_isDoor 45 = .ok (.iload_n 2, 1) := by decide +kernel
theorem dX11_isDoor_46 : decode cX11_isDoor 46 = .ok (.if_icmp .ne 11, 3) := by decide +kernel
theorem dX11_isDoor_49 : decode cX11_isDoor 49 = .ok (.iload 5, 2) := by decide +kernel
theorem dX11_isDoor_51 : decode cX11_isDoor 51 = .ok (.iload_n 1, 1) := by decide +kernel
theorem dX11_isDoor_52 : decode cX11_isDoor 52 = .ok (.if_icmp .ne 5, 3) := by decide +kernel
theorem dX11_isDoor_55 : decode cX11_isDoor 55 = .ok (.iconst 1, 1) := by decide +kernel
theorem dX11_isDoor_56 : decode cX11_isDoor 56 = .ok (.ireturn, 1) := by decide +kernel
theorem dX11_isDoor_57 : decode cX11_isDoor 57 = .ok (.iinc 3 1, 3) := by decide +kernel
theorem dX11_isDoor_60 : decode cX11_isDoor 60 = .ok (.goto (-58), 3) := by decide +kernel
theorem dX11_isDoor_63 : decode cX11_isDoor 63 = .ok (.iconst 0, 1) := by decide +kernel
theorem dX11_isDoor_64 : decode cX11_isDoor 64 = .ok (.ireturn, 1) := by decide +kernel
set_option maxRecDepth 20000 in
theorem ggX11_comes_X11_isDoor : GoodIn wsX11_comes wsX11_isDoor := goodIn_r _ [6] (by decide +kernel) (by decide +kernel)
set_option maxRecDepth 20000 in
theorem gX11_comes_X11_isDoor : GoodIn wsX11_comes (va_wsS RX11 84 yX11_isDoor wsX11_isDoor) := goodIn_app (goodIn_of _ (by decide +kernel)) ggX11_comes_X11_isDoor
theorem dX11_comes_0 : decode cX11_comes 0 = .ok (.iload_n 1, 1) := by decide +kernel
theorem dX11_comes_1 : decode cX11_comes 1 = .ok (.bipush 114, 2) := by decide +kernel
theorem dX11_comes_3 : decode cX11_comes 3 = .ok (.if_icmp .ne 98, 3) := by decide +kernel
theorem dX11_comes_6 : decode cX11_comes 6 = .ok (.aload_n 0, 1) := by decide +kernel
theorem dX11_comes_7 : decode cX11_comes 7 = .ok (.getfield 25, 3) := by decide +kernel
theorem dX11_comes_10 : decode cX11_comes 10 = .ok (.iconst 0, 1) := by decide +kernel
theorem dX11_comes_11 : decode cX11_comes 11 = .ok (.iaload, 1) := by decide +kernel
theorem dX11_comes_12 : decode cX11_comes 12 = .ok (.iconst 1, 1) := by decide +kernel
theorem dX11_comes_13 : decode cX11_comes 13 = .ok (.if_icmp .lt 34, 3) := by decide +kernel
theorem dX11_comes_16 : decode cX11_comes 16 = .ok (.aload_n 0, 1) := by decide +kernel
theorem dX11_comes_17 : decode cX11_comes 17 = .ok (.getfield 25, 3) := by decide +kernel
theorem dX11_comes_20 : decode cX11_comes 20 = .ok (.iconst 1, 1) := by decide +kernel
theorem dX11_comes_21 : decode cX11_comes 21 = .ok (.iaload, 1) := by decide +kernel
theorem dX11_comes_22 : decode cX11_comes 22 = .ok (.iconst 1, 1) := by decide +kernel
theorem dX11_comes_23 : decode cX11_comes 23 = .ok (.if_icmp .lt 24, 3) := by decide +kernel
theorem dX11_comes_26 : decode cX11_comes 26 = .ok (.aload_n 0, 1) := by decide +kernel
theorem dX11_comes_27 : decode cX11_comes 27 = .ok (.getfield 25, 3) := by decide +kernel
theorem dX11_comes_30 : decode cX11_comes 30 = .ok (.iconst 1, 1) := by decide +kernel
theorem dX11_comes_31 : decode cX11_comes 31 = .ok (.iaload, 1) := by decide +kernel
theorem dX11_comes_32 : decode cX11_comes 32 = .ok (.iconst 2, 1) := by decide +kernel
theorem dX11_comes_33 : decode cX11_comes 33 = .ok (.if_icmp .gt 14, 3) := by decide +kernel
theorem dX11_comes_36 : decode cX11_comes 36 = .ok (.aload_n 0, 1) := by decide +kernel
theorem dX11_comes_37 : decode cX11_comes 37 = .ok (.getfield 19, 3) := by decide +kernel
theorem dX11_comes_40 : decode cX11_comes 40 = .ok (.iconst 0, 1) := by decide +kernel
theorem dX11_comes_41 : decode cX11_comes 41 = .ok (.iaload, 1) := by decide +kernel
theorem dX11_comes_42 : decode cX11_comes 42 = .ok (.bipush 6, 2) := by decide +kernel
theorem dX11_comes_44 : decode cX11_comes 44 = .ok (.if_icmp .ne 5, 3) := by decide +kernel
theorem dX11_comes_47 : decode cX11_comes 47 = .ok (.iconst 0, 1) := by decide +kernel
theorem dX11_comes_48 : decode cX11_comes 48 = .ok (.ireturn, 1) := by decide +kernel
theorem dX11_comes_49 : decode cX11_comes 49 = .ok (.aload_n 0, 1) := by decide +kernel
theorem dX11_comes_50 : decode cX11_comes 50 = .ok (.getfield 19, 3) := by decide +kernel
theorem dX11_comes_53 : decode cX11_comes 53 = .ok (.bipush 9, 2) := by decide +kernel
theorem dX11_comes_55 : decode cX11_comes 55 = .ok (.aload_n 0, 1) := by decide +kernel
theorem dX11_comes_56 : decode cX11_comes 56 = .ok (.getfield 19, 3) := by decide +kernel
theorem dX11_comes_59 : decode cX11_comes 59 = .ok (.iconst 0, 1) := by decide +kernel
theorem dX11_comes_60 : decode cX11_comes 60 = .ok (.iaload, 1) := by decide +kernel
theorem dX11_comes_61 : decode cX11_comes 61 = .ok (.iadd, 1) := by decide +kernel
theorem dX11_comes_62 : decode cX11_comes 62 = .ok (.aload_n 0, 1) := by decide +kernel
theorem dX11_comes_63 : decode cX11_comes 63 = .ok (.getfield 25, 3) := by decide +kernel
theorem dX11_comes_66 : decode cX11_comes 66 = .ok (.iconst 0, 1) := by decide +kernel
theorem dX11_comes_67 : decode cX11_comes 67 = .ok (.iaload, 1) := by decide +kernel
theorem dX11_comes_68 : decode cX11_comes 68 = .ok (.iastore, 1) := by decide +kernel
theorem dX11_comes_69 : decode cX11_comes 69 = .ok (.aload_n 0, 1) := by decide +kernel
theorem dX11_comes_70 : decode cX11_comes 70 = .ok (.getfield 19, 3) := by decide +kernel
theorem dX11_comes_73 : decode cX11_comes 73 = .ok (.bipush 15, 2) := by decide +kernel
theorem dX11_comes_75 : decode cX11_comes 75 = .ok (.aload_n 0, 1) := by decide +kernel
theorem dX11_comes_76 : decode cX11_comes 76 = .ok (.getfield 19, 3) := by decide +kernel
theorem dX11_comes_79 : decode cX11_comes 79 = .ok (.iconst 0, 1) := by decide +kernel
theorem dX11_comes_80 : decode cX11_comes 80 = .ok (.iaload, 1) := by decide +kernel
theorem dX11_comes_81 : decode cX11_comes 81 = .ok (.iadd, 1) := by decide +kernel
theorem dX11_comes_82 : decode cX11_comes 82 = .ok (.aload_n 0, 1) := by decide +kernel
theorem dX11_comes_83 : decode cX11_comes 83 = .ok (.getfield 25, 3) := by decide +kernel
theorem dX11_comes_86 : decode cX11_comes 86 = .ok (.iconst 1, 1) := by decide +kernel
theorem dX11_comes_87 : decode cX11_comes 87 = .ok (.iaload, 1) := by decide +kernel
theorem dX11_comes_88 : decode cX11_comes 88 = .ok (.iastore, 1) := by decide +kernel
theorem dX11_comes_89 : decode cX11_comes 89 = .ok (.aload_n 0, 1) := by decide +kernel
theorem dX11_comes_90 : decode cX11_comes 90 = .ok (.getfield 19, 3) := by decide +kernel
theorem dX11_comes_93 : decode cX11_comes 93 = .ok (.iconst 0, 1) := by decide +kernel
theorem dX11_comes_94 : decode cX11_comes 94 = .ok (.dup2, 1) := by decide +kernel
theorem dX11_comes_95 : decode cX11_comes 95 = .ok (.iaload, 1) := by decide +kernel
theorem dX11_comes_96 : decode cX11_comes 96 = .ok (.iconst 1, 1) := by decide +kernel
theorem dX11_comes_97 : decode cX11_comes 97 = .ok (.iadd, 1) := by decide +kernel
theorem dX11_comes_98 : decode cX11_comes 98 = .ok (.iastore, 1) := by decide +kernel
theorem dX11_comes_99 : decode cX11_comes 99 = .ok (.iconst 1, 1) := by decide +kernel
theorem dX11_comes_100 : decode cX11_comes 100 = .ok (.ireturn, 1) := by decide +kernel
theorem dX11_comes_101 : decode cX11_comes 101 = .ok (.aload_n 0, 1) := by decide +kernel
theorem dX11_comes_102 : decode cX11_comes 102 = .ok (.getfield 25, 3) := by decide +kernel
theorem dX11_comes_105 : decode cX11_comes 105 = .ok (.iconst 0, 1) := by decide +kernel
theorem dX11_comes_106 : decode cX11_comes 106 = .ok (.iaload, 1) := by decide +kernel
theorem dX11_comes_107 : decode cX11_comes 107 = .ok (.aload_n 0, 1) := by decide +kernel
theorem dX11_comes_108 : decode cX11_comes 108 = .ok (.getfield 19, 3) := by decide +kernel
theorem dX11_comes_111 : decode cX11_comes 111 = .ok (.iconst 0, 1) := by decide +kernel
theorem dX11_comes_112 : decode cX11_comes 112 = .ok (.iaload, 1) := by decide +kernel
theorem dX11_comes_113 : decode cX11_comes 113 = .ok (.if_icmp .ge 33, 3) := by decide +kernel
theorem dX11_comes_116 : decode cX11_comes 116 = .ok (.aload_n 0, 1) := by decide +kernel
theorem dX11_comes_117 : decode cX11_comes 117 = .ok (.getfield 25, 3) := by decide +kernel
theorem dX11_comes_120 : decode cX11_comes 120 = .ok (.iconst 1, 1) := by decide +kernel
theorem dX11_comes_121 : decode cX11_comes 121 = .ok (.iaload, 1) := by decide +kernel
theorem dX11_comes_122 : decode cX11_comes 122 = .ok (.aload_n 0, 1) := by decide +kernel
theorem dX11_comes_123 : decode cX11_comes 123 = .ok (.getfield 19, 3) := by decide +kernel
theorem dX11_comes_126 : decode cX11_comes 126 = .ok (.iconst 0, 1) := by decide +kernel
theorem dX11_comes_127 : decode cX11_comes 127 = .ok (.iaload, 1) := by decide +kernel
theorem dX11_comes_128 : decode cX11_comes 128 = .ok (.if_icmp .ge 18, 3) := by decide +kernel
theorem dX11_comes_131 : decode cX11_comes 131 = .ok (.aload_n 0, 1) := by decide +kernel
theorem dX11_comes_132 : decode cX11_comes 132 = .ok (.getfield 25, 3) := by decide +kernel
theorem dX11_comes_135 : decode cX11_comes 135 = .ok (.iconst 0, 1) := by decide +kernel
theorem dX11_comes_136 : decode cX11_comes 136 = .ok (.iaload, 1) := by decide +kernel
theorem dX11_comes_137 : decode cX11_comes 137 = .ok (.aload_n 0, 1) := by decide +kernel
theorem dX11_comes_138 : decode cX11_comes 138 = .ok (.getfield 25, 3) := by decide +kernel
theorem dX11_comes_141 : decode cX11_comes 141 = .ok (.iconst 1, 1) := by decide +kernel
theorem dX11_comes_142 : decode cX11_comes 142 = .ok (.iaload, 1) := by decide +kernel
theorem dX11_comes_143 : decode cX11_comes 143 = .ok (.if_icmp .ne 5, 3) := by decide +kernel
theorem dX11_comes_146 : decode cX11_comes 146 = .ok (.iconst 0, 1) := by decide +kernel
theorem dX11_comes_147 : decode cX11_comes 147 = .ok (.ireturn, 1) := by decide +kernel
theorem dX11_comes_148 : decode cX11_comes 148 = .ok (.iload_n 1, 1) := by decide +kernel
theorem dX11_comes_149 : decode cX11_comes 149 = .ok (.bipush 100, 2) := by decide +kernel
theorem dX11_comes_151 : decode cX11_comes 151 = .ok (.if_icmp .ne 96, 3) := by decide +kernel
theorem dX11_comes_154 : decode cX11_comes 154 = .ok (.aload_n 0, 1) := by decide +kernel
theorem dX11_comes_155 : decode cX11_comes 155 = .ok (.getfield 19, 3) := by decide +kernel
theorem dX11_comes_158 : decode cX11_comes 158 = .ok (.aload_n 0, 1) := by decide +kernel
theorem dX11_comes_159 : decode cX11_comes 159 = .ok (.getfield 25, 3) := by decide +kernel
theorem dX11_comes_162 : decode cX11_comes 162 = .ok (.iconst 0, 1) := by decide +kernel
theorem dX11_comes_163 : decode cX11_comes 163 = .ok (.iaload, 1) := by decide +kernel
theorem dX11_comes_164 : decode cX11_comes 164 = .ok (.aload_n 0, 1) := by decide +kernel
theorem dX11_comes_165 : decode cX11_comes 165 = .ok (.getfield 25, 3) := by decide +kernel
theorem dX11_comes_168 : decode cX11_comes 168 = .ok (.iconst 1, 1) := by decide +kernel
theorem dX11_comes_169 : decode cX11_comes 169 = .ok (.iaload, 1) := by decide +kernel
theorem dX11_comes_170 : decode cX11_comes 170 = .ok (.invokestatic 84, 3) := by decide +kernel
theorem dX11_comes_173 : decode cX11_comes 173 = .ok (.ifCond .ne 14, 3) := by decide +kernel
theorem dX11_comes_176 : decode cX11_comes 176 = .ok (.aload_n 0, 1) := by decide +kernel
theorem dX11_comes_177 : decode cX11_comes 177 = .ok (.getfield 19, 3) := by decide +kernel
theorem dX11_comes_180 : decode cX11_comes 180 = .ok (.iconst 1, 1) := by decide +kernel
theorem dX11_comes_181 : decode cX11_comes 181 = .ok (.iaload, 1) := by decide +kernel
theorem dX11_comes_182 : decode cX11_comes 182 = .ok (.bipush 12, 2) := by decide +kernel
theorem dX11_comes_184 : decode cX11_comes 184 = .ok (.if_icmp .ne 5, 3) := by decide +kernel
theorem dX11_comes_187 : decode cX11_comes 187 = .ok (.iconst 0, 1) := by decide +kernel
theorem dX11_comes_188 : decode cX11_comes 188 = .ok (.ireturn, 1) := by decide +kernel
theorem dX11_comes_189 : decode cX11_comes 189 = .ok (.aload_n 0, 1) := by decide +kernel
theorem dX11_comes_190 : decode cX11_comes 190 = .ok (.getfield 19, 3) := by decide +kernel
theorem dX11_comes_193 : decode cX11_comes 193 = .ok (.bipush 21, 2) := by decide +kernel
theorem dX11_comes_195 : decode cX11_comes 195 = .ok (.iconst 2, 1) := by decide +kernel
theorem dX11_comes_196 : decode cX11_comes 196 = .ok (.aload_n 0, 1) := by decide +kernel
theorem dX11_comes_197 : decode cX11_comes 197 = .ok (.getfield 19, 3) := by decide +kernel
theorem dX11_comes_200 : decode cX11_comes 200 = .ok (.iconst 1, 1) := by decide +kernel
theorem dX11_comes_201 : decode cX11_comes 201 = .ok (.iaload, 1) := by decide +kernel
theorem dX11_comes_202 : decode cX11_comes 202 = .ok (.imul, 1) := by decide +kernel
theorem dX11_comes_203 : decode cX11_comes 203 = .ok (.iadd, 1) := by decide +kernel
theorem dX11_comes_204 : decode cX11_comes 204 = .ok (.aload_n 0, 1) := by decide +kernel
theorem dX11_comes_205 : decode cX11_comes 205 = .ok (.getfield 25, 3) := by decide +kernel
theorem dX11_comes_208 : decode cX11_comes 208 = .ok (.iconst 0, 1) := by decide +kernel
theorem dX11_comes_209 : decode cX11_comes 209 = .ok (.iaload, 1) := by decide +kernel
theorem dX11_comes_210 : decode cX11_comes 210 = .ok (.iastore, 1) := by decide +kernel
theorem dX11_comes_211 : decode cX11_comes 211 = .ok (.aload_n 0, 1) := by decide +kernel
theorem dX11_comes_212 : decode cX11_comes 212 = .ok (.getfield 19, 3) := by decide +kernel
theorem dX11_comes_215 : decode cX11_comes 215 = .ok (.bipush 21, 2) := by decide +kernel
theorem dX11_comes_217 : decode cX11_comes 217 = .ok (.iconst 2, 1) := by decide +kernel
theorem dX11_comes_218 : decode cX11_comes 218 = .ok (.aload_n 0, 1) := by decide +kernel
theorem dX11_comes_219 : decode cX11_comes 219 = .ok (.getfield 19, 3) := by decide +kernel
theorem dX11_comes_222 : decode cX11_comes 222 = .ok (.iconst 1, 1) := by decide +kernel
theorem dX11_comes_223 : decode cX11_comes 223 = .ok (.iaload, 1) := by decide +kernel
theorem dX11_comes_224 : decode cX11_comes 224 = .ok (.imul, 1) := by decide +kernel
theorem dX11_comes_225 : decode cX11_comes 225 = .ok (.iadd, 1) := by decide +kernel
theorem dX11_comes_226 : decode cX11_comes 226 = .ok (.iconst 1, 1) := by decide +kernel
theorem dX11_comes_227 : decode cX11_comes 227 = .ok (.iadd, 1) := by decide +kernel
theorem dX11_comes_228 : decode cX11_comes 228 = .ok (.aload_n 0, 1) := by decide +kernel
theorem dX11_comes_229 : decode cX11_comes 229 = .ok (.getfield 25, 3) := by decide +kernel
theorem dX11_comes_232 : decode cX11_comes 232 = .ok (.iconst 1, 1) := by decide +kernel
theorem dX11_comes_233 : decode cX11_comes 233 = .ok (.iaload, 1) := by decide +kernel
theorem dX11_comes_234 : decode cX11_comes 234 = .ok (.iastore, 1) := by decide +kernel
theorem dX11_comes_235 : decode cX11_comes 235 = .ok (.aload_n 0, 1) := by decide +kernel
theorem dX11_comes_236 : decode cX11_comes 236 = .ok (.getfield 19, 3) := by decide +kernel
theorem dX11_comes_239 : decode cX11_comes 239 = .ok (.iconst 1, 1) := by decide +kernel
theorem dX11_comes_240 : decode cX11_comes 240 = .ok (.dup2, 1) := by decide +kernel
theorem dX11_comes_241 : decode cX11_comes 241 = .ok (.iaload, 1) := by decide +kernel
theorem dX11_comes_242 : decode cX11_comes 242 = .ok (.iconst 1, 1) := by decide +kernel
theorem dX11_comes_243 : decode cX11_comes 243 = .ok (.iadd, 1) := by decide +kernel
theorem dX11_comes_244 : decode cX11_comes 244 = .ok (.iastore, 1) := by decide +kernel
theorem dX11_comes_245 : decode cX11_comes 245 = .ok (.iconst 1, 1) := by decide +kernel
theorem dX11_comes_246 : decode cX11_comes 246 = .ok (.ireturn, 1) := by decide +kernel
theorem dX11_comes_247 : decode cX11_comes 247 = .ok (.aload_n 0, 1) := by decide +kernel
theorem dX11_comes_248 : decode cX11_comes 248 = .ok (.getfield 25, 3) := by decide +kernel
theorem dX11_comes_251 : decode cX11_comes 251 = .ok (.iconst 2, 1) := by decide +kernel
theorem dX11_comes_252 : decode cX11_comes 252 = .ok (.iaload, 1) := by decide +kernel
theorem dX11_comes_253 : decode cX11_comes 253 = .ok (.aload_n 0, 1) := by decide +kernel
theorem dX11_comes_254 : decode cX11_comes 254 = .ok (.getfield 25, 3) := by decide +kernel
theorem dX11_comes_257 : decode cX11_comes 257 = .ok (.iconst 3, 1) := by decide +kernel
theorem dX11_comes_258 : decode cX11_comes 258 = .ok (.iaload, 1) := by decide +kernel
theorem dX11_comes_259 : decode cX11_comes 259 = .ok (.if_icmp .gt 14, 3) := by decide +kernel
theorem dX11_comes_262 : decode cX11_comes 262 = .ok (.aload_n 0, 1) := by decide +kernel
theorem dX11_comes_263 : decode cX11_comes 263 = .ok (.getfield 19, 3) := by decide +kernel
theorem dX11_comes_266 : decode cX11_comes 266 = .ok (.iconst 2, 1) := by decide +kernel
theorem dX11_comes_267 : decode cX11_comes 267 = .ok (.iaload, 1) := by decide +kernel
theorem dX11_comes_268 : decode cX11_comes 268 = .ok (.bipush 8, 2) := by decide +kernel
theorem dX11_comes_270 : decode cX11_comes 270 = .ok (.if_icmp .ne 5, 3) := by decide +kernel
theorem dX11_comes_273 : decode cX11_comes 273 = .ok (.iconst 0, 1) := by decide +kernel
theorem dX11_comes_274 : decode cX11_comes 274 = .ok (.ireturn, 1) := by decide +kernel
theorem dX11_comes_275 : decode cX11_comes 275 = .ok (.iconst 0, 1) := by decide +kernel
theorem dX11_comes_276 : decode cX11_comes 276 = .ok (.istore_n 2, 1) := by decide +kernel
theorem dX11_comes_277 : decode cX11_comes 277 = .ok (.iload_n 2, 1) := by decide +kernel
theorem dX11_comes_278 : decode cX11_comes 278 = .ok (.iconst 4, 1) := by decide +kernel
theorem dX11_comes_279 : decode cX11_comes 279 = .ok (.if_icmp .ge 33, 3) := by decide +kernel
theorem dX11_comes_282 : decode cX11_comes 282 = .ok (.aload_n 0, 1) := by decide +kernel
theorem dX11_comes_283 : decode cX11_comes 283 = .ok (.getfield 19, 3) := by decide +kernel
theorem dX11_comes_286 : decode cX11_comes 286 = .ok (.bipush 45, 2) := by decide +kernel
theorem dX11_comes_288 : decode cX11_comes 288 = .ok (.iconst 4, 1) := by decide +kernel
theorem dX11_comes_289 : decode cX11_comes 289 = .ok (.aload_n 0, 1) := by decide +kernel
theorem dX11_comes_290 : decode cX11_comes 290 = .ok (.getfield 19, 3) := by decide +kernel
theorem dX11_comes_293 : decode cX11_comes 293 = .ok (.iconst 2, 1) := by decide +kernel
theorem dX11_comes_294 : decode cX11_comes 294 = .ok (.iaload, 1) := by decide +kernel
theorem dX11_comes_295 : decode cX11_comes 295 = .ok (.imul, 1) := by decide +kernel
theorem dX11_comes_296 : decode cX11_comes 296 = .ok (.iadd, 1) := by decide +kernel
theorem dX11_comes_297 : decode cX11_comes 297 = .ok (.iload_n 2, 1) := by decide +kernel
theorem dX11_comes_298 : decode cX11_comes 298 = .ok (.iadd, 1) := by decide +kernel
theorem dX11_comes_299 : decode cX11_comes 299 = .ok (.aload_n 0, 1) := by decide +kernel
theorem dX11_comes_300 : decode cX11_comes 300 = .ok (.getfield 25, 3) := by decide +kernel
theorem dX11_comes_303 : decode cX11_comes 303 = .ok (.iload_n 2, 1) := by decide +kernel
theorem dX11_comes_304 : decode cX11_comes 304 = .ok (.iaload, 1) := by decide +kernel
theorem dX11_comes_305 : decode cX11_comes 305 = .ok (.iastore, 1) := by decide +kernel
theorem dX11_comes_306 : decode cX11_comes 306 = .ok (.iinc 2 1, 3) := by decide +kernel
theorem dX11_comes_309 : decode cX11_comes 309 = .ok (.goto (-32), 3) := by decide +kernel
theorem dX11_comes_312 : decode cX11_comes 312 = .ok (.aload_n 0, 1) := by decide +kernel
theorem dX11_comes_313 : decode cX11_comes 313 = .ok (.getfield 19, 3) := by decide +kernel
theorem dX11_comes_316 : decode cX11_comes 316 = .ok (.iconst 2, 1) := by decide +kernel
theorem dX11_comes_317 : decode cX11_comes 317 = .ok (.dup2, 1) := by decide +kernel
theorem dX11_comes_318 : decode cX11_comes 318 = .ok (.iaload, 1) := by decide +kernel
theorem dX11_comes_319 : decode cX11_comes 319 = .ok (.iconst 1, 1) := by decide +kernel
theorem dX11_comes_320 : decode cX11_comes 320 = .ok (.iadd, 1) := by decide +kernel
theorem dX11_comes_321 : decode cX11_comes 321 = .ok (.iastore, 1) := by decide +kernel
theorem dX11_comes_322 : decode cX11_comes 322 = .ok (.iconst 1, 1) := by decide +kernel
theorem dX11_comes_323 : decode cX11_comes 323 = .ok (.ireturn, 1) := by decide +kernel
set_option maxRecDepth 20000 in
theorem ggX11_reads_X11_readsStatement : GoodIn wsX11_reads wsX11_readsStatement := goodIn_r _ [9, 1, 10, 11, 12, 8, 13, 2, 14, 15, 16, 17, 18, 19, 20, 21, 22, 23, 24, 25, 26, 27, 28, 29, 30, 31, 39, 40, 41, 42, 43, 44, 45, 46, 47, 48, 49, 50, 51, 52, 53, 54, 55, 56, 57] (by decide +kernel) (by decide +kernel)
set_option maxRecDepth 20000 in
theorem gX11_reads_X11_readsStatement : GoodIn wsX11_reads (wsV RX11 88 RX11 yX11_readsStatement wsX11_readsStatement) := goodIn_app (goodIn_of _ (by decide +kernel)) ggX11_reads_X11_readsStatement
set_option maxRecDepth 20000 in
theorem ggX11_reads_X11_sign : GoodIn wsX11_reads wsX11_sign := goodIn_r _ [13, 1, 2, 14, 39, 40, 41, 42, 43, 44, 45, 46, 47, 48, 49, 50, 51, 52, 53, 54, 55, 56, 57] (by decide +kernel) (by decide +kernel)
set_option maxRecDepth 20000 in
theorem gX11_reads_X11_sign : GoodIn wsX11_reads (wsV RX11 67 RX11 yX11_sign wsX11_sign) := goodIn_app (goodIn_of _ (by decide +kernel)) ggX11_reads_X11_sign
set_option maxRecDepth 20000 in
theorem ggX11_reads_X11_comes : GoodIn wsX11_reads wsX11_comes := goodIn_r _ [35, 19, 3, 36, 37, 8, 38, 39, 40, 41, 42, 43, 44, 45, 46, 47, 48, 49, 50, 51, 52, 53, 54, 55, 56, 57] (by decide +kernel) (by decide +kernel)
set_option maxRecDepth 20000 in
theorem gX11_reads_X11_comes : GoodIn wsX11_reads (wsV RX11 91 RX11 yX11_comes wsX11_comes) := goodIn_app (goodIn_of _ (by decide +kernel)) ggX11_reads_X11_comes
theorem dX11_reads_0 : decode cX11_reads 0 = .ok (.aload_n 0, 1) := by decide +kernel
theorem dX11_reads_1 : decode cX11_reads 1 = .ok (.iconst 0, 1) := by decide +kernel
theorem dX11_reads_2 : decode cX11_reads 2 = .ok (.putfield 64, 3) := by decide +kernel
theorem dX11_reads_5 : decode cX11_reads 5 = .ok (.iconst 0, 1) := by decide +kernel
theorem dX11_reads_6 : decode cX11_reads 6 = .ok (.istore_n 1, 1) := by decide +kernel
theorem dX11_reads_7 : decode cX11_reads 7 = .ok (.aload_n 0, 1) := by decide +kernel
theorem dX11_reads_8 : decode cX11_reads 8 = .ok (.invokevirtual 88, 3) := by decide +kernel
theorem dX11_reads_11 : decode cX11_reads 11 = .ok (.ifCond .ne 12, 3) := by decide +kernel
theorem dX11_reads_14 : decode cX11_reads 14 = .ok (.sipush (-1000), 3) := by decide +kernel
theorem dX11_reads_17 : decode cX11_reads 17 = .ok (.aload_n 0, 1) := by decide +kernel
theorem dX11_reads_18 : decode cX11_reads 18 = .ok (.getfield 64, 3) := by decide +kernel
theorem dX11_reads_21 : decode cX11_reads 21 = .ok (.isub, 1) := by decide +kernel
theorem dX11_reads_22 : decode cX11_reads 22 = .ok (.ireturn, 1) := by decide +kernel
theorem dX11_reads_23 : decode cX11_reads 23 = .ok (.iinc 1 1, 3) := by decide +kernel
theorem dX11_reads_26 : decode cX11_reads 26 = .ok (.aload_n 0, 1) := by decide +kernel
theorem dX11_reads_27 : decode cX11_reads 27 = .ok (.getfield 64, 3) := by decide +kernel
theorem dX11_reads_30 : decode cX11_reads 30 = .ok (.aload_n 0, 1) := by decide +kernel
theorem dX11_reads_31 : decode cX11_reads 31 = .ok (.getfield 58, 3) := by decide +kernel
theorem dX11_reads_34 : decode cX11_reads 34 = .ok (.if_icmp .lt (-27), 3) := by decide +kernel
theorem dX11_reads_37 : decode cX11_reads 37 = .ok (.iconst 0, 1) := by decide +kernel
theorem dX11_reads_38 : decode cX11_reads 38 = .ok (.istore_n 2, 1) := by decide +kernel
theorem dX11_reads_39 : decode cX11_reads 39 = .ok (.iload_n 2, 1) := by decide +kernel
theorem dX11_reads_40 : decode cX11_reads 40 = .ok (.bipush 120, 2) := by decide +kernel
theorem dX11_reads_42 : decode cX11_reads 42 = .ok (.if_icmp .ge 21, 3) := by decide +kernel
theorem dX11_reads_45 : decode cX11_reads 45 = .ok (.aload_n 0, 1) := by decide +kernel
theorem dX11_reads_46 : decode cX11_reads 46 = .ok (.getfield 19, 3) := by decide +kernel
theorem dX11_reads_49 : decode cX11_reads 49 = .ok (.iload_n 2, 1) := by decide +kernel
theorem dX11_reads_50 : decode cX11_reads 50 = .ok (.aload_n 0, 1) := by decide +kernel
theorem dX11_reads_51 : decode cX11_reads 51 = .ok (.getfield 13, 3) := by decide +kernel
theorem dX11_reads_54 : decode cX11_reads 54 = .ok (.iload_n 2, 1) := by decide +kernel
theorem dX11_reads_55 : decode cX11_reads 55 = .ok (.iaload, 1) := by decide +kernel
theorem dX11_reads_56 : decode cX11_reads 56 = .ok (.iastore, 1) := by decide +kernel
theorem dX11_reads_57 : decode cX11_reads 57 = .ok (.iinc 2 1, 3) := by decide +kernel
theorem dX11_reads_60 : decode cX11_reads 60 = .ok (.goto (-21), 3) := by decide +kernel
theorem dX11_reads_63 : decode cX11_reads 63 = .ok (.aload_n 0, 1) := by decide +kernel
theorem dX11_reads_64 : decode cX11_reads 64 = .ok (.iconst 0, 1) := by decide +kernel
theorem dX11_reads_65 : decode cX11_reads 65 = .ok (.putfield 64, 3) := by decide +kernel
theorem dX11_reads_68 : decode cX11_reads 68 = .ok (.aload_n 0, 1) := by decide +kernel
theorem dX11_reads_69 : decode cX11_reads 69 = .ok (.getfield 64, 3) := by decide +kernel
theorem dX11_reads_72 : decode cX11_reads 72 = .ok (.aload_n 0, 1) := by decide +kernel
theorem dX11_reads_73 : decode cX11_reads 73 = .ok (.getfield 58, 3) := by decide +kernel
theorem dX11_reads_76 : decode cX11_reads 76 = .ok (.if_icmp .ge 36, 3) := by decide +kernel
theorem dX11_reads_79 : decode cX11_reads 79 = .ok (.aload_n 0, 1) := by decide +kernel
theorem dX11_reads_80 : decode cX11_reads 80 = .ok (.getfield 64, 3) := by decide +kernel
theorem dX11_reads_83 : decode cX11_reads 83 = .ok (.istore_n 2, 1) := by decide +kernel
theorem dX11_reads_84 : decode cX11_reads 84 = .ok (.aload_n 0, 1) := by decide +kernel
theorem dX11_reads_85 : decode cX11_reads 85 = .ok (.invokevirtual 67, 3) := by decide +kernel
theorem dX11_reads_88 : decode cX11_reads 88 = .ok (.istore_n 3, 1) := by decide +kernel
theorem dX11_reads_89 : decode cX11_reads 89 = .ok (.aload_n 0, 1) := by decide +kernel
theorem dX11_reads_90 : decode cX11_reads 90 = .ok (.invokevirtual 88, 3) := by decide +kernel
theorem dX11_reads_93 : decode cX11_reads 93 = .ok (.istore 4, 2) := by decide +kernel
theorem dX11_reads_95 : decode cX11_reads 95 = .ok (.aload_n 0, 1) := by decide +kernel
theorem dX11_reads_96 : decode cX11_reads 96 = .ok (.iload_n 3, 1) := by decide +kernel
theorem dX11_reads_97 : decode cX11_reads 97 = .ok (.invokevirtual 91, 3) := by decide +kernel
theorem dX11_reads_100 : decode cX11_reads 100 = .ok (.ifCond .ne 9, 3) := by decide +kernel
theorem dX11_reads_103 : decode cX11_reads 103 = .ok (.sipush (-2000), 3) := by decide +kernel
theorem dX11_reads_106 : decode cX11_reads 106 = .ok (.iload_n 2, 1) := by decide +kernel
theorem dX11_reads_107 : decode cX11_reads 107 = .ok (.isub, 1) := by decide +kernel
theorem dX11_reads_108 : decode cX11_reads 108 = .ok (.ireturn, 1) := by decide +kernel
theorem dX11_reads_109 : decode cX11_reads 109 = .ok (.goto (-41), 3) := by decide +kernel
theorem dX11_reads_112 : decode cX11_reads 112 = .ok (.iconst 0, 1) := by decide +kernel
theorem dX11_reads_113 : decode cX11_reads 113 = .ok (.istore_n 2, 1) := by decide +kernel
theorem dX11_reads_114 : decode cX11_reads 114 = .ok (.iload_n 2, 1) := by decide +kernel
theorem dX11_reads_115 : decode cX11_reads 115 = .ok (.bipush 120, 2) := by decide +kernel
theorem dX11_reads_117 : decode cX11_reads 117 = .ok (.if_icmp .ge 21, 3) := by decide +kernel
theorem dX11_reads_120 : decode cX11_reads 120 = .ok (.aload_n 0, 1) := by decide +kernel
theorem dX11_reads_121 : decode cX11_reads 121 = .ok (.getfield 13, 3) := by decide +kernel
theorem dX11_reads_124 : decode cX11_reads 124 = .ok (.iload_n 2, 1) := by decide +kernel
theorem dX11_reads_125 : decode cX11_reads 125 = .ok (.aload_n 0, 1) := by decide +kernel
theorem dX11_reads_126 : decode cX11_reads 126 = .ok (.getfield 19, 3) := by decide +kernel
theorem dX11_reads_129 : decode cX11_reads 129 = .ok (.iload_n 2, 1) := by decide +kernel
theorem dX11_reads_130 : decode cX11_reads 130 = .ok (.iaload, 1) := by decide +kernel
theorem dX11_reads_131 : decode cX11_reads 131 = .ok (.iastore, 1) := by decide +kernel
theorem dX11_reads_132 : decode cX11_reads 132 = .ok (.iinc 2 1, 3) := by decide +kernel
theorem dX11_reads_135 : decode cX11_reads 135 = .ok (.goto (-21), 3) := by decide +kernel
theorem dX11_reads_138 : decode cX11_reads 138 = .ok (.iload_n 1, 1) := by decide +kernel
theorem dX11_reads_139 : decode cX11_reads 139 = .ok (.ireturn, 1) := by decide +kernel
set_option maxRecDepth 20000 in
theorem ggX11_house_X11_reads : GoodIn wsX11_house wsX11_reads := goodIn_r _ [6, 7, 1, 8, 9, 10, 11, 12, 5, 13, 14, 15, 16, 17, 18, 19, 20, 21, 22, 23, 24, 25, 26, 27, 28, 29, 30, 31, 32, 33, 34, 35, 36, 37, 38, 39, 40, 41, 42, 43, 44, 45, 46, 47, 48, 49, 50, 51, 52, 53, 54, 55, 56, 57, 58, 59, 60, 61] (by decide +kernel) (by decide +kernel)
set_option maxRecDepth 20000 in
theorem gX11_house_X11_reads : GoodIn wsX11_house (wsV RX11 94 RX11 yX11_reads wsX11_reads) := goodIn_app (goodIn_of _ (by decide +kernel)) ggX11_house_X11_reads
theorem dX11_house_0 : decode cX11_house 0 = .ok (.aload_n 0, 1) := by decide +kernel
theorem dX11_house_1 : decode cX11_house 1 = .ok (.invokevirtual 94, 3) := by decide +kernel
theorem dX11_house_4 : decode cX11_house 4 = .ok (.istore_n 1, 1) := by decide +kernel
theorem dX11_house_5 : decode cX11_house 5 = .ok (.aload_n 0, 1) := by decide +kernel
theorem dX11_house_6 : decode cX11_house 6 = .ok (.iconst 0, 1) := by decide +kernel
theorem dX11_house_7 : decode cX11_house 7 = .ok (.putfield 58, 3) := by decide +kernel
theorem dX11_house_10 : decode cX11_house 10 = .ok (.iload_n 1, 1) := by decide +kernel
theorem dX11_house_11 : decode cX11_house 11 = .ok (.ireturn, 1) := by decide +kernel
set_option maxRecDepth 20000 in
theorem ggX11_readsFloor_X11_sign : GoodIn wsX11_readsFloor wsX11_sign := goodIn_r _ [8, 1, 3, 9, 14, 15, 16, 17, 18, 19, 20, 21, 22, 23, 24, 25, 26, 27, 28, 29, 30, 31, 32] (by decide +kernel) (by decide +kernel)
set_option maxRecDepth 20000 in
theorem gX11_readsFloor_X11_sign : GoodIn wsX11_readsFloor (wsV RX11 67 RX11 yX11_sign wsX11_sign) := goodIn_app (goodIn_of _ (by decide +kernel)) ggX11_readsFloor_X11_sign
set_option maxRecDepth 20000 in
theorem ggX11_readsFloor_X11_takes : GoodIn wsX11_readsFloor wsX11_takes := goodIn_r _ [13, 1, 4, 5, 6, 7, 8, 3, 9, 14, 15, 16, 17, 18, 19, 20, 21, 22, 23, 24, 25, 26, 27, 28, 29, 30, 31, 32] (by decide +kernel) (by decide +kernel)
set_option maxRecDepth 20000 in
theorem gX11_readsFloor_X11_takes : GoodIn wsX11_readsFloor (wsV RX11 78 RX11 yX11_takes wsX11_takes) := goodIn_app (goodIn_of _ (by decide +kernel)) ggX11_readsFloor_X11_takes
theorem dX11_readsFloor_0 : decode cX11_readsFloor 0 = .ok (.aload_n 0, 1) := by decide +kernel
theorem dX11_readsFloor_1 : decode cX11_readsFloor 1 = .ok (.iconst 0, 1) := by decide +kernel
theorem dX11_readsFloor_2 : decode cX11_readsFloor 2 = .ok (.putfield 64, 3) := by decide +kernel
theorem dX11_readsFloor_5 : decode cX11_readsFloor 5 = .ok (.iconst 0, 1) := by decide +kernel
theorem dX11_readsFloor_6 : decode cX11_readsFloor 6 = .ok (.istore_n 1, 1) := by decide +kernel
theorem dX11_readsFloor_7 : decode cX11_readsFloor 7 = .ok (.iload_n 1, 1) := by decide +kernel
theorem dX11_readsFloor_8 : decode cX11_readsFloor 8 = .ok (.bipush 25, 2) := by decide +kernel
theorem dX11_readsFloor_10 : decode cX11_readsFloor 10 = .ok (.if_icmp .ge 19, 3) := by decide +kernel
theorem dX11_readsFloor_13 : decode cX11_readsFloor 13 = .ok (.aload_n 0, 1) := by decide +kernel
theorem dX11_readsFloor_14 : decode cX11_readsFloor 14 = .ok (.getfield 19, 3) := by decide +kernel
theorem dX11_readsFloor_17 : decode cX11_readsFloor 17 = .ok (.bipush 95, 2) := by decide +kernel
theorem dX11_readsFloor_19 : decode cX11_readsFloor 19 = .ok (.iload_n 1, 1) := by decide +kernel
theorem dX11_readsFloor_20 : decode cX11_readsFloor 20 = .ok (.iadd, 1) := by decide +kernel
theorem dX11_readsFloor_21 : decode cX11_readsFloor 21 = .ok (.iconst 0, 1) := by decide +kernel
theorem dX11_readsFloor_22 : decode cX11_readsFloor 22 = .ok (.iastore, 1) := by decide +kernel
theorem dX11_readsFloor_23 : decode cX11_readsFloor 23 = .ok (.iinc 1 1, 3) := by decide +kernel
theorem dX11_readsFloor_26 : decode cX11_readsFloor 26 = .ok (.goto (-19), 3) := by decide +kernel
theorem dX11_readsFloor_29 : decode cX11_readsFloor 29 = .ok (.iconst 0, 1) := by decide +kernel
theorem dX11_readsFloor_30 : decode cX11_readsFloor 30 = .ok (.istore_n 1, 1) := by decide +kernel
theorem dX11_readsFloor_31 : decode cX11_readsFloor 31 = .ok (.iconst 0, 1) := by decide +kernel
theorem dX11_readsFloor_32 : decode cX11_readsFloor 32 = .ok (.istore_n 2, 1) := by decide +kernel
theorem dX11_readsFloor_33 : decode cX11_readsFloor 33 = .ok (.iconst 0, 1) := by decide +kernel
theorem dX11_readsFloor_34 : decode cX11_readsFloor 34 = .ok (.istore_n 3, 1) := by decide +kernel
theorem dX11_readsFloor_35 : decode cX11_readsFloor 35 = .ok (.iconst 0, 1) := by decide +kernel
theorem dX11_readsFloor_36 : decode cX11_readsFloor 36 = .ok (.istore 4, 2) := by decide +kernel
theorem dX11_readsFloor_38 : decode cX11_readsFloor 38 = .ok (.iconst 0, 1) := by decide +kernel
theorem dX11_readsFloor_39 : decode cX11_readsFloor 39 = .ok (.istore 5, 2) := by decide +kernel
theorem dX11_readsFloor_41 : decode cX11_readsFloor 41 = .ok (.aload_n 0, 1) := by decide +kernel
theorem dX11_readsFloor_42 : decode cX11_readsFloor 42 = .ok (.invokevirtual 67, 3) := by decide +kernel
theorem dX11_readsFloor_45 : decode cX11_readsFloor 45 = .ok (.bipush 46, 2) := by decide +kernel
theorem dX11_readsFloor_47 : decode cX11_readsFloor 47 = .ok (.if_icmp .eq 21, 3) := by decide +kernel
theorem dX11_readsFloor_50 : decode cX11_readsFloor 50 = .ok (.aload_n 0, 1) := by decide +kernel
theorem dX11_readsFloor_51 : decode cX11_readsFloor 51 = .ok (.invokevirtual 67, 3) := by decide +kernel
theorem dX11_readsFloor_54 : decode cX11_readsFloor 54 = .ok (.bipush 35, 2) := by decide +kernel
theorem dX11_readsFloor_56 : decode cX11_readsFloor 56 = .ok (.if_icmp .eq 12, 3) := by decide +kernel
theorem dX11_readsFloor_59 : decode cX11_readsFloor 59 = .ok (.aload_n 0, 1) := by decide +kernel
theorem dX11_readsFloor_60 : decode cX11_readsFloor 60 = .ok (.invokevirtual 67, 3) := by decide +kernel
theorem dX11_readsFloor_63 : decode cX11_readsFloor 63 = .ok (.bipush 100, 2) := by decide +kernel
theorem dX11_readsFloor_65 : decode cX11_readsFloor 65 = .ok (.if_icmp .ne 145, 3) := by decide +kernel
theorem dX11_readsFloor_68 : decode cX11_readsFloor 68 = .ok (.iload 5, 2) := by decide +kernel
theorem dX11_readsFloor_70 : decode cX11_readsFloor 70 = .ok (.iconst 5, 1) := by decide +kernel
theorem dX11_readsFloor_71 : decode cX11_readsFloor 71 = .ok (.if_icmp .eq 42, 3) := by decide +kernel
theorem dX11_readsFloor_74 : decode cX11_readsFloor 74 = .ok (.iload_n 1, 1) := by decide +kernel
theorem dX11_readsFloor_75 : decode cX11_readsFloor 75 = .ok (.ifCond .le 9, 3) := by decide +kernel
theorem dX11_readsFloor_78 : decode cX11_readsFloor 78 = .ok (.iload 5, 2) := by decide +kernel
theorem dX11_readsFloor_80 : decode cX11_readsFloor 80 = .ok (.iload_n 2, 1) := by decide +kernel
theorem dX11_readsFloor_81 : decode cX11_readsFloor 81 = .ok (.if_icmp .eq 32, 3) := by decide +kernel
theorem dX11_readsFloor_84 : decode cX11_readsFloor 84 = .ok (.aload_n 0, 1) := by decide +kernel
theorem dX11_readsFloor_85 : decode cX11_readsFloor 85 = .ok (.invokevirtual 67, 3) := by decide +kernel
theorem dX11_readsFloor_88 : decode cX11_readsFloor 88 = .ok (.bipush 100, 2) := by decide +kernel
theorem dX11_readsFloor_90 : decode cX11_readsFloor 90 = .ok (.if_icmp .ne 8, 3) := by decide +kernel
theorem dX11_readsFloor_93 : decode cX11_readsFloor 93 = .ok (.iload 4, 2) := by decide +kernel
theorem dX11_readsFloor_95 : decode cX11_readsFloor 95 = .ok (.ifCond .ne 18, 3) := by decide +kernel
theorem dX11_readsFloor_98 : decode cX11_readsFloor 98 = .ok (.aload_n 0, 1) := by decide +kernel
theorem dX11_readsFloor_99 : decode cX11_readsFloor 99 = .ok (.invokevirtual 67, 3) := by decide +kernel
theorem dX11_readsFloor_102 : decode cX11_readsFloor 102 = .ok (.bipush 35, 2) := by decide +kernel
theorem dX11_readsFloor_104 : decode cX11_readsFloor 104 = .ok (.if_icmp .eq 11, 3) := by decide +kernel
theorem dX11_readsFloor_107 : decode cX11_readsFloor 107 = .ok (.iload_n 3, 1) := by decide +kernel
theorem dX11_readsFloor_108 : decode cX11_readsFloor 108 = .ok (.bipush 10, 2) := by decide +kernel
theorem dX11_readsFloor_110 : decode cX11_readsFloor 110 = .ok (.if_icmp .ne 5, 3) := by decide +kernel
theorem dX11_readsFloor_113 : decode cX11_readsFloor 113 = .ok (.iconst 0, 1) := by decide +kernel
theorem dX11_readsFloor_114 : decode cX11_readsFloor 114 = .ok (.ireturn, 1) := by decide +kernel
theorem dX11_readsFloor_115 : decode cX11_readsFloor 115 = .ok (.iload_n 3, 1) := by decide +kernel
theorem dX11_readsFloor_116 : decode cX11_readsFloor 116 = .ok (.aload_n 0, 1) := by decide +kernel
theorem dX11_readsFloor_117 : decode cX11_readsFloor 117 = .ok (.invokevirtual 67, 3) := by decide +kernel
theorem dX11_readsFloor_120 : decode cX11_readsFloor 120 = .ok (.bipush 35, 2) := by decide +kernel
theorem dX11_readsFloor_122 : decode cX11_readsFloor 122 = .ok (.if_icmp .eq 7, 3) := by decide +kernel
theorem dX11_readsFloor_125 : decode cX11_readsFloor 125 = .ok (.iconst 1, 1) := by decide +kernel
theorem dX11_readsFloor_126 : decode cX11_readsFloor 126 = .ok (.goto 4, 3) := by decide +kernel
theorem dX11_readsFloor_129 : decode cX11_readsFloor 129 = .ok (.iconst 0, 1) := by decide +kernel
theorem dX11_readsFloor_130 : decode cX11_readsFloor 130 = .ok (.iadd, 1) := by decide +kernel
theorem dX11_readsFloor_131 : decode cX11_readsFloor 131 = .ok (.istore_n 3, 1) := by decide +kernel
theorem dX11_readsFloor_132 : decode cX11_readsFloor 132 = .ok (.iload 4, 2) := by decide +kernel
theorem dX11_readsFloor_134 : decode cX11_readsFloor 134 = .ok (.ifCond .ne 12, 3) := by decide +kernel
theorem dX11_readsFloor_137 : decode cX11_readsFloor 137 = .ok (.aload_n 0, 1) := by decide +kernel
theorem dX11_readsFloor_138 : decode cX11_readsFloor 138 = .ok (.invokevirtual 67, 3) := by decide +kernel
theorem dX11_readsFloor_141 : decode cX11_readsFloor 141 = .ok (.bipush 100, 2) := by decide +kernel
theorem dX11_readsFloor_143 : decode cX11_readsFloor 143 = .ok (.if_icmp .ne 7, 3) := by decide +kernel
theorem dX11_readsFloor_146 : decode cX11_readsFloor 146 = .ok (.iconst 1, 1) := by decide +kernel
theorem dX11_readsFloor_147 : decode cX11_readsFloor 147 = .ok (.goto 4, 3) := by decide +kernel
theorem dX11_readsFloor_150 : decode cX11_readsFloor 150 = .ok (.iconst 0, 1) := by decide +kernel
theorem dX11_readsFloor_151 : decode cX11_readsFloor 151 = .ok (.istore 4, 2) := by decide +kernel
theorem dX11_readsFloor_153 : decode cX11_readsFloor 153 = .ok (.aload_n 0, 1) := by decide +kernel
theorem dX11_readsFloor_154 : decode cX11_readsFloor 154 = .ok (.getfield 19, 3) := by decide +kernel
theorem dX11_readsFloor_157 : decode cX11_readsFloor 157 = .ok (.bipush 95, 2) := by decide +kernel
theorem dX11_readsFloor_159 : decode cX11_readsFloor 159 = .ok (.iconst 5, 1) := by decide +kernel
theorem dX11_readsFloor_160 : decode cX11_readsFloor 160 = .ok (.iload_n 1, 1) := by decide +kernel
theorem dX11_readsFloor_161 : decode cX11_readsFloor 161 = .ok (.imul, 1) := by decide +kernel
theorem dX11_readsFloor_162 : decode cX11_readsFloor 162 = .ok (.iadd, 1) := by decide +kernel
theorem dX11_readsFloor_163 : decode cX11_readsFloor 163 = .ok (.iload 5, 2) := by decide +kernel
theorem dX11_readsFloor_165 : decode cX11_readsFloor 165 = .ok (.iadd, 1) := by decide +kernel
theorem dX11_readsFloor_166 : decode cX11_readsFloor 166 = .ok (.aload_n 0, 1) := by decide +kernel
theorem dX11_readsFloor_167 : decode cX11_readsFloor 167 = .ok (.invokevirtual 67, 3) := by decide +kernel
theorem dX11_readsFloor_170 : decode cX11_readsFloor 170 = .ok (.bipush 46, 2) := by decide +kernel
theorem dX11_readsFloor_172 : decode cX11_readsFloor 172 = .ok (.if_icmp .ne 7, 3) := by decide +kernel
theorem dX11_readsFloor_175 : decode cX11_readsFloor 175 = .ok (.iconst 1, 1) := by decide +kernel
theorem dX11_readsFloor_176 : decode cX11_readsFloor 176 = .ok (.goto 17, 3) := by decide +kernel
theorem dX11_readsFloor_179 : decode cX11_readsFloor 179 = .ok (.aload_n 0, 1) := by decide +kernel
theorem dX11_readsFloor_180 : decode cX11_readsFloor 180 = .ok (.invokevirtual 67, 3) := by decide +kernel
theorem dX11_readsFloor_183 : decode cX11_readsFloor 183 = .ok (.bipush 100, 2) := by decide +kernel
theorem dX11_readsFloor_185 : decode cX11_readsFloor 185 = .ok (.if_icmp .ne 7, 3) := by decide +kernel
theorem dX11_readsFloor_188 : decode cX11_readsFloor 188 = .ok (.iconst 2, 1) := by decide +kernel
theorem dX11_readsFloor_189 : decode cX11_readsFloor 189 = .ok (.goto 4, 3) := by decide +kernel
theorem dX11_readsFloor_192 : decode cX11_readsFloor 192 = .ok (.iconst 0, 1) := by decide +kernel
theorem dX11_readsFloor_193 : decode cX11_readsFloor 193 = .ok (.iastore, 1) := by decide +kernel
theorem dX11_readsFloor_194 : decode cX11_readsFloor 194 = .ok (.iinc 5 1, 3) := by decide +kernel
theorem dX11_readsFloor_197 : decode cX11_readsFloor 197 = .ok (.aload_n 0, 1) := by decide +kernel
theorem dX11_readsFloor_198 : decode cX11_readsFloor 198 = .ok (.dup, 1) := by decide +kernel
theorem dX11_readsFloor_199 : decode cX11_readsFloor 199 = .ok (.getfield 64, 3) := by decide +kernel
theorem dX11_readsFloor_202 : decode cX11_readsFloor 202 = .ok (.iconst 1, 1) := by decide +kernel
theorem dX11_readsFloor_203 : decode cX11_readsFloor 203 = .ok (.iadd, 1) := by decide +kernel
theorem dX11_readsFloor_204 : decode cX11_readsFloor 204 = .ok (.putfield 64, 3) := by decide +kernel
theorem dX11_readsFloor_207 : decode cX11_readsFloor 207 = .ok (.goto (-166), 3) := by decide +kernel
theorem dX11_readsFloor_210 : decode cX11_readsFloor 210 = .ok (.iload 5, 2) := by decide +kernel
theorem dX11_readsFloor_212 : decode cX11_readsFloor 212 = .ok (.ifCond .eq 13, 3) := by decide +kernel
theorem dX11_readsFloor_215 : decode cX11_readsFloor 215 = .ok (.iload_n 1, 1) := by decide +kernel
theorem dX11_readsFloor_216 : decode cX11_readsFloor 216 = .ok (.ifCond .le 11, 3) := by decide +kernel
theorem dX11_readsFloor_219 : decode cX11_readsFloor 219 = .ok (.iload 5, 2) := by decide +kernel
theorem dX11_readsFloor_221 : decode cX11_readsFloor 221 = .ok (.iload_n 2, 1) := by decide +kernel
theorem dX11_readsFloor_222 : decode cX11_readsFloor 222 = .ok (.if_icmp .ge 5, 3) := by decide +kernel
theorem dX11_readsFloor_225 : decode cX11_readsFloor 225 = .ok (.iconst 0, 1) := by decide +kernel
theorem dX11_readsFloor_226 : decode cX11_readsFloor 226 = .ok (.ireturn, 1) := by decide +kernel
theorem dX11_readsFloor_227 : decode cX11_readsFloor 227 = .ok (.iload 5, 2) := by decide +kernel
theorem dX11_readsFloor_229 : decode cX11_readsFloor 229 = .ok (.istore_n 2, 1) := by decide +kernel
theorem dX11_readsFloor_230 : decode cX11_readsFloor 230 = .ok (.iinc 1 1, 3) := by decide +kernel
theorem dX11_readsFloor_233 : decode cX11_readsFloor 233 = .ok (.iload_n 1, 1) := by decide +kernel
theorem dX11_readsFloor_234 : decode cX11_readsFloor 234 = .ok (.iconst 5, 1) := by decide +kernel
theorem dX11_readsFloor_235 : decode cX11_readsFloor 235 = .ok (.if_icmp .ge 12, 3) := by decide +kernel
theorem dX11_readsFloor_238 : decode cX11_readsFloor 238 = .ok (.aload_n 0, 1) := by decide +kernel
theorem dX11_readsFloor_239 : decode cX11_readsFloor 239 = .ok (.bipush 47, 2) := by decide +kernel
theorem dX11_readsFloor_241 : decode cX11_readsFloor 241 = .ok (.invokevirtual 78, 3) := by decide +kernel
theorem dX11_readsFloor_244 : decode cX11_readsFloor 244 = .ok (.ifCond .ne (-206), 3) := by decide +kernel
theorem dX11_readsFloor_247 : decode cX11_readsFloor 247 = .ok (.aload_n 0, 1) := by decide +kernel
theorem dX11_readsFloor_248 : decode cX11_readsFloor 248 = .ok (.getfield 19, 3) := by decide +kernel
theorem dX11_readsFloor_251 : decode cX11_readsFloor 251 = .ok (.bipush 93, 2) := by decide +kernel
theorem dX11_readsFloor_253 : decode cX11_readsFloor 253 = .ok (.iload_n 1, 1) := by decide +kernel
theorem dX11_readsFloor_254 : decode cX11_readsFloor 254 = .ok (.iastore, 1) := by decide +kernel
theorem dX11_readsFloor_255 : decode cX11_readsFloor 255 = .ok (.aload_n 0, 1) := by decide +kernel
theorem dX11_readsFloor_256 : decode cX11_readsFloor 256 = .ok (.getfield 19, 3) := by decide +kernel
theorem dX11_readsFloor_259 : decode cX11_readsFloor 259 = .ok (.bipush 94, 2) := by decide +kernel
theorem dX11_readsFloor_261 : decode cX11_readsFloor 261 = .ok (.iload_n 2, 1) := by decide +kernel
theorem dX11_readsFloor_262 : decode cX11_readsFloor 262 = .ok (.iastore, 1) := by decide +kernel
theorem dX11_readsFloor_263 : decode cX11_readsFloor 263 = .ok (.aload_n 0, 1) := by decide +kernel
theorem dX11_readsFloor_264 : decode cX11_readsFloor 264 = .ok (.getfield 19, 3) := by decide +kernel
theorem dX11_readsFloor_267 : decode cX11_readsFloor 267 = .ok (.iconst 0, 1) := by decide +kernel
theorem dX11_readsFloor_268 : decode cX11_readsFloor 268 = .ok (.iload_n 3, 1) := by decide +kernel
theorem dX11_readsFloor_269 : decode cX11_readsFloor 269 = .ok (.iastore, 1) := by decide +kernel
theorem dX11_readsFloor_270 : decode cX11_readsFloor 270 = .ok (.aload_n 0, 1) := by decide +kernel
theorem dX11_readsFloor_271 : decode cX11_readsFloor 271 = .ok (.getfield 64, 3) := by decide +kernel
theorem dX11_readsFloor_274 : decode cX11_readsFloor 274 = .ok (.aload_n 0, 1) := by decide +kernel
theorem dX11_readsFloor_275 : decode cX11_readsFloor 275 = .ok (.getfield 58, 3) := by decide +kernel
theorem dX11_readsFloor_278 : decode cX11_readsFloor 278 = .ok (.if_icmp .ne 12, 3) := by decide +kernel
theorem dX11_readsFloor_281 : decode cX11_readsFloor 281 = .ok (.iload 4, 2) := by decide +kernel
theorem dX11_readsFloor_283 : decode cX11_readsFloor 283 = .ok (.ifCond .eq 7, 3) := by decide +kernel
theorem dX11_readsFloor_286 : decode cX11_readsFloor 286 = .ok (.iconst 1, 1) := by decide +kernel
theorem dX11_readsFloor_287 : decode cX11_readsFloor 287 = .ok (.goto 4, 3) := by decide +kernel
theorem dX11_readsFloor_290 : decode cX11_readsFloor 290 = .ok (.iconst 0, 1) := by decide +kernel
theorem dX11_readsFloor_291 : decode cX11_readsFloor 291 = .ok (.ireturn, 1) := by decide +kernel
set_option maxRecDepth 20000 in
theorem ggX11_floor_X11_readsFloor : GoodIn wsX11_floor wsX11_readsFloor := goodIn_r _ [9, 2, 4, 1, 10, 11, 12, 8, 13, 14, 15, 16, 17, 18, 19, 20, 21, 22, 23, 24, 25, 26, 27, 28, 29, 30, 31, 32, 33, 34, 35, 36, 37] (by decide +kernel) (by decide +kernel)
set_option maxRecDepth 20000 in
theorem gX11_floor_X11_readsFloor : GoodIn wsX11_floor (wsV RX11 97 RX11 yX11_readsFloor wsX11_readsFloor) := goodIn_app (goodIn_of _ (by decide +kernel)) ggX11_floor_X11_readsFloor
theorem dX11_floor_0 : decode cX11_floor 0 = .ok (.aload_n 0, 1) := by decide +kernel
theorem dX11_floor_1 : decode cX11_floor 1 = .ok (.invokevirtual 97, 3) := by decide +kernel
theorem dX11_floor_4 : decode cX11_floor 4 = .ok (.istore_n 1, 1) := by decide +kernel
theorem dX11_floor_5 : decode cX11_floor 5 = .ok (.aload_n 0, 1) := by decide +kernel
theorem dX11_floor_6 : decode cX11_floor 6 = .ok (.iconst 0, 1) := by decide +kernel
theorem dX11_floor_7 : decode cX11_floor 7 = .ok (.putfield 58, 3) := by decide +kernel
theorem dX11_floor_10 : decode cX11_floor 10 = .ok (.iload_n 1, 1) := by decide +kernel
theorem dX11_floor_11 : decode cX11_floor 11 = .ok (.ifCond .ne 11, 3) := by decide +kernel
theorem dX11_floor_14 : decode cX11_floor 14 = .ok (.bipush (-20), 2) := by decide +kernel
theorem dX11_floor_16 : decode cX11_floor 16 = .ok (.aload_n 0, 1) := by decide +kernel
theorem dX11_floor_17 : decode cX11_floor 17 = .ok (.getfield 64, 3) := by decide +kernel
theorem dX11_floor_20 : decode cX11_floor 20 = .ok (.isub, 1) := by decide +kernel
theorem dX11_floor_21 : decode cX11_floor 21 = .ok (.ireturn, 1) := by decide +kernel
theorem dX11_floor_22 : decode cX11_floor 22 = .ok (.bipush 93, 2) := by decide +kernel
theorem dX11_floor_24 : decode cX11_floor 24 = .ok (.istore_n 2, 1) := by decide +kernel
theorem dX11_floor_25 : decode cX11_floor 25 = .ok (.iload_n 2, 1) := by decide +kernel
theorem dX11_floor_26 : decode cX11_floor 26 = .ok (.bipush 120, 2) := by decide +kernel
theorem dX11_floor_28 : decode cX11_floor 28 = .ok (.if_icmp .ge 21, 3) := by decide +kernel
theorem dX11_floor_31 : decode cX11_floor 31 = .ok (.aload_n 0, 1) := by decide +kernel
theorem dX11_floor_32 : decode cX11_floor 32 = .ok (.getfield 13, 3) := by decide +kernel
theorem dX11_floor_35 : decode cX11_floor 35 = .ok (.iload_n 2, 1) := by decide +kernel
theorem dX11_floor_36 : decode cX11_floor 36 = .ok (.aload_n 0, 1) := by decide +kernel
theorem dX11_floor_37 : decode cX11_floor 37 = .ok (.getfield 19, 3) := by decide +kernel
theorem dX11_floor_40 : decode cX11_floor 40 = .ok (.iload_n 2, 1) := by decide +kernel
theorem dX11_floor_41 : decode cX11_floor 41 = .ok (.iaload, 1) := by decide +kernel
theorem dX11_floor_42 : decode cX11_floor 42 = .ok (.iastore, 1) := by decide +kernel
theorem dX11_floor_43 : decode cX11_floor 43 = .ok (.iinc 2 1, 3) := by decide +kernel
theorem dX11_floor_46 : decode cX11_floor 46 = .ok (.goto (-21), 3) := by decide +kernel
theorem dX11_floor_49 : decode cX11_floor 49 = .ok (.aload_n 0, 1) := by decide +kernel
theorem dX11_floor_50 : decode cX11_floor 50 = .ok (.getfield 19, 3) := by decide +kernel
theorem dX11_floor_53 : decode cX11_floor 53 = .ok (.iconst 0, 1) := by decide +kernel
theorem dX11_floor_54 : decode cX11_floor 54 = .ok (.iaload, 1) := by decide +kernel
theorem dX11_floor_55 : decode cX11_floor 55 = .ok (.ireturn, 1) := by decide +kernel
set_option maxRecDepth 20000 in
theorem ggX11_room_X11_isRoom : GoodIn wsX11_room wsX11_isRoom := goodIn_r _ [6, 7, 8, 9, 5, 10, 1, 11, 12, 13, 19, 20, 21, 22, 23, 24, 25, 26, 27, 28, 29, 30, 31, 32, 33, 34, 35, 36, 37] (by decide +kernel) (by decide +kernel)
set_option maxRecDepth 20000 in
theorem gX11_room_X11_isRoom : GoodIn wsX11_room (wsV RX11 100 RX11 yX11_isRoom wsX11_isRoom) := goodIn_app (goodIn_of _ (by decide +kernel)) ggX11_room_X11_isRoom
set_option maxRecDepth 20000 in
theorem ggX11_room_X11_refuse : GoodIn wsX11_room wsX11_refuse := goodIn_r _ [17, 18, 19, 20, 21, 22, 23, 24, 25, 26, 27, 28, 29, 30, 31, 32, 33, 34, 35, 36, 37] (by decide +kernel) (by decide +kernel)
set_option maxRecDepth 20000 in
theorem gX11_room_X11_refuse : GoodIn wsX11_room (wsV RX11 54 RX11 yX11_refuse wsX11_refuse) := goodIn_app (goodIn_of _ (by decide +kernel)) ggX11_room_X11_refuse
set_option maxRecDepth 20000 in
theorem ggX11_room_X11_isIn : GoodIn wsX11_room wsX11_isIn := goodIn_r _ [13] (by decide +kernel) (by decide +kernel)
set_option maxRecDepth 20000 in
theorem gX11_room_X11_isIn : GoodIn wsX11_room (va_wsS RX11 46 yX11_isIn wsX11_isIn) := goodIn_app (goodIn_of _ (by decide +kernel)) ggX11_room_X11_isIn
theorem dX11_room_0 : decode cX11_room 0 = .ok (.aload_n 0, 1) := by decide +kernel
theorem dX11_room_1 : decode cX11_room 1 = .ok (.iload_n 1, 1) := by decide +kernel
theorem dX11_room_2 : decode cX11_room 2 = .ok (.invokevirtual 100, 3) := by decide +kernel
theorem dX11_room_5 : decode cX11_room 5 = .ok (.ifCond .ne 11, 3) := by decide +kernel
theorem dX11_room_8 : decode cX11_room 8 = .ok (.aload_n 0, 1) := by decide +kernel
theorem dX11_room_9 : decode cX11_room 9 = .ok (.iconst (-1), 1) := by decide +kernel
theorem dX11_room_10 : decode cX11_room 10 = .ok (.invokevirtual 54, 3) := by decide +kernel
theorem dX11_room_13 : decode cX11_room 13 = .ok (.goto 38, 3) := by decide +kernel
theorem dX11_room_16 : decode cX11_room 16 = .ok (.iload_n 2, 1) := by decide +kernel
theorem dX11_room_17 : decode cX11_room 17 = .ok (.iconst 2, 1) := by decide +kernel
theorem dX11_room_18 : decode cX11_room 18 = .ok (.invokestatic 46, 3) := by decide +kernel
theorem dX11_room_21 : decode cX11_room 21 = .ok (.ifCond .eq 24, 3) := by decide +kernel
theorem dX11_room_24 : decode cX11_room 24 = .ok (.aload_n 0, 1) := by decide +kernel
theorem dX11_room_25 : decode cX11_room 25 = .ok (.getfield 13, 3) := by decide +kernel
theorem dX11_room_28 : decode cX11_room 28 = .ok (.iload_n 2, 1) := by decide +kernel
theorem dX11_room_29 : decode cX11_room 29 = .ok (.ifCond .ne 8, 3) := by decide +kernel
theorem dX11_room_32 : decode cX11_room 32 = .ok (.bipush 9, 2) := by decide +kernel
theorem dX11_room_34 : decode cX11_room 34 = .ok (.goto 5, 3) := by decide +kernel
theorem dX11_room_37 : decode cX11_room 37 = .ok (.bipush 15, 2) := by decide +kernel
theorem dX11_room_39 : decode cX11_room 39 = .ok (.iload_n 1, 1) := by decide +kernel
theorem dX11_room_40 : decode cX11_room 40 = .ok (.iadd, 1) := by decide +kernel
theorem dX11_room_41 : decode cX11_room 41 = .ok (.iaload, 1) := by decide +kernel
theorem dX11_room_42 : decode cX11_room 42 = .ok (.goto 9, 3) := by decide +kernel
theorem dX11_room_45 : decode cX11_room 45 = .ok (.aload_n 0, 1) := by decide +kernel
theorem dX11_room_46 : decode cX11_room 46 = .ok (.bipush (-2), 2) := by decide +kernel
theorem dX11_room_48 : decode cX11_room 48 = .ok (.invokevirtual 54, 3) := by decide +kernel
theorem dX11_room_51 : decode cX11_room 51 = .ok (.ireturn, 1) := by decide +kernel
set_option maxRecDepth 20000 in
theorem ggX11_door_X11_isPlace : GoodIn wsX11_door wsX11_isPlace := goodIn_r _ [6, 1, 7, 8, 5, 9, 18, 19, 20, 21, 22, 23, 24, 25, 26, 27, 28, 29, 30, 31, 32, 33, 34, 35, 36] (by decide +kernel) (by decide +kernel)
set_option maxRecDepth 20000 in
theorem gX11_door_X11_isPlace : GoodIn wsX11_door (wsV RX11 50 RX11 yX11_isPlace wsX11_isPlace) := goodIn_app (goodIn_of _ (by decide +kernel)) ggX11_door_X11_isPlace
set_option maxRecDepth 20000 in
theorem ggX11_door_X11_refuse : GoodIn wsX11_door wsX11_refuse := goodIn_r _ [13, 14, 18, 19, 20, 21, 22, 23, 24, 25, 26, 27, 28, 29, 30, 31, 32, 33, 34, 35, 36] (by decide +kernel) (by decide +kernel)
set_option maxRecDepth 20000 in
theorem gX11_door_X11_refuse : GoodIn wsX11_door (wsV RX11 54 RX11 yX11_refuse wsX11_refuse) := goodIn_app (goodIn_of _ (by decide +kernel)) ggX11_door_X11_refuse
set_option maxRecDepth 20000 in
theorem ggX11_door_X11_isDoor : GoodIn wsX11_door wsX11_isDoor := goodIn_r _ [17] (by decide +kernel) (by decide +kernel)
set_option maxRecDepth 20000 in
theorem gX11_door_X11_isDoor : GoodIn wsX11_door (va_wsS RX11 84 yX11_isDoor wsX11_isDoor) := goodIn_app (goodIn_of _ (by decide +kernel)) ggX11_door_X11_isDoor
theorem dX11_door_0 : decode cX11_door 0 = .ok (.aload_n 0, 1) := by decide +kernel
theorem dX11_door_1 : decode cX11_door 1 = .ok (.iload_n 1, 1) := by decide +kernel
theorem dX11_door_2 : decode cX11_door 2 = .ok (.invokevirtual 50, 3) := by decide +kernel
theorem dX11_door_5 : decode cX11_door 5 = .ok (.ifCond .eq 11, 3) := by decide +kernel
theorem dX11_door_8 : decode cX11_door 8 = .ok (.aload_n 0, 1) := by decide +kernel
theorem dX11_door_9 : decode cX11_door 9 = .ok (.iload_n 2, 1) := by decide +kernel
theorem dX11_door_10 : decode cX11_door 10 = .ok (.invokevirtual 50, 3) := by decide +kernel
theorem dX11_door_13 : decode cX11_door 13 = .ok (.ifCond .ne 11, 3) := by decide +kernel
theorem dX11_door_16 : decode cX11_door 16 = .ok (.aload_n 0, 1) := by decide +kernel
theorem dX11_door_17 : decode cX11_door 17 = .ok (.iconst (-1), 1) := by decide +kernel
theorem dX11_door_18 : decode cX11_door 18 = .ok (.invokevirtual 54, 3) := by decide +kernel
theorem dX11_door_21 : decode cX11_door 21 = .ok (.goto 20, 3) := by decide +kernel
theorem dX11_door_24 : decode cX11_door 24 = .ok (.aload_n 0, 1) := by decide +kernel
theorem dX11_door_25 : decode cX11_door 25 = .ok (.getfield 13, 3) := by decide +kernel
theorem dX11_door_28 : decode cX11_door 28 = .ok (.iload_n 1, 1) := by decide +kernel
theorem dX11_door_29 : decode cX11_door 29 = .ok (.iload_n 2, 1) := by decide +kernel
theorem dX11_door_30 : decode cX11_door 30 = .ok (.invokestatic 84, 3) := by decide +kernel
theorem dX11_door_33 : decode cX11_door 33 = .ok (.ifCond .eq 7, 3) := by decide +kernel
theorem dX11_door_36 : decode cX11_door 36 = .ok (.iconst 1, 1) := by decide +kernel
theorem dX11_door_37 : decode cX11_door 37 = .ok (.goto 4, 3) := by decide +kernel
theorem dX11_door_40 : decode cX11_door 40 = .ok (.iconst 0, 1) := by decide +kernel
theorem dX11_door_41 : decode cX11_door 41 = .ok (.ireturn, 1) := by decide +kernel
set_option maxRecDepth 20000 in
theorem ggX11_need_X11_isIn : GoodIn wsX11_need wsX11_isIn := goodIn_r _ [5] (by decide +kernel) (by decide +kernel)
set_option maxRecDepth 20000 in
theorem gX11_need_X11_isIn : GoodIn wsX11_need (va_wsS RX11 46 yX11_isIn wsX11_isIn) := goodIn_app (goodIn_of _ (by decide +kernel)) ggX11_need_X11_isIn
set_option maxRecDepth 20000 in
theorem ggX11_need_X11_refuse : GoodIn wsX11_need wsX11_refuse := goodIn_r _ [9, 10, 11, 12, 13, 14, 15, 16, 17, 18, 19, 20, 21, 22, 23, 24, 25, 26, 27, 28, 29] (by decide +kernel) (by decide +kernel)
set_option maxRecDepth 20000 in
theorem gX11_need_X11_refuse : GoodIn wsX11_need (wsV RX11 54 RX11 yX11_refuse wsX11_refuse) := goodIn_app (goodIn_of _ (by decide +kernel)) ggX11_need_X11_refuse
theorem dX11_need_0 : decode cX11_need 0 = .ok (.iload_n 1, 1) := by decide +kernel
theorem dX11_need_1 : decode cX11_need 1 = .ok (.aload_n 0, 1) := by decide +kernel
theorem dX11_need_2 : decode cX11_need 2 = .ok (.getfield 13, 3) := by decide +kernel
theorem dX11_need_5 : decode cX11_need 5 = .ok (.iconst 2, 1) := by decide +kernel
theorem dX11_need_6 : decode cX11_need 6 = .ok (.iaload, 1) := by decide +kernel
theorem dX11_need_7 : decode cX11_need 7 = .ok (.invokestatic 46, 3) := by decide +kernel
theorem dX11_need_10 : decode cX11_need 10 = .ok (.ifCond .ne 11, 3) := by decide +kernel
theorem dX11_need_13 : decode cX11_need 13 = .ok (.aload_n 0, 1) := by decide +kernel
theorem dX11_need_14 : decode cX11_need 14 = .ok (.iconst (-1), 1) := by decide +kernel
theorem dX11_need_15 : decode cX11_need 15 = .ok (.invokevirtual 54, 3) := by decide +kernel
theorem dX11_need_18 : decode cX11_need 18 = .ok (.goto 33, 3) := by decide +kernel
theorem dX11_need_21 : decode cX11_need 21 = .ok (.iload_n 2, 1) := by decide +kernel
theorem dX11_need_22 : decode cX11_need 22 = .ok (.iconst 4, 1) := by decide +kernel
theorem dX11_need_23 : decode cX11_need 23 = .ok (.invokestatic 46, 3) := by decide +kernel
theorem dX11_need_26 : decode cX11_need 26 = .ok (.ifCond .eq 19, 3) := by decide +kernel
theorem dX11_need_29 : decode cX11_need 29 = .ok (.aload_n 0, 1) := by decide +kernel
theorem dX11_need_30 : decode cX11_need 30 = .ok (.getfield 13, 3) := by decide +kernel
theorem dX11_need_33 : decode cX11_need 33 = .ok (.bipush 45, 2) := by decide +kernel
theorem dX11_need_35 : decode cX11_need 35 = .ok (.iconst 4, 1) := by decide +kernel
theorem dX11_need_36 : decode cX11_need 36 = .ok (.iload_n 1, 1) := by decide +kernel
theorem dX11_need_37 : decode cX11_need 37 = .ok (.imul, 1) := by decide +kernel
theorem dX11_need_38 : decode cX11_need 38 = .ok (.iadd, 1) := by decide +kernel
theorem dX11_need_39 : decode cX11_need 39 = .ok (.iload_n 2, 1) := by decide +kernel
theorem dX11_need_40 : decode cX11_need 40 = .ok (.iadd, 1) := by decide +kernel
theorem dX11_need_41 : decode cX11_need 41 = .ok (.iaload, 1) := by decide +kernel
theorem dX11_need_42 : decode cX11_need 42 = .ok (.goto 9, 3) := by decide +kernel
theorem dX11_need_45 : decode cX11_need 45 = .ok (.aload_n 0, 1) := by decide +kernel
theorem dX11_need_46 : decode cX11_need 46 = .ok (.bipush (-2), 2) := by decide +kernel
theorem dX11_need_48 : decode cX11_need 48 = .ok (.invokevirtual 54, 3) := by decide +kernel
theorem dX11_need_51 : decode cX11_need 51 = .ok (.ireturn, 1) := by decide +kernel
set_option maxRecDepth 20000 in
theorem ggX11_set_X11_isIn : GoodIn wsX11_set wsX11_isIn := goodIn_r _ [5] (by decide +kernel) (by decide +kernel)
set_option maxRecDepth 20000 in
theorem gX11_set_X11_isIn : GoodIn wsX11_set (va_wsS RX11 46 yX11_isIn wsX11_isIn) := goodIn_app (goodIn_of _ (by decide +kernel)) ggX11_set_X11_isIn
set_option maxRecDepth 20000 in
theorem ggX11_set_X11_refuse : GoodIn wsX11_set wsX11_refuse := goodIn_r _ [9, 10, 14, 15, 16, 17, 18, 19, 20, 21, 22, 23, 24, 25, 26, 27, 28, 29, 30, 31, 32] (by decide +kernel) (by decide +kernel)
set_option maxRecDepth 20000 in
theorem gX11_set_X11_refuse : GoodIn wsX11_set (wsV RX11 54 RX11 yX11_refuse wsX11_refuse) := goodIn_app (goodIn_of _ (by decide +kernel)) ggX11_set_X11_refuse
set_option maxRecDepth 20000 in
theorem ggX11_set_X11_within : GoodIn wsX11_set wsX11_within := goodIn_r _ [13] (by decide +kernel) (by decide +kernel)
set_option maxRecDepth 20000 in
theorem gX11_set_X11_within : GoodIn wsX11_set (va_wsS RX11 103 yX11_within wsX11_within) := goodIn_app (goodIn_of _ (by decide +kernel)) ggX11_set_X11_within
theorem dX11_set_0 : decode cX11_set 0 = .ok (.iload_n 1, 1) := by decide +kernel
theorem dX11_set_1 : decode cX11_set 1 = .ok (.iconst 4, 1) := by decide +kernel
theorem dX11_set_2 : decode cX11_set 2 = .ok (.invokestatic 46, 3) := by decide +kernel
theorem dX11_set_5 : decode cX11_set 5 = .ok (.ifCond .ne 10, 3) := by decide +kernel
theorem dX11_set_8 : decode cX11_set 8 = .ok (.aload_n 0, 1) := by decide +kernel
theorem dX11_set_9 : decode cX11_set 9 = .ok (.bipush (-2), 2) := by decide +kernel
theorem dX11_set_11 : decode cX11_set 11 = .ok (.invokevirtual 54, 3) := by decide +kernel
theorem dX11_set_14 : decode cX11_set 14 = .ok (.ireturn, 1) := by decide +kernel
theorem dX11_set_15 : decode cX11_set 15 = .ok (.iload_n 2, 1) := by decide +kernel
theorem dX11_set_16 : decode cX11_set 16 = .ok (.iload_n 1, 1) := by decide +kernel
theorem dX11_set_17 : decode cX11_set 17 = .ok (.iconst 1, 1) := by decide +kernel
theorem dX11_set_18 : decode cX11_set 18 = .ok (.if_icmp .ne 7, 3) := by decide +kernel
theorem dX11_set_21 : decode cX11_set 21 = .ok (.iconst 0, 1) := by decide +kernel
theorem dX11_set_22 : decode cX11_set 22 = .ok (.goto 4, 3) := by decide +kernel
theorem dX11_set_25 : decode cX11_set 25 = .ok (.iconst 1, 1) := by decide +kernel
theorem dX11_set_26 : decode cX11_set 26 = .ok (.iload_n 1, 1) := by decide +kernel
theorem dX11_set_27 : decode cX11_set 27 = .ok (.iconst 2, 1) := by decide +kernel
theorem dX11_set_28 : decode cX11_set 28 = .ok (.if_icmp .ge 8, 3) := by decide +kernel
theorem dX11_set_31 : decode cX11_set 31 = .ok (.bipush 24, 2) := by decide +kernel
theorem dX11_set_33 : decode cX11_set 33 = .ok (.goto 14, 3) := by decide +kernel
theorem dX11_set_36 : decode cX11_set 36 = .ok (.iload_n 1, 1) := by decide +kernel
theorem dX11_set_37 : decode cX11_set 37 = .ok (.iconst 2, 1) := by decide +kernel
theorem dX11_set_38 : decode cX11_set 38 = .ok (.if_icmp .ne 8, 3) := by decide +kernel
theorem dX11_set_41 : decode cX11_set 41 = .ok (.bipush 99, 2) := by decide +kernel
theorem dX11_set_43 : decode cX11_set 43 = .ok (.goto 4, 3) := by decide +kernel
theorem dX11_set_46 : decode cX11_set 46 = .ok (.iconst 3, 1) := by decide +kernel
theorem dX11_set_47 : decode cX11_set 47 = .ok (.invokestatic 103, 3) := by decide +kernel
theorem dX11_set_50 : decode cX11_set 50 = .ok (.istore_n 3, 1) := by decide +kernel
theorem dX11_set_51 : decode cX11_set 51 = .ok (.iload_n 3, 1) := by decide +kernel
theorem dX11_set_52 : decode cX11_set 52 = .ok (.ifCond .eq 9, 3) := by decide +kernel
theorem dX11_set_55 : decode cX11_set 55 = .ok (.aload_n 0, 1) := by decide +kernel
theorem dX11_set_56 : decode cX11_set 56 = .ok (.iload_n 3, 1) := by decide +kernel
theorem dX11_set_57 : decode cX11_set 57 = .ok (.invokevirtual 54, 3) := by decide +kernel
theorem dX11_set_60 : decode cX11_set 60 = .ok (.ireturn, 1) := by decide +kernel
theorem dX11_set_61 : decode cX11_set 61 = .ok (.aload_n 0, 1) := by decide +kernel
theorem dX11_set_62 : decode cX11_set 62 = .ok (.getfield 13, 3) := by decide +kernel
theorem dX11_set_65 : decode cX11_set 65 = .ok (.iconst 4, 1) := by decide +kernel
theorem dX11_set_66 : decode cX11_set 66 = .ok (.iload_n 1, 1) := by decide +kernel
theorem dX11_set_67 : decode cX11_set 67 = .ok (.iadd, 1) := by decide +kernel
theorem dX11_set_68 : decode cX11_set 68 = .ok (.iaload, 1) := by decide +kernel
theorem dX11_set_69 : decode cX11_set 69 = .ok (.istore 4, 2) := by decide +kernel
theorem dX11_set_71 : decode cX11_set 71 = .ok (.aload_n 0, 1) := by decide +kernel
theorem dX11_set_72 : decode cX11_set 72 = .ok (.getfield 13, 3) := by decide +kernel
theorem dX11_set_75 : decode cX11_set 75 = .ok (.iconst 4, 1) := by decide +kernel
theorem dX11_set_76 : decode cX11_set 76 = .ok (.iload_n 1, 1) := by decide +kernel
theorem dX11_set_77 : decode cX11_set 77 = .ok (.iadd, 1) := by decide +kernel
theorem dX11_set_78 : decode cX11_set 78 = .ok (.iload_n 2, 1) := by decide +kernel
theorem dX11_set_79 : decode cX11_set 79 = .ok (.iastore, 1) := by decide +kernel
theorem dX11_set_80 : decode cX11_set 80 = .ok (.iload 4, 2) := by decide +kernel
theorem dX11_set_82 : decode cX11_set 82 = .ok (.ireturn, 1) := by decide +kernel
theorem dX11_allRooms_0 : decode cX11_allRooms 0 = .ok (.iconst 1, 1) := by decide +kernel
theorem dX11_allRooms_1 : decode cX11_allRooms 1 = .ok (.aload_n 0, 1) := by decide +kernel
theorem dX11_allRooms_2 : decode cX11_allRooms 2 = .ok (.getfield 13, 3) := by decide +kernel
theorem dX11_allRooms_5 : decode cX11_allRooms 5 = .ok (.iconst 0, 1) := by decide +kernel
theorem dX11_allRooms_6 : decode cX11_allRooms 6 = .ok (.iaload, 1) := by decide +kernel
theorem dX11_allRooms_7 : decode cX11_allRooms 7 = .ok (.ishl, 1) := by decide +kernel
theorem dX11_allRooms_8 : decode cX11_allRooms 8 = .ok (.iconst 2, 1) := by decide +kernel
theorem dX11_allRooms_9 : decode cX11_allRooms 9 = .ok (.isub, 1) := by decide +kernel
theorem dX11_allRooms_10 : decode cX11_allRooms 10 = .ok (.ireturn, 1) := by decide +kernel
set_option maxRecDepth 20000 in
theorem ggX11_planks_X11_allRooms : GoodIn wsX11_planks wsX11_allRooms := goodIn_r _ [6, 1, 12, 13, 14, 15, 16, 17, 18, 19, 20, 21, 22, 23, 24, 25, 26, 27, 28, 29, 30] (by decide +kernel) (by decide +kernel)
set_option maxRecDepth 20000 in
theorem gX11_planks_X11_allRooms : GoodIn wsX11_planks (wsV RX11 107 RX11 yX11_allRooms wsX11_allRooms) := goodIn_app (goodIn_of _ (by decide +kernel)) ggX11_planks_X11_allRooms
set_option maxRecDepth 20000 in
theorem ggX11_planks_X11_refuse : GoodIn wsX11_planks wsX11_refuse := goodIn_r _ [10, 11, 12, 13, 14, 15, 16, 17, 18, 19, 20, 21, 22, 23, 24, 25, 26, 27, 28, 29, 30] (by decide +kernel) (by decide +kernel)
set_option maxRecDepth 20000 in
theorem gX11_planks_X11_refuse : GoodIn wsX11_planks (wsV RX11 54 RX11 yX11_refuse wsX11_refuse) := goodIn_app (goodIn_of _ (by decide +kernel)) ggX11_planks_X11_refuse
theorem dX11_planks_0 : decode cX11_planks 0 = .ok (.iload_n 1, 1) := by decide +kernel
theorem dX11_planks_1 : decode cX11_planks 1 = .ok (.aload_n 0, 1) := by decide +kernel
theorem dX11_planks_2 : decode cX11_planks 2 = .ok (.invokevirtual 107, 3) := by decide +kernel
theorem dX11_planks_5 : decode cX11_planks 5 = .ok (.iconst (-1), 1) := by decide +kernel
theorem dX11_planks_6 : decode cX11_planks 6 = .ok (.ixor, 1) := by decide +kernel
theorem dX11_planks_7 : decode cX11_planks 7 = .ok (.iand, 1) := by decide +kernel
theorem dX11_planks_8 : decode cX11_planks 8 = .ok (.ifCond .eq 9, 3) := by decide +kernel
theorem dX11_planks_11 : decode cX11_planks 11 = .ok (.aload_n 0, 1) := by decide +kernel
theorem dX11_planks_12 : decode cX11_planks 12 = .ok (.iconst (-1), 1) := by decide +kernel
theorem dX11_planks_13 : decode cX11_planks 13 = .ok (.invokevirtual 54, 3) := by decide +kernel
theorem dX11_planks_16 : decode cX11_planks 16 = .ok (.ireturn, 1) := by decide +kernel
theorem dX11_planks_17 : decode cX11_planks 17 = .ok (.aload_n 0, 1) := by decide +kernel
theorem dX11_planks_18 : decode cX11_planks 18 = .ok (.getfield 13, 3) := by decide +kernel
theorem dX11_planks_21 : decode cX11_planks 21 = .ok (.bipush 8, 2) := by decide +kernel
theorem dX11_planks_23 : decode cX11_planks 23 = .ok (.iaload, 1) := by decide +kernel
theorem dX11_planks_24 : decode cX11_planks 24 = .ok (.istore_n 2, 1) := by decide +kernel
theorem dX11_planks_25 : decode cX11_planks 25 = .ok (.aload_n 0, 1) := by decide +kernel
theorem dX11_planks_26 : decode cX11_planks 26 = .ok (.getfield 13, 3) := by decide +kernel
theorem dX11_planks_29 : decode cX11_planks 29 = .ok (.bipush 8, 2) := by decide +kernel
theorem dX11_planks_31 : decode cX11_planks 31 = .ok (.iload_n 1, 1) := by decide +kernel
theorem dX11_planks_32 : decode cX11_planks 32 = .ok (.iastore, 1) := by decide +kernel
theorem dX11_planks_33 : decode cX11_planks 33 = .ok (.iload_n 2, 1) := by decide +kernel
theorem dX11_planks_34 : decode cX11_planks 34 = .ok (.ireturn, 1) := by decide +kernel
set_option maxRecDepth 20000 in
theorem ggX11_step_X11_isRoom : GoodIn wsX11_step wsX11_isRoom := goodIn_r _ [6, 7, 8, 9, 5, 10, 1, 11, 12, 13, 22, 23, 24, 25, 26, 27, 28, 29, 30, 31, 32, 33, 34, 35, 36, 37, 38, 39, 40] (by decide +kernel) (by decide +kernel)
set_option maxRecDepth 20000 in
theorem gX11_step_X11_isRoom : GoodIn wsX11_step (wsV RX11 100 RX11 yX11_isRoom wsX11_isRoom) := goodIn_app (goodIn_of _ (by decide +kernel)) ggX11_step_X11_isRoom
set_option maxRecDepth 20000 in
theorem ggX11_step_X11_within : GoodIn wsX11_step wsX11_within := goodIn_r _ [16] (by decide +kernel) (by decide +kernel)
set_option maxRecDepth 20000 in
theorem gX11_step_X11_within : GoodIn wsX11_step (va_wsS RX11 103 yX11_within wsX11_within) := goodIn_app (goodIn_of _ (by decide +kernel)) ggX11_step_X11_within
set_option maxRecDepth 20000 in
theorem ggX11_step_X11_refuse : GoodIn wsX11_step wsX11_refuse := goodIn_r _ [20, 21, 22, 23, 24, 25, 26, 27, 28, 29, 30, 31, 32, 33, 34, 35, 36, 37, 38, 39, 40] (by decide +kernel) (by decide +kernel)
set_option maxRecDepth 20000 in
theorem gX11_step_X11_refuse : GoodIn wsX11_step (wsV RX11 54 RX11 yX11_refuse wsX11_refuse) := goodIn_app (goodIn_of _ (by decide +kernel)) ggX11_step_X11_refuse
theorem dX11_step_0 : decode cX11_step 0 = .ok (.aload_n 0, 1) := by decide +kernel
theorem dX11_step_1 : decode cX11_step 1 = .ok (.iload_n 1, 1) := by decide +kernel
theorem dX11_step_2 : decode cX11_step 2 = .ok (.invokevirtual 100, 3) := by decide +kernel
theorem dX11_step_5 : decode cX11_step 5 = .ok (.ifCond .eq 13, 3) := by decide +kernel
theorem dX11_step_8 : decode cX11_step 8 = .ok (.iload_n 2, 1) := by decide +kernel
theorem dX11_step_9 : decode cX11_step 9 = .ok (.iconst 0, 1) := by decide +kernel
theorem dX11_step_10 : decode cX11_step 10 = .ok (.bipush 99, 2) := by decide +kernel
theorem dX11_step_12 : decode cX11_step 12 = .ok (.invokestatic 103, 3) := by decide +kernel
theorem dX11_step_15 : decode cX11_step 15 = .ok (.goto 4, 3) := by decide +kernel
theorem dX11_step_18 : decode cX11_step 18 = .ok (.iconst (-1), 1) := by decide +kernel
theorem dX11_step_19 : decode cX11_step 19 = .ok (.istore_n 3, 1) := by decide +kernel
theorem dX11_step_20 : decode cX11_step 20 = .ok (.iload_n 3, 1) := by decide +kernel
theorem dX11_step_21 : decode cX11_step 21 = .ok (.ifCond .ne 17, 3) := by decide +kernel
theorem dX11_step_24 : decode cX11_step 24 = .ok (.aload_n 0, 1) := by decide +kernel
theorem dX11_step_25 : decode cX11_step 25 = .ok (.getfield 13, 3) := by decide +kernel
theorem dX11_step_28 : decode cX11_step 28 = .ok (.iconst 3, 1) := by decide +kernel
theorem dX11_step_29 : decode cX11_step 29 = .ok (.iaload, 1) := by decide +kernel
theorem dX11_step_30 : decode cX11_step 30 = .ok (.bipush 8, 2) := by decide +kernel
theorem dX11_step_32 : decode cX11_step 32 = .ok (.if_icmp .ne 6, 3) := by decide +kernel
theorem dX11_step_35 : decode cX11_step 35 = .ok (.bipush (-6), 2) := by decide +kernel
theorem dX11_step_37 : decode cX11_step 37 = .ok (.istore_n 3, 1) := by decide +kernel
theorem dX11_step_38 : decode cX11_step 38 = .ok (.iload_n 3, 1) := by decide +kernel
theorem dX11_step_39 : decode cX11_step 39 = .ok (.ifCond .eq 9, 3) := by decide +kernel
theorem dX11_step_42 : decode cX11_step 42 = .ok (.aload_n 0, 1) := by decide +kernel
theorem dX11_step_43 : decode cX11_step 43 = .ok (.iload_n 3, 1) := by decide +kernel
theorem dX11_step_44 : decode cX11_step 44 = .ok (.invokevirtual 54, 3) := by decide +kernel
theorem dX11_step_47 : decode cX11_step 47 = .ok (.ireturn, 1) := by decide +kernel
theorem dX11_step_48 : decode cX11_step 48 = .ok (.aload_n 0, 1) := by decide +kernel
theorem dX11_step_49 : decode cX11_step 49 = .ok (.getfield 13, 3) := by decide +kernel
theorem dX11_step_52 : decode cX11_step 52 = .ok (.bipush 77, 2) := by decide +kernel
theorem dX11_step_54 : decode cX11_step 54 = .ok (.iconst 2, 1) := by decide +kernel
theorem dX11_step_55 : decode cX11_step 55 = .ok (.aload_n 0, 1) := by decide +kernel
theorem dX11_step_56 : decode cX11_step 56 = .ok (.getfield 13, 3) := by decide +kernel
theorem dX11_step_59 : decode cX11_step 59 = .ok (.iconst 3, 1) := by decide +kernel
theorem dX11_step_60 : decode cX11_step 60 = .ok (.iaload, 1) := by decide +kernel
theorem dX11_step_61 : decode cX11_step 61 = .ok (.imul, 1) := by decide +kernel
theorem dX11_step_62 : decode cX11_step 62 = .ok (.iadd, 1) := by decide +kernel
theorem dX11_step_63 : decode cX11_step 63 = .ok (.iload_n 1, 1) := by decide +kernel
theorem dX11_step_64 : decode cX11_step 64 = .ok (.iastore, 1) := by decide +kernel
theorem dX11_step_65 : decode cX11_step 65 = .ok (.aload_n 0, 1) := by decide +kernel
theorem dX11_step_66 : decode cX11_step 66 = .ok (.getfield 13, 3) := by decide +kernel
theorem dX11_step_69 : decode cX11_step 69 = .ok (.bipush 77, 2) := by decide +kernel
theorem dX11_step_71 : decode cX11_step 71 = .ok (.iconst 2, 1) := by decide +kernel
theorem dX11_step_72 : decode cX11_step 72 = .ok (.aload_n 0, 1) := by decide +kernel
theorem dX11_step_73 : decode cX11_step 73 = .ok (.getfield 13, 3) := by decide +kernel
theorem dX11_step_76 : decode cX11_step 76 = .ok (.iconst 3, 1) := by decide +kernel
theorem dX11_step_77 : decode cX11_step 77 = .ok (.iaload, 1) := by decide +kernel
theorem dX11_step_78 : decode cX11_step 78 = .ok (.imul, 1) := by decide +kernel
theorem dX11_step_79 : decode cX11_step 79 = .ok (.iadd, 1) := by decide +kernel
theorem dX11_step_80 : decode cX11_step 80 = .ok (.iconst 1, 1) := by decide +kernel
theorem dX11_step_81 : decode cX11_step 81 = .ok (.iadd, 1) := by decide +kernel
theorem dX11_step_82 : decode cX11_step 82 = .ok (.iload_n 2, 1) := by decide +kernel
theorem dX11_step_83 : decode cX11_step 83 = .ok (.iastore, 1) := by decide +kernel
theorem dX11_step_84 : decode cX11_step 84 = .ok (.aload_n 0, 1) := by decide +kernel
theorem dX11_step_85 : decode cX11_step 85 = .ok (.getfield 13, 3) := by decide +kernel
theorem dX11_step_88 : decode cX11_step 88 = .ok (.iconst 3, 1) := by decide +kernel
theorem dX11_step_89 : decode cX11_step 89 = .ok (.dup2, 1) := by decide +kernel
theorem dX11_step_90 : decode cX11_step 90 = .ok (.iaload, 1) := by decide +kernel
theorem dX11_step_91 : decode cX11_step 91 = .ok (.iconst 1, 1) := by decide +kernel
theorem dX11_step_92 : decode cX11_step 92 = .ok (.iadd, 1) := by decide +kernel
theorem dX11_step_93 : decode cX11_step 93 = .ok (.iastore, 1) := by decide +kernel
theorem dX11_step_94 : decode cX11_step 94 = .ok (.aload_n 0, 1) := by decide +kernel
theorem dX11_step_95 : decode cX11_step 95 = .ok (.getfield 13, 3) := by decide +kernel
theorem dX11_step_98 : decode cX11_step 98 = .ok (.iconst 3, 1) := by decide +kernel
theorem dX11_step_99 : decode cX11_step 99 = .ok (.iaload, 1) := by decide +kernel
theorem dX11_step_100 : decode cX11_step 100 = .ok (.ireturn, 1) := by decide +kernel
set_option maxRecDepth 20000 in
theorem ggX11_stepOf_X11_isIn : GoodIn wsX11_stepOf wsX11_isIn := goodIn_r _ [5] (by decide +kernel) (by decide +kernel)
set_option maxRecDepth 20000 in
theorem gX11_stepOf_X11_isIn : GoodIn wsX11_stepOf (va_wsS RX11 46 yX11_isIn wsX11_isIn) := goodIn_app (goodIn_of _ (by decide +kernel)) ggX11_stepOf_X11_isIn
set_option maxRecDepth 20000 in
theorem ggX11_stepOf_X11_refuse : GoodIn wsX11_stepOf wsX11_refuse := goodIn_r _ [9, 10, 11, 12, 13, 14, 15, 16, 17, 18, 19, 20, 21, 22, 23, 24, 25, 26, 27, 28, 29] (by decide +kernel) (by decide +kernel)
set_option maxRecDepth 20000 in
theorem gX11_stepOf_X11_refuse : GoodIn wsX11_stepOf (wsV RX11 54 RX11 yX11_refuse wsX11_refuse) := goodIn_app (goodIn_of _ (by decide +kernel)) ggX11_stepOf_X11_refuse
theorem dX11_stepOf_0 : decode cX11_stepOf 0 = .ok (.iload_n 1, 1) := by decide +kernel
theorem dX11_stepOf_1 : decode cX11_stepOf 1 = .ok (.aload_n 0, 1) := by decide +kernel
theorem dX11_stepOf_2 : decode cX11_stepOf 2 = .ok (.getfield 13, 3) := by decide +kernel
theorem dX11_stepOf_5 : decode cX11_stepOf 5 = .ok (.iconst 3, 1) := by decide +kernel
theorem dX11_stepOf_6 : decode cX11_stepOf 6 = .ok (.iaload, 1) := by decide +kernel
theorem dX11_stepOf_7 : decode cX11_stepOf 7 = .ok (.invokestatic 46, 3) := by decide +kernel
theorem dX11_stepOf_10 : decode cX11_stepOf 10 = .ok (.ifCond .ne 11, 3) := by decide +kernel
theorem dX11_stepOf_13 : decode cX11_stepOf 13 = .ok (.aload_n 0, 1) := by decide +kernel
theorem dX11_stepOf_14 : decode cX11_stepOf 14 = .ok (.iconst (-1), 1) := by decide +kernel
theorem dX11_stepOf_15 : decode cX11_stepOf 15 = .ok (.invokevirtual 54, 3) := by decide +kernel
theorem dX11_stepOf_18 : decode cX11_stepOf 18 = .ok (.goto 33, 3) := by decide +kernel
theorem dX11_stepOf_21 : decode cX11_stepOf 21 = .ok (.iload_n 2, 1) := by decide +kernel
theorem dX11_stepOf_22 : decode cX11_stepOf 22 = .ok (.iconst 2, 1) := by decide +kernel
theorem dX11_stepOf_23 : decode cX11_stepOf 23 = .ok (.invokestatic 46, 3) := by decide +kernel
theorem dX11_stepOf_26 : decode cX11_stepOf 26 = .ok (.ifCond .eq 19, 3) := by decide +kernel
theorem dX11_stepOf_29 : decode cX11_stepOf 29 = .ok (.aload_n 0, 1) := by decide +kernel
theorem dX11_stepOf_30 : decode cX11_stepOf 30 = .ok (.getfield 13, 3) := by decide +kernel
theorem dX11_stepOf_33 : decode cX11_stepOf 33 = .ok (.bipush 77, 2) := by decide +kernel
theorem dX11_stepOf_35 : decode cX11_stepOf 35 = .ok (.iconst 2, 1) := by decide +kernel
theorem dX11_stepOf_36 : decode cX11_stepOf 36 = .ok (.iload_n 1, 1) := by decide +kernel
theorem dX11_stepOf_37 : decode cX11_stepOf 37 = .ok (.imul, 1) := by decide +kernel
theorem dX11_stepOf_38 : decode cX11_stepOf 38 = .ok (.iadd, 1) := by decide +kernel
theorem dX11_stepOf_39 : decode cX11_stepOf 39 = .ok (.iload_n 2, 1) := by decide +kernel
theorem dX11_stepOf_40 : decode cX11_stepOf 40 = .ok (.iadd, 1) := by decide +kernel
theorem dX11_stepOf_41 : decode cX11_stepOf 41 = .ok (.iaload, 1) := by decide +kernel
theorem dX11_stepOf_42 : decode cX11_stepOf 42 = .ok (.goto 9, 3) := by decide +kernel
theorem dX11_stepOf_45 : decode cX11_stepOf 45 = .ok (.aload_n 0, 1) := by decide +kernel
theorem dX11_stepOf_46 : decode cX11_stepOf 46 = .ok (.bipush (-2), 2) := by decide +kernel
theorem dX11_stepOf_48 : decode cX11_stepOf 48 = .ok (.invokevirtual 54, 3) := by decide +kernel
theorem dX11_stepOf_51 : decode cX11_stepOf 51 = .ok (.ireturn, 1) := by decide +kernel
theorem dX11_clear_0 : decode cX11_clear 0 = .ok (.aload_n 0, 1) := by decide +kernel
theorem dX11_clear_1 : decode cX11_clear 1 = .ok (.getfield 13, 3) := by decide +kernel
theorem dX11_clear_4 : decode cX11_clear 4 = .ok (.iconst 3, 1) := by decide +kernel
theorem dX11_clear_5 : decode cX11_clear 5 = .ok (.iaload, 1) := by decide +kernel
theorem dX11_clear_6 : decode cX11_clear 6 = .ok (.istore_n 1, 1) := by decide +kernel
theorem dX11_clear_7 : decode cX11_clear 7 = .ok (.aload_n 0, 1) := by decide +kernel
theorem dX11_clear_8 : decode cX11_clear 8 = .ok (.getfield 13, 3) := by decide +kernel
theorem dX11_clear_11 : decode cX11_clear 11 = .ok (.iconst 3, 1) := by decide +kernel
theorem dX11_clear_12 : decode cX11_clear 12 = .ok (.iconst 0, 1) := by decide +kernel
theorem dX11_clear_13 : decode cX11_clear 13 = .ok (.iastore, 1) := by decide +kernel
theorem dX11_clear_14 : decode cX11_clear 14 = .ok (.iload_n 1, 1) := by decide +kernel
theorem dX11_clear_15 : decode cX11_clear 15 = .ok (.ireturn, 1) := by decide +kernel
theorem dX11_roomOf_0 : decode cX11_roomOf 0 = .ok (.aload_n 0, 1) := by decide +kernel
theorem dX11_roomOf_1 : decode cX11_roomOf 1 = .ok (.getfield 13, 3) := by decide +kernel
theorem dX11_roomOf_4 : decode cX11_roomOf 4 = .ok (.bipush 77, 2) := by decide +kernel
theorem dX11_roomOf_6 : decode cX11_roomOf 6 = .ok (.iconst 2, 1) := by decide +kernel
theorem dX11_roomOf_7 : decode cX11_roomOf 7 = .ok (.iload_n 1, 1) := by decide +kernel
theorem dX11_roomOf_8 : decode cX11_roomOf 8 = .ok (.imul, 1) := by decide +kernel
theorem dX11_roomOf_9 : decode cX11_roomOf 9 = .ok (.iadd, 1) := by decide +kernel
theorem dX11_roomOf_10 : decode cX11_roomOf 10 = .ok (.iaload, 1) := by decide +kernel
theorem dX11_roomOf_11 : decode cX11_roomOf 11 = .ok (.ireturn, 1) := by decide +kernel
theorem dX11_hourOf_0 : decode cX11_hourOf 0 = .ok (.aload_n 0, 1) := by decide +kernel
theorem dX11_hourOf_1 : decode cX11_hourOf 1 = .ok (.getfield 13, 3) := by decide +kernel
theorem dX11_hourOf_4 : decode cX11_hourOf 4 = .ok (.bipush 77, 2) := by decide +kernel
theorem dX11_hourOf_6 : decode cX11_hourOf 6 = .ok (.iconst 2, 1) := by decide +kernel
theorem dX11_hourOf_7 : decode cX11_hourOf 7 = .ok (.iload_n 1, 1) := by decide +kernel
theorem dX11_hourOf_8 : decode cX11_hourOf 8 = .ok (.imul, 1) := by decide +kernel
theorem dX11_hourOf_9 : decode cX11_hourOf 9 = .ok (.iadd, 1) := by decide +kernel
theorem dX11_hourOf_10 : decode cX11_hourOf 10 = .ok (.iconst 1, 1) := by decide +kernel
theorem dX11_hourOf_11 : decode cX11_hourOf 11 = .ok (.iadd, 1) := by decide +kernel
theorem dX11_hourOf_12 : decode cX11_hourOf 12 = .ok (.iaload, 1) := by decide +kernel
theorem dX11_hourOf_13 : decode cX11_hourOf 13 = .ok (.ireturn, 1) := by decide +kernel
set_option maxRecDepth 20000 in
theorem ggX11_endOf_X11_hourOf : GoodIn wsX11_endOf wsX11_hourOf := goodIn_r _ [6, 1, 11, 12, 13, 14, 15, 16, 17, 18, 19, 20, 21, 22, 23, 24, 25, 26, 27, 28, 29] (by decide +kernel) (by decide +kernel)
set_option maxRecDepth 20000 in
theorem gX11_endOf_X11_hourOf : GoodIn wsX11_endOf (wsV RX11 110 RX11 yX11_hourOf wsX11_hourOf) := goodIn_app (goodIn_of _ (by decide +kernel)) ggX11_endOf_X11_hourOf
set_option maxRecDepth 20000 in
theorem ggX11_endOf_X11_roomOf : GoodIn wsX11_endOf wsX11_roomOf := goodIn_r _ [10, 1, 11, 12, 13, 14, 15, 16, 17, 18, 19, 20, 21, 22, 23, 24, 25, 26, 27, 28, 29] (by decide +kernel) (by decide +kernel)
set_option maxRecDepth 20000 in
theorem gX11_endOf_X11_roomOf : GoodIn wsX11_endOf (wsV RX11 113 RX11 yX11_roomOf wsX11_roomOf) := goodIn_app (goodIn_of _ (by decide +kernel)) ggX11_endOf_X11_roomOf
theorem dX11_endOf_0 : decode cX11_endOf 0 = .ok (.aload_n 0, 1) := by decide +kernel
theorem dX11_endOf_1 : decode cX11_endOf 1 = .ok (.iload_n 1, 1) := by decide +kernel
theorem dX11_endOf_2 : decode cX11_endOf 2 = .ok (.invokevirtual 110, 3) := by decide +kernel
theorem dX11_endOf_5 : decode cX11_endOf 5 = .ok (.aload_n 0, 1) := by decide +kernel
theorem dX11_endOf_6 : decode cX11_endOf 6 = .ok (.getfield 13, 3) := by decide +kernel
theorem dX11_endOf_9 : decode cX11_endOf 9 = .ok (.bipush 9, 2) := by decide +kernel
theorem dX11_endOf_11 : decode cX11_endOf 11 = .ok (.aload_n 0, 1) := by decide +kernel
theorem dX11_endOf_12 : decode cX11_endOf 12 = .ok (.iload_n 1, 1) := by decide +kernel
theorem dX11_endOf_13 : decode cX11_endOf 13 = .ok (.invokevirtual 113, 3) := by decide +kernel
theorem dX11_endOf_16 : decode cX11_endOf 16 = .ok (.iadd, 1) := by decide +kernel
theorem dX11_endOf_17 : decode cX11_endOf 17 = .ok (.iaload, 1) := by decide +kernel
theorem dX11_endOf_18 : decode cX11_endOf 18 = .ok (.aload_n 0, 1) := by decide +kernel
theorem dX11_endOf_19 : decode cX11_endOf 19 = .ok (.getfield 13, 3) := by decide +kernel
theorem dX11_endOf_22 : decode cX11_endOf 22 = .ok (.bipush 7, 2) := by decide +kernel
theorem dX11_endOf_24 : decode cX11_endOf 24 = .ok (.iaload, 1) := by decide +kernel
theorem dX11_endOf_25 : decode cX11_endOf 25 = .ok (.iadd, 1) := by decide +kernel
theorem dX11_endOf_26 : decode cX11_endOf 26 = .ok (.iconst 1, 1) := by decide +kernel
theorem dX11_endOf_27 : decode cX11_endOf 27 = .ok (.isub, 1) := by decide +kernel
theorem dX11_endOf_28 : decode cX11_endOf 28 = .ok (.aload_n 0, 1) := by decide +kernel
theorem dX11_endOf_29 : decode cX11_endOf 29 = .ok (.getfield 13, 3) := by decide +kernel
theorem dX11_endOf_32 : decode cX11_endOf 32 = .ok (.bipush 7, 2) := by decide +kernel
theorem dX11_endOf_34 : decode cX11_endOf 34 = .ok (.iaload, 1) := by decide +kernel
theorem dX11_endOf_35 : decode cX11_endOf 35 = .ok (.idiv, 1) := by decide +kernel
theorem dX11_endOf_36 : decode cX11_endOf 36 = .ok (.iadd, 1) := by decide +kernel
theorem dX11_endOf_37 : decode cX11_endOf 37 = .ok (.ireturn, 1) := by decide +kernel
theorem dX11_isPlanked_0 : decode cX11_isPlanked 0 = .ok (.aload_n 0, 1) := by decide +kernel
theorem dX11_isPlanked_1 : decode cX11_isPlanked 1 = .ok (.getfield 13, 3) := by decide +kernel
theorem dX11_isPlanked_4 : decode cX11_isPlanked 4 = .ok (.bipush 8, 2) := by decide +kernel
theorem dX11_isPlanked_6 : decode cX11_isPlanked 6 = .ok (.iaload, 1) := by decide +kernel
theorem dX11_isPlanked_7 : decode cX11_isPlanked 7 = .ok (.iload_n 1, 1) := by decide +kernel
theorem dX11_isPlanked_8 : decode cX11_isPlanked 8 = .ok (.ishr, 1) := by decide +kernel
theorem dX11_isPlanked_9 : decode cX11_isPlanked 9 = .ok (.iconst 1, 1) := by decide +kernel
theorem dX11_isPlanked_10 : decode cX11_isPlanked 10 = .ok (.iand, 1) := by decide +kernel
theorem dX11_isPlanked_11 : decode cX11_isPlanked 11 = .ok (.iconst 1, 1) := by decide +kernel
theorem dX11_isPlanked_12 : decode cX11_isPlanked 12 = .ok (.if_icmp .ne 7, 3) := by decide +kernel
theorem dX11_isPlanked_15 : decode cX11_isPlanked 15 = .ok (.iconst 1, 1) := by decide +kernel
theorem dX11_isPlanked_16 : decode cX11_isPlanked 16 = .ok (.goto 4, 3) := by decide +kernel
theorem dX11_isPlanked_19 : decode cX11_isPlanked 19 = .ok (.iconst 0, 1) := by decide +kernel
theorem dX11_isPlanked_20 : decode cX11_isPlanked 20 = .ok (.ireturn, 1) := by decide +kernel
set_option maxRecDepth 20000 in
theorem ggX11_openAt_X11_hourOf : GoodIn wsX11_openAt wsX11_hourOf := goodIn_r _ [6, 1, 19, 20, 21, 22, 23, 24, 25, 26, 27, 28, 29, 30, 31, 32, 33, 34, 35, 36, 37] (by decide +kernel) (by decide +kernel)
set_option maxRecDepth 20000 in
theorem gX11_openAt_X11_hourOf : GoodIn wsX11_openAt (wsV RX11 110 RX11 yX11_hourOf wsX11_hourOf) := goodIn_app (goodIn_of _ (by decide +kernel)) ggX11_openAt_X11_hourOf
set_option maxRecDepth 20000 in
theorem ggX11_openAt_X11_endOf : GoodIn wsX11_openAt wsX11_endOf := goodIn_r _ [10, 1, 2, 3, 4, 5, 6, 11, 12, 13, 14, 19, 20, 21, 22, 23, 24, 25, 26, 27, 28, 29, 30, 31, 32, 33, 34, 35, 36, 37] (by decide +kernel) (by decide +kernel)
set_option maxRecDepth 20000 in
theorem gX11_openAt_X11_endOf : GoodIn wsX11_openAt (wsV RX11 116 RX11 yX11_endOf wsX11_endOf) := goodIn_app (goodIn_of _ (by decide +kernel)) ggX11_openAt_X11_endOf
set_option maxRecDepth 20000 in
theorem ggX11_openAt_X11_roomOf : GoodIn wsX11_openAt wsX11_roomOf := goodIn_r _ [14, 1, 19, 20, 21, 22, 23, 24, 25, 26, 27, 28, 29, 30, 31, 32, 33, 34, 35, 36, 37] (by decide +kernel) (by decide +kernel)
set_option maxRecDepth 20000 in
theorem gX11_openAt_X11_roomOf : GoodIn wsX11_openAt (wsV RX11 113 RX11 yX11_roomOf wsX11_roomOf) := goodIn_app (goodIn_of _ (by decide +kernel)) ggX11_openAt_X11_roomOf
set_option maxRecDepth 20000 in
theorem ggX11_openAt_X11_isPlanked : GoodIn wsX11_openAt wsX11_isPlanked := goodIn_r _ [18, 1, 19, 20, 21, 22, 23, 24, 25, 26, 27, 28, 29, 30, 31, 32, 33, 34, 35, 36, 37] (by decide +kernel) (by decide +kernel)
set_option maxRecDepth 20000 in
theorem gX11_openAt_X11_isPlanked : GoodIn wsX11_openAt (wsV RX11 119 RX11 yX11_isPlanked wsX11_isPlanked) := goodIn_app (goodIn_of _ (by decide +kernel)) ggX11_openAt_X11_isPlanked
theorem dX11_openAt_0 : decode cX11_openAt 0 = .ok (.iconst 1, 1) := by decide +kernel
theorem dX11_openAt_1 : decode cX11_openAt 1 = .ok (.aload_n 0, 1) := by decide +kernel
theorem dX11_openAt_2 : decode cX11_openAt 2 = .ok (.getfield 13, 3) := by decide +kernel
theorem dX11_openAt_5 : decode cX11_openAt 5 = .ok (.iconst 0, 1) := by decide +kernel
theorem dX11_openAt_6 : decode cX11_openAt 6 = .ok (.iaload, 1) := by decide +kernel
theorem dX11_openAt_7 : decode cX11_openAt 7 = .ok (.ishl, 1) := by decide +kernel
theorem dX11_openAt_8 : decode cX11_openAt 8 = .ok (.iconst 1, 1) := by decide +kernel
theorem dX11_openAt_9 : decode cX11_openAt 9 = .ok (.isub, 1) := by decide +kernel
theorem dX11_openAt_10 : decode cX11_openAt 10 = .ok (.istore_n 3, 1) := by decide +kernel
theorem dX11_openAt_11 : decode cX11_openAt 11 = .ok (.iconst 0, 1) := by decide +kernel
theorem dX11_openAt_12 : decode cX11_openAt 12 = .ok (.istore 4, 2) := by decide +kernel
theorem dX11_openAt_14 : decode cX11_openAt 14 = .ok (.iload 4, 2) := by decide +kernel
theorem dX11_openAt_16 : decode cX11_openAt 16 = .ok (.iload_n 2, 1) := by decide +kernel
theorem dX11_openAt_17 : decode cX11_openAt 17 = .ok (.if_icmp .ge 106, 3) := by decide +kernel
theorem dX11_openAt_20 : decode cX11_openAt 20 = .ok (.iload_n 1, 1) := by decide +kernel
theorem dX11_openAt_21 : decode cX11_openAt 21 = .ok (.aload_n 0, 1) := by decide +kernel
theorem dX11_openAt_22 : decode cX11_openAt 22 = .ok (.iload 4, 2) := by decide +kernel
theorem dX11_openAt_24 : decode cX11_openAt 24 = .ok (.invokevirtual 110, 3) := by decide +kernel
theorem dX11_openAt_27 : decode cX11_openAt 27 = .ok (.if_icmp .lt 17, 3) := by decide +kernel
theorem dX11_openAt_30 : decode cX11_openAt 30 = .ok (.iload_n 1, 1) := by decide +kernel
theorem dX11_openAt_31 : decode cX11_openAt 31 = .ok (.aload_n 0, 1) := by decide +kernel
theorem dX11_openAt_32 : decode cX11_openAt 32 = .ok (.iload 4, 2) := by decide +kernel
theorem dX11_openAt_34 : decode cX11_openAt 34 = .ok (.invokevirtual 116, 3) := by decide +kernel
theorem dX11_openAt_37 : decode cX11_openAt 37 = .ok (.if_icmp .ge 7, 3) := by decide +kernel
theorem dX11_openAt_40 : decode cX11_openAt 40 = .ok (.iconst 1, 1) := by decide +kernel
theorem dX11_openAt_41 : decode cX11_openAt 41 = .ok (.goto 4, 3) := by decide +kernel
theorem dX11_openAt_44 : decode cX11_openAt 44 = .ok (.iconst 0, 1) := by decide +kernel
theorem dX11_openAt_45 : decode cX11_openAt 45 = .ok (.istore 5, 2) := by decide +kernel
theorem dX11_openAt_47 : decode cX11_openAt 47 = .ok (.iload_n 1, 1) := by decide +kernel
theorem dX11_openAt_48 : decode cX11_openAt 48 = .ok (.aload_n 0, 1) := by decide +kernel
theorem dX11_openAt_49 : decode cX11_openAt 49 = .ok (.iload 4, 2) := by decide +kernel
theorem dX11_openAt_51 : decode cX11_openAt 51 = .ok (.invokevirtual 116, 3) := by decide +kernel
theorem dX11_openAt_54 : decode cX11_openAt 54 = .ok (.if_icmp .lt 37, 3) := by decide +kernel
theorem dX11_openAt_57 : decode cX11_openAt 57 = .ok (.iload_n 1, 1) := by decide +kernel
theorem dX11_openAt_58 : decode cX11_openAt 58 = .ok (.aload_n 0, 1) := by decide +kernel
theorem dX11_openAt_59 : decode cX11_openAt 59 = .ok (.iload 4, 2) := by decide +kernel
theorem dX11_openAt_61 : decode cX11_openAt 61 = .ok (.invokevirtual 116, 3) := by decide +kernel
theorem dX11_openAt_64 : decode cX11_openAt 64 = .ok (.aload_n 0, 1) := by decide +kernel
theorem dX11_openAt_65 : decode cX11_openAt 65 = .ok (.getfield 13, 3) := by decide +kernel
theorem dX11_openAt_68 : decode cX11_openAt 68 = .ok (.iconst 4, 1) := by decide +kernel
theorem dX11_openAt_69 : decode cX11_openAt 69 = .ok (.iaload, 1) := by decide +kernel
theorem dX11_openAt_70 : decode cX11_openAt 70 = .ok (.iadd, 1) := by decide +kernel
theorem dX11_openAt_71 : decode cX11_openAt 71 = .ok (.if_icmp .ge 20, 3) := by decide +kernel
theorem dX11_openAt_74 : decode cX11_openAt 74 = .ok (.aload_n 0, 1) := by decide +kernel
theorem dX11_openAt_75 : decode cX11_openAt 75 = .ok (.aload_n 0, 1) := by decide +kernel
theorem dX11_openAt_76 : decode cX11_openAt 76 = .ok (.iload 4, 2) := by decide +kernel
theorem dX11_openAt_78 : decode cX11_openAt 78 = .ok (.invokevirtual 113, 3) := by decide +kernel
theorem dX11_openAt_81 : decode cX11_openAt 81 = .ok (.invokevirtual 119, 3) := by decide +kernel
theorem dX11_openAt_84 : decode cX11_openAt 84 = .ok (.ifCond .ne 7, 3) := by decide +kernel
theorem dX11_openAt_87 : decode cX11_openAt 87 = .ok (.iconst 1, 1) := by decide +kernel
theorem dX11_openAt_88 : decode cX11_openAt 88 = .ok (.goto 4, 3) := by decide +kernel
theorem dX11_openAt_91 : decode cX11_openAt 91 = .ok (.iconst 0, 1) := by decide +kernel
theorem dX11_openAt_92 : decode cX11_openAt 92 = .ok (.istore 6, 2) := by decide +kernel
theorem dX11_openAt_94 : decode cX11_openAt 94 = .ok (.iload 5, 2) := by decide +kernel
theorem dX11_openAt_96 : decode cX11_openAt 96 = .ok (.ifCond .ne 8, 3) := by decide +kernel
theorem dX11_openAt_99 : decode cX11_openAt 99 = .ok (.iload 6, 2) := by decide +kernel
theorem dX11_openAt_101 : decode cX11_openAt 101 = .ok (.ifCond .eq 16, 3) := by decide +kernel
theorem dX11_openAt_104 : decode cX11_openAt 104 = .ok (.iload_n 3, 1) := by decide +kernel
theorem dX11_openAt_105 : decode cX11_openAt 105 = .ok (.iconst 1, 1) := by decide +kernel
theorem dX11_openAt_106 : decode cX11_openAt 106 = .ok (.aload_n 0, 1) := by decide +kernel
theorem dX11_openAt_107 : decode cX11_openAt 107 = .ok (.iload 4, 2) := by decide +kernel
theorem dX11_openAt_109 : decode cX11_openAt 109 = .ok (.invokevirtual 113, 3) := by decide +kernel
theorem dX11_openAt_112 : decode cX11_openAt 112 = .ok (.ishl, 1) := by decide +kernel
theorem dX11_openAt_113 : decode cX11_openAt 113 = .ok (.iconst (-1), 1) := by decide +kernel
theorem dX11_openAt_114 : decode cX11_openAt 114 = .ok (.ixor, 1) := by decide +kernel
theorem dX11_openAt_115 : decode cX11_openAt 115 = .ok (.iand, 1) := by decide +kernel
theorem dX11_openAt_116 : decode cX11_openAt 116 = .ok (.istore_n 3, 1) := by decide +kernel
theorem dX11_openAt_117 : decode cX11_openAt 117 = .ok (.iinc 4 1, 3) := by decide +kernel
theorem dX11_openAt_120 : decode cX11_openAt 120 = .ok (.goto (-106), 3) := by decide +kernel
theorem dX11_openAt_123 : decode cX11_openAt 123 = .ok (.iload_n 3, 1) := by decide +kernel
theorem dX11_openAt_124 : decode cX11_openAt 124 = .ok (.ireturn, 1) := by decide +kernel
theorem dX11_besideOf_0 : decode cX11_besideOf 0 = .ok (.iconst 0, 1) := by decide +kernel
theorem dX11_besideOf_1 : decode cX11_besideOf 1 = .ok (.istore_n 2, 1) := by decide +kernel
theorem dX11_besideOf_2 : decode cX11_besideOf 2 = .ok (.iconst 0, 1) := by decide +kernel
theorem dX11_besideOf_3 : decode cX11_besideOf 3 = .ok (.istore_n 3, 1) := by decide +kernel
theorem dX11_besideOf_4 : decode cX11_besideOf 4 = .ok (.iload_n 3, 1) := by decide +kernel
theorem dX11_besideOf_5 : decode cX11_besideOf 5 = .ok (.aload_n 0, 1) := by decide +kernel
theorem dX11_besideOf_6 : decode cX11_besideOf 6 = .ok (.getfield 13, 3) := by decide +kernel
theorem dX11_besideOf_9 : decode cX11_besideOf 9 = .ok (.iconst 1, 1) := by decide +kernel
theorem dX11_besideOf_10 : decode cX11_besideOf 10 = .ok (.iaload, 1) := by decide +kernel
theorem dX11_besideOf_11 : decode cX11_besideOf 11 = .ok (.if_icmp .ge 75, 3) := by decide +kernel
theorem dX11_besideOf_14 : decode cX11_besideOf 14 = .ok (.aload_n 0, 1) := by decide +kernel
theorem dX11_besideOf_15 : decode cX11_besideOf 15 = .ok (.getfield 13, 3) := by decide +kernel
theorem dX11_besideOf_18 : decode cX11_besideOf 18 = .ok (.bipush 21, 2) := by decide +kernel
theorem dX11_besideOf_20 : decode cX11_besideOf 20 = .ok (.iconst 2, 1) := by decide +kernel
theorem dX11_besideOf_21 : decode cX11_besideOf 21 = .ok (.iload_n 3, 1) := by decide +kernel
theorem dX11_besideOf_22 : decode cX11_besideOf 22 = .ok (.imul, 1) := by decide +kernel
theorem dX11_besideOf_23 : decode cX11_besideOf 23 = .ok (.iadd, 1) := by decide +kernel
theorem dX11_besideOf_24 : decode cX11_besideOf 24 = .ok (.iaload, 1) := by decide +kernel
theorem dX11_besideOf_25 : decode cX11_besideOf 25 = .ok (.iload_n 1, 1) := by decide +kernel
theorem dX11_besideOf_26 : decode cX11_besideOf 26 = .ok (.if_icmp .ne 21, 3) := by decide +kernel
theorem dX11_besideOf_29 : decode cX11_besideOf 29 = .ok (.iload_n 2, 1) := by decide +kernel
theorem dX11_besideOf_30 : decode cX11_besideOf 30 = .ok (.iconst 1, 1) := by decide +kernel
theorem dX11_besideOf_31 : decode cX11_besideOf 31 = .ok (.aload_n 0, 1) := by decide +kernel
theorem dX11_besideOf_32 : decode cX11_besideOf 32 = .ok (.getfield 13, 3) := by decide +kernel
theorem dX11_besideOf_35 : decode cX11_besideOf 35 = .ok (.bipush 21, 2) := by decide +kernel
theorem dX11_besideOf_37 : decode cX11_besideOf 37 = .ok (.iconst 2, 1) := by decide +kernel
theorem dX11_besideOf_38 : decode cX11_besideOf 38 = .ok (.iload_n 3, 1) := by decide +kernel
theorem dX11_besideOf_39 : decode cX11_besideOf 39 = .ok (.imul, 1) := by decide +kernel
theorem dX11_besideOf_40 : decode cX11_besideOf 40 = .ok (.iadd, 1) := by decide +kernel
theorem dX11_besideOf_41 : decode cX11_besideOf 41 = .ok (.iconst 1, 1) := by decide +kernel
theorem dX11_besideOf_42 : decode cX11_besideOf 42 = .ok (.iadd, 1) := by decide +kernel
theorem dX11_besideOf_43 : decode cX11_besideOf 43 = .ok (.iaload, 1) := by decide +kernel
theorem dX11_besideOf_44 : decode cX11_besideOf 44 = .ok (.ishl, 1) := by decide +kernel
theorem dX11_besideOf_45 : decode cX11_besideOf 45 = .ok (.ior, 1) := by decide +kernel
theorem dX11_besideOf_46 : decode cX11_besideOf 46 = .ok (.istore_n 2, 1) := by decide +kernel
theorem dX11_besideOf_47 : decode cX11_besideOf 47 = .ok (.aload_n 0, 1) := by decide +kernel
theorem dX11_besideOf_48 : decode cX11_besideOf 48 = .ok (.getfield 13, 3) := by decide +kernel
theorem dX11_besideOf_51 : decode cX11_besideOf 51 = .ok (.bipush 21, 2) := by decide +kernel
theorem dX11_besideOf_53 : decode cX11_besideOf 53 = .ok (.iconst 2, 1) := by decide +kernel
theorem dX11_besideOf_54 : decode cX11_besideOf 54 = .ok (.iload_n 3, 1) := by decide +kernel
theorem dX11_besideOf_55 : decode cX11_besideOf 55 = .ok (.imul, 1) := by decide +kernel
theorem dX11_besideOf_56 : decode cX11_besideOf 56 = .ok (.iadd, 1) := by decide +kernel
theorem dX11_besideOf_57 : decode cX11_besideOf 57 = .ok (.iconst 1, 1) := by decide +kernel
theorem dX11_besideOf_58 : decode cX11_besideOf 58 = .ok (.iadd, 1) := by decide +kernel
theorem dX11_besideOf_59 : decode cX11_besideOf 59 = .ok (.iaload, 1) := by decide +kernel
theorem dX11_besideOf_60 : decode cX11_besideOf 60 = .ok (.iload_n 1, 1) := by decide +kernel
theorem dX11_besideOf_61 : decode cX11_besideOf 61 = .ok (.if_icmp .ne 19, 3) := by decide +kernel
theorem dX11_besideOf_64 : decode cX11_besideOf 64 = .ok (.iload_n 2, 1) := by decide +kernel
theorem dX11_besideOf_65 : decode cX11_besideOf 65 = .ok (.iconst 1, 1) := by decide +kernel
theorem dX11_besideOf_66 : decode cX11_besideOf 66 = .ok (.aload_n 0, 1) := by decide +kernel
theorem dX11_besideOf_67 : decode cX11_besideOf 67 = .ok (.getfield 13, 3) := by decide +kernel
theorem dX11_besideOf_70 : decode cX11_besideOf 70 = .ok (.bipush 21, 2) := by decide +kernel
theorem dX11_besideOf_72 : decode cX11_besideOf 72 = .ok (.iconst 2, 1) := by decide +kernel
theorem dX11_besideOf_73 : decode cX11_besideOf 73 = .ok (.iload_n 3, 1) := by decide +kernel
theorem dX11_besideOf_74 : decode cX11_besideOf 74 = .ok (.imul, 1) := by decide +kernel
theorem dX11_besideOf_75 : decode cX11_besideOf 75 = .ok (.iadd, 1) := by decide +kernel
theorem dX11_besideOf_76 : decode cX11_besideOf 76 = .ok (.iaload, 1) := by decide +kernel
theorem dX11_besideOf_77 : decode cX11_besideOf 77 = .ok (.ishl, 1) := by decide +kernel
theorem dX11_besideOf_78 : decode cX11_besideOf 78 = .ok (.ior, 1) := by decide +kernel
theorem dX11_besideOf_79 : decode cX11_besideOf 79 = .ok (.istore_n 2, 1) := by decide +kernel
theorem dX11_besideOf_80 : decode cX11_besideOf 80 = .ok (.iinc 3 1, 3) := by decide +kernel
theorem dX11_besideOf_83 : decode cX11_besideOf 83 = .ok (.goto (-79), 3) := by decide +kernel
theorem dX11_besideOf_86 : decode cX11_besideOf 86 = .ok (.iload_n 2, 1) := by decide +kernel
theorem dX11_besideOf_87 : decode cX11_besideOf 87 = .ok (.ireturn, 1) := by decide +kernel
set_option maxRecDepth 20000 in
theorem ggX11_wayOf_X11_besideOf : GoodIn wsX11_wayOf wsX11_besideOf := goodIn_r _ [6, 1, 7, 8, 9, 10, 11, 12, 13, 14, 15, 16, 17, 18, 19, 20, 21, 22, 23, 24, 25] (by decide +kernel) (by decide +kernel)
set_option maxRecDepth 20000 in
theorem gX11_wayOf_X11_besideOf : GoodIn wsX11_wayOf (wsV RX11 122 RX11 yX11_besideOf wsX11_besideOf) := goodIn_app (goodIn_of _ (by decide +kernel)) ggX11_wayOf_X11_besideOf
theorem dX11_wayOf_0 : decode cX11_wayOf 0 = .ok (.iconst 1, 1) := by decide +kernel
theorem dX11_wayOf_1 : decode cX11_wayOf 1 = .ok (.iload_n 1, 1) := by decide +kernel
theorem dX11_wayOf_2 : decode cX11_wayOf 2 = .ok (.ishl, 1) := by decide +kernel
theorem dX11_wayOf_3 : decode cX11_wayOf 3 = .ok (.iload_n 3, 1) := by decide +kernel
theorem dX11_wayOf_4 : decode cX11_wayOf 4 = .ok (.iand, 1) := by decide +kernel
theorem dX11_wayOf_5 : decode cX11_wayOf 5 = .ok (.istore 4, 2) := by decide +kernel
theorem dX11_wayOf_7 : decode cX11_wayOf 7 = .ok (.iconst 0, 1) := by decide +kernel
theorem dX11_wayOf_8 : decode cX11_wayOf 8 = .ok (.istore 5, 2) := by decide +kernel
theorem dX11_wayOf_10 : decode cX11_wayOf 10 = .ok (.iload 5, 2) := by decide +kernel
theorem dX11_wayOf_12 : decode cX11_wayOf 12 = .ok (.bipush 6, 2) := by decide +kernel
theorem dX11_wayOf_14 : decode cX11_wayOf 14 = .ok (.if_icmp .ge 74, 3) := by decide +kernel
theorem dX11_wayOf_17 : decode cX11_wayOf 17 = .ok (.iload 4, 2) := by decide +kernel
theorem dX11_wayOf_19 : decode cX11_wayOf 19 = .ok (.iload_n 2, 1) := by decide +kernel
theorem dX11_wayOf_20 : decode cX11_wayOf 20 = .ok (.ishr, 1) := by decide +kernel
theorem dX11_wayOf_21 : decode cX11_wayOf 21 = .ok (.iconst 1, 1) := by decide +kernel
theorem dX11_wayOf_22 : decode cX11_wayOf 22 = .ok (.iand, 1) := by decide +kernel
theorem dX11_wayOf_23 : decode cX11_wayOf 23 = .ok (.iconst 1, 1) := by decide +kernel
theorem dX11_wayOf_24 : decode cX11_wayOf 24 = .ok (.if_icmp .ne 6, 3) := by decide +kernel
theorem dX11_wayOf_27 : decode cX11_wayOf 27 = .ok (.iload 5, 2) := by decide +kernel
theorem dX11_wayOf_29 : decode cX11_wayOf 29 = .ok (.ireturn, 1) := by decide +kernel
theorem dX11_wayOf_30 : decode cX11_wayOf 30 = .ok (.iload 4, 2) := by decide +kernel
theorem dX11_wayOf_32 : decode cX11_wayOf 32 = .ok (.istore 6, 2) := by decide +kernel
theorem dX11_wayOf_34 : decode cX11_wayOf 34 = .ok (.iconst 0, 1) := by decide +kernel
theorem dX11_wayOf_35 : decode cX11_wayOf 35 = .ok (.istore 7, 2) := by decide +kernel
theorem dX11_wayOf_37 : decode cX11_wayOf 37 = .ok (.iload 7, 2) := by decide +kernel
theorem dX11_wayOf_39 : decode cX11_wayOf 39 = .ok (.aload_n 0, 1) := by decide +kernel
theorem dX11_wayOf_40 : decode cX11_wayOf 40 = .ok (.getfield 13, 3) := by decide +kernel
theorem dX11_wayOf_43 : decode cX11_wayOf 43 = .ok (.iconst 0, 1) := by decide +kernel
theorem dX11_wayOf_44 : decode cX11_wayOf 44 = .ok (.iaload, 1) := by decide +kernel
theorem dX11_wayOf_45 : decode cX11_wayOf 45 = .ok (.if_icmp .ge 33, 3) := by decide +kernel
theorem dX11_wayOf_48 : decode cX11_wayOf 48 = .ok (.iload 4, 2) := by decide +kernel
theorem dX11_wayOf_50 : decode cX11_wayOf 50 = .ok (.iload 7, 2) := by decide +kernel
theorem dX11_wayOf_52 : decode cX11_wayOf 52 = .ok (.ishr, 1) := by decide +kernel
theorem dX11_wayOf_53 : decode cX11_wayOf 53 = .ok (.iconst 1, 1) := by decide +kernel
theorem dX11_wayOf_54 : decode cX11_wayOf 54 = .ok (.iand, 1) := by decide +kernel
theorem dX11_wayOf_55 : decode cX11_wayOf 55 = .ok (.iconst 1, 1) := by decide +kernel
theorem dX11_wayOf_56 : decode cX11_wayOf 56 = .ok (.if_icmp .ne 16, 3) := by decide +kernel
theorem dX11_wayOf_59 : decode cX11_wayOf 59 = .ok (.iload 6, 2) := by decide +kernel
theorem dX11_wayOf_61 : decode cX11_wayOf 61 = .ok (.aload_n 0, 1) := by decide +kernel
theorem dX11_wayOf_62 : decode cX11_wayOf 62 = .ok (.iload 7, 2) := by decide +kernel
theorem dX11_wayOf_64 : decode cX11_wayOf 64 = .ok (.invokevirtual 122, 3) := by decide +kernel
theorem dX11_wayOf_67 : decode cX11_wayOf 67 = .ok (.iload_n 3, 1) := by decide +kernel
theorem dX11_wayOf_68 : decode cX11_wayOf 68 = .ok (.iand, 1) := by decide +kernel
theorem dX11_wayOf_69 : decode cX11_wayOf 69 = .ok (.ior, 1) := by decide +kernel
theorem dX11_wayOf_70 : decode cX11_wayOf 70 = .ok (.istore 6, 2) := by decide +kernel
theorem dX11_wayOf_72 : decode cX11_wayOf 72 = .ok (.iinc 7 1, 3) := by decide +kernel
theorem dX11_wayOf_75 : decode cX11_wayOf 75 = .ok (.goto (-38), 3) := by decide +kernel
theorem dX11_wayOf_78 : decode cX11_wayOf 78 = .ok (.iload 6, 2) := by decide +kernel
theorem dX11_wayOf_80 : decode cX11_wayOf 80 = .ok (.istore 4, 2) := by decide +kernel
theorem dX11_wayOf_82 : decode cX11_wayOf 82 = .ok (.iinc 5 1, 3) := by decide +kernel
theorem dX11_wayOf_85 : decode cX11_wayOf 85 = .ok (.goto (-75), 3) := by decide +kernel
theorem dX11_wayOf_88 : decode cX11_wayOf 88 = .ok (.bipush (-9), 2) := by decide +kernel
theorem dX11_wayOf_90 : decode cX11_wayOf 90 = .ok (.ireturn, 1) := by decide +kernel
set_option maxRecDepth 20000 in
theorem ggX11_comesTo_X11_wayOf : GoodIn wsX11_comesTo wsX11_wayOf := goodIn_r _ [5, 6, 7, 8, 9, 4, 10, 11, 12, 13, 14, 15, 16, 17, 18, 19, 20, 21, 22, 23, 24, 25, 26, 27, 28, 29] (by decide +kernel) (by decide +kernel)
set_option maxRecDepth 20000 in
theorem gX11_comesTo_X11_wayOf : GoodIn wsX11_comesTo (wsV RX11 125 RX11 yX11_wayOf wsX11_wayOf) := goodIn_app (goodIn_of _ (by decide +kernel)) ggX11_comesTo_X11_wayOf
theorem dX11_comesTo_0 : decode cX11_comesTo 0 = .ok (.aload_n 0, 1) := by decide +kernel
theorem dX11_comesTo_1 : decode cX11_comesTo 1 = .ok (.iload_n 1, 1) := by decide +kernel
theorem dX11_comesTo_2 : decode cX11_comesTo 2 = .ok (.iload_n 2, 1) := by decide +kernel
theorem dX11_comesTo_3 : decode cX11_comesTo 3 = .ok (.iload_n 3, 1) := by decide +kernel
theorem dX11_comesTo_4 : decode cX11_comesTo 4 = .ok (.invokevirtual 125, 3) := by decide +kernel
theorem dX11_comesTo_7 : decode cX11_comesTo 7 = .ok (.ifCond .lt 7, 3) := by decide +kernel
theorem dX11_comesTo_10 : decode cX11_comesTo 10 = .ok (.iconst 1, 1) := by decide +kernel
theorem dX11_comesTo_11 : decode cX11_comesTo 11 = .ok (.goto 4, 3) := by decide +kernel
theorem dX11_comesTo_14 : decode cX11_comesTo 14 = .ok (.iconst 0, 1) := by decide +kernel
theorem dX11_comesTo_15 : decode cX11_comesTo 15 = .ok (.ireturn, 1) := by decide +kernel
set_option maxRecDepth 20000 in
theorem ggX11_whereOf_X11_goesOut : GoodIn wsX11_whereOf wsX11_goesOut := goodIn_r _ [5, 6, 7, 8, 9, 4, 10, 11, 12, 13, 14, 15, 16, 17, 18, 19, 20, 21, 22, 23, 24, 25, 26, 27, 28, 29, 30, 31, 32, 33, 34, 35, 36, 37, 38, 39, 40, 41, 42, 43, 44, 45, 46, 47, 48, 49] (by decide +kernel) (by decide +kernel)
set_option maxRecDepth 20000 in
theorem gX11_whereOf_X11_goesOut : GoodIn wsX11_whereOf (wsV RX11 128 RX11 yX11_goesOut wsX11_goesOut) := goodIn_app (goodIn_of _ (by decide +kernel)) ggX11_whereOf_X11_goesOut
theorem dX11_whereOf_0 : decode cX11_whereOf 0 = .ok (.iload_n 1, 1) := by decide +kernel
theorem dX11_whereOf_1 : decode cX11_whereOf 1 = .ok (.ifCond .ne 7, 3) := by decide +kernel
theorem dX11_whereOf_4 : decode cX11_whereOf 4 = .ok (.iconst 0, 1) := by decide +kernel
theorem dX11_whereOf_5 : decode cX11_whereOf 5 = .ok (.goto 10, 3) := by decide +kernel
theorem dX11_whereOf_8 : decode cX11_whereOf 8 = .ok (.aload_n 0, 1) := by decide +kernel
theorem dX11_whereOf_9 : decode cX11_whereOf 9 = .ok (.iload_n 1, 1) := by decide +kernel
theorem dX11_whereOf_10 : decode cX11_whereOf 10 = .ok (.iconst 1, 1) := by decide +kernel
theorem dX11_whereOf_11 : decode cX11_whereOf 11 = .ok (.isub, 1) := by decide +kernel
theorem dX11_whereOf_12 : decode cX11_whereOf 12 = .ok (.invokevirtual 128, 3) := by decide +kernel
theorem dX11_whereOf_15 : decode cX11_whereOf 15 = .ok (.ireturn, 1) := by decide +kernel
set_option maxRecDepth 20000 in
theorem ggX11_goesOut_X11_roomOf : GoodIn wsX11_goesOut wsX11_roomOf := goodIn_r _ [6, 1, 27, 28, 29, 30, 31, 32, 33, 34, 35, 36, 37, 38, 39, 40, 41, 42, 43, 44, 45] (by decide +kernel) (by decide +kernel)
set_option maxRecDepth 20000 in
theorem gX11_goesOut_X11_roomOf : GoodIn wsX11_goesOut (wsV RX11 113 RX11 yX11_roomOf wsX11_roomOf) := goodIn_app (goodIn_of _ (by decide +kernel)) ggX11_goesOut_X11_roomOf
set_option maxRecDepth 20000 in
theorem ggX11_goesOut_X11_besideOf : GoodIn wsX11_goesOut wsX11_besideOf := goodIn_r _ [10, 1, 27, 28, 29, 30, 31, 32, 33, 34, 35, 36, 37, 38, 39, 40, 41, 42, 43, 44, 45] (by decide +kernel) (by decide +kernel)
set_option maxRecDepth 20000 in
theorem gX11_goesOut_X11_besideOf : GoodIn wsX11_goesOut (wsV RX11 122 RX11 yX11_besideOf wsX11_besideOf) := goodIn_app (goodIn_of _ (by decide +kernel)) ggX11_goesOut_X11_besideOf
set_option maxRecDepth 20000 in
theorem ggX11_goesOut_X11_endOf : GoodIn wsX11_goesOut wsX11_endOf := goodIn_r _ [14, 1, 15, 16, 17, 5, 18, 2, 3, 4, 6, 27, 28, 29, 30, 31, 32, 33, 34, 35, 36, 37, 38, 39, 40, 41, 42, 43, 44, 45] (by decide +kernel) (by decide +kernel)
set_option maxRecDepth 20000 in
theorem gX11_goesOut_X11_endOf : GoodIn wsX11_goesOut (wsV RX11 116 RX11 yX11_endOf wsX11_endOf) := goodIn_app (goodIn_of _ (by decide +kernel)) ggX11_goesOut_X11_endOf
set_option maxRecDepth 20000 in
theorem ggX11_goesOut_X11_openAt : GoodIn wsX11_goesOut wsX11_openAt := goodIn_r _ [22, 1, 15, 16, 17, 5, 18, 11, 12, 13, 14, 2, 3, 4, 6, 23, 24, 25, 26, 27, 28, 29, 30, 31, 32, 33, 34, 35, 36, 37, 38, 39, 40, 41, 42, 43, 44, 45] (by decide +kernel) (by decide +kernel)
set_option maxRecDepth 20000 in
theorem gX11_goesOut_X11_openAt : GoodIn wsX11_goesOut (wsV RX11 131 RX11 yX11_openAt wsX11_openAt) := goodIn_app (goodIn_of _ (by decide +kernel)) ggX11_goesOut_X11_openAt
theorem dX11_goesOut_0 : decode cX11_goesOut 0 = .ok (.aload_n 0, 1) := by decide +kernel
theorem dX11_goesOut_1 : decode cX11_goesOut 1 = .ok (.aload_n 0, 1) := by decide +kernel
theorem dX11_goesOut_2 : decode cX11_goesOut 2 = .ok (.iload_n 1, 1) := by decide +kernel
theorem dX11_goesOut_3 : decode cX11_goesOut 3 = .ok (.invokevirtual 113, 3) := by decide +kernel
theorem dX11_goesOut_6 : decode cX11_goesOut 6 = .ok (.invokevirtual 122, 3) := by decide +kernel
theorem dX11_goesOut_9 : decode cX11_goesOut 9 = .ok (.aload_n 0, 1) := by decide +kernel
theorem dX11_goesOut_10 : decode cX11_goesOut 10 = .ok (.aload_n 0, 1) := by decide +kernel
theorem dX11_goesOut_11 : decode cX11_goesOut 11 = .ok (.iload_n 1, 1) := by decide +kernel
theorem dX11_goesOut_12 : decode cX11_goesOut 12 = .ok (.invokevirtual 116, 3) := by decide +kernel
theorem dX11_goesOut_15 : decode cX11_goesOut 15 = .ok (.iload_n 1, 1) := by decide +kernel
theorem dX11_goesOut_16 : decode cX11_goesOut 16 = .ok (.iconst 1, 1) := by decide +kernel
theorem dX11_goesOut_17 : decode cX11_goesOut 17 = .ok (.iadd, 1) := by decide +kernel
theorem dX11_goesOut_18 : decode cX11_goesOut 18 = .ok (.invokevirtual 131, 3) := by decide +kernel
theorem dX11_goesOut_21 : decode cX11_goesOut 21 = .ok (.iand, 1) := by decide +kernel
theorem dX11_goesOut_22 : decode cX11_goesOut 22 = .ok (.istore_n 2, 1) := by decide +kernel
theorem dX11_goesOut_23 : decode cX11_goesOut 23 = .ok (.iconst 0, 1) := by decide +kernel
theorem dX11_goesOut_24 : decode cX11_goesOut 24 = .ok (.istore_n 3, 1) := by decide +kernel
theorem dX11_goesOut_25 : decode cX11_goesOut 25 = .ok (.iload_n 3, 1) := by decide +kernel
theorem dX11_goesOut_26 : decode cX11_goesOut 26 = .ok (.aload_n 0, 1) := by decide +kernel
theorem dX11_goesOut_27 : decode cX11_goesOut 27 = .ok (.getfield 13, 3) := by decide +kernel
theorem dX11_goesOut_30 : decode cX11_goesOut 30 = .ok (.iconst 0, 1) := by decide +kernel
theorem dX11_goesOut_31 : decode cX11_goesOut 31 = .ok (.iaload, 1) := by decide +kernel
theorem dX11_goesOut_32 : decode cX11_goesOut 32 = .ok (.if_icmp .ge 20, 3) := by decide +kernel
theorem dX11_goesOut_35 : decode cX11_goesOut 35 = .ok (.iload_n 2, 1) := by decide +kernel
theorem dX11_goesOut_36 : decode cX11_goesOut 36 = .ok (.iload_n 3, 1) := by decide +kernel
theorem dX11_goesOut_37 : decode cX11_goesOut 37 = .ok (.ishr, 1) := by decide +kernel
theorem dX11_goesOut_38 : decode cX11_goesOut 38 = .ok (.iconst 1, 1) := by decide +kernel
theorem dX11_goesOut_39 : decode cX11_goesOut 39 = .ok (.iand, 1) := by decide +kernel
theorem dX11_goesOut_40 : decode cX11_goesOut 40 = .ok (.iconst 1, 1) := by decide +kernel
theorem dX11_goesOut_41 : decode cX11_goesOut 41 = .ok (.if_icmp .ne 5, 3) := by decide +kernel
theorem dX11_goesOut_44 : decode cX11_goesOut 44 = .ok (.iload_n 3, 1) := by decide +kernel
theorem dX11_goesOut_45 : decode cX11_goesOut 45 = .ok (.ireturn, 1) := by decide +kernel
theorem dX11_goesOut_46 : decode cX11_goesOut 46 = .ok (.iinc 3 1, 3) := by decide +kernel
theorem dX11_goesOut_49 : decode cX11_goesOut 49 = .ok (.goto (-24), 3) := by decide +kernel
theorem dX11_goesOut_52 : decode cX11_goesOut 52 = .ok (.aload_n 0, 1) := by decide +kernel
theorem dX11_goesOut_53 : decode cX11_goesOut 53 = .ok (.iload_n 1, 1) := by decide +kernel
theorem dX11_goesOut_54 : decode cX11_goesOut 54 = .ok (.invokevirtual 113, 3) := by decide +kernel
theorem dX11_goesOut_57 : decode cX11_goesOut 57 = .ok (.ireturn, 1) := by decide +kernel
set_option maxRecDepth 20000 in
theorem ggX11_isShutIn_X11_goesOut : GoodIn wsX11_isShutIn wsX11_goesOut := goodIn_r _ [5, 6, 7, 8, 9, 4, 10, 11, 12, 13, 14, 15, 16, 17, 18, 19, 20, 21, 22, 23, 24, 25, 26, 27, 28, 29, 30, 31, 32, 33, 34, 35, 36, 37, 38, 39, 40, 41, 42, 43, 44, 45, 46, 47, 48, 49] (by decide +kernel) (by decide +kernel)
set_option maxRecDepth 20000 in
theorem gX11_isShutIn_X11_goesOut : GoodIn wsX11_isShutIn (wsV RX11 128 RX11 yX11_goesOut wsX11_goesOut) := goodIn_app (goodIn_of _ (by decide +kernel)) ggX11_isShutIn_X11_goesOut
set_option maxRecDepth 20000 in
theorem ggX11_isShutIn_X11_roomOf : GoodIn wsX11_isShutIn wsX11_roomOf := goodIn_r _ [10, 6, 31, 32, 33, 34, 35, 36, 37, 38, 39, 40, 41, 42, 43, 44, 45, 46, 47, 48, 49] (by decide +kernel) (by decide +kernel)
set_option maxRecDepth 20000 in
theorem gX11_isShutIn_X11_roomOf : GoodIn wsX11_isShutIn (wsV RX11 113 RX11 yX11_roomOf wsX11_roomOf) := goodIn_app (goodIn_of _ (by decide +kernel)) ggX11_isShutIn_X11_roomOf
theorem dX11_isShutIn_0 : decode cX11_isShutIn 0 = .ok (.aload_n 0, 1) := by decide +kernel
theorem dX11_isShutIn_1 : decode cX11_isShutIn 1 = .ok (.iload_n 1, 1) := by decide +kernel
theorem dX11_isShutIn_2 : decode cX11_isShutIn 2 = .ok (.invokevirtual 128, 3) := by decide +kernel
theorem dX11_isShutIn_5 : decode cX11_isShutIn 5 = .ok (.aload_n 0, 1) := by decide +kernel
theorem dX11_isShutIn_6 : decode cX11_isShutIn 6 = .ok (.iload_n 1, 1) := by decide +kernel
theorem dX11_isShutIn_7 : decode cX11_isShutIn 7 = .ok (.invokevirtual 113, 3) := by decide +kernel
theorem dX11_isShutIn_10 : decode cX11_isShutIn 10 = .ok (.if_icmp .ne 7, 3) := by decide +kernel
theorem dX11_isShutIn_13 : decode cX11_isShutIn 13 = .ok (.iconst 1, 1) := by decide +kernel
theorem dX11_isShutIn_14 : decode cX11_isShutIn 14 = .ok (.goto 4, 3) := by decide +kernel
theorem dX11_isShutIn_17 : decode cX11_isShutIn 17 = .ok (.iconst 0, 1) := by decide +kernel
theorem dX11_isShutIn_18 : decode cX11_isShutIn 18 = .ok (.ireturn, 1) := by decide +kernel
set_option maxRecDepth 20000 in
theorem ggX11_isFresh_X11_roomOf : GoodIn wsX11_isFresh wsX11_roomOf := goodIn_r _ [6, 1, 15, 16, 17, 18, 19, 20, 21, 22, 23, 24, 25, 26, 27, 28, 29, 30, 31, 32, 33] (by decide +kernel) (by decide +kernel)
set_option maxRecDepth 20000 in
theorem gX11_isFresh_X11_roomOf : GoodIn wsX11_isFresh (wsV RX11 113 RX11 yX11_roomOf wsX11_roomOf) := goodIn_app (goodIn_of _ (by decide +kernel)) ggX11_isFresh_X11_roomOf
set_option maxRecDepth 20000 in
theorem ggX11_isFresh_X11_hourOf : GoodIn wsX11_isFresh wsX11_hourOf := goodIn_r _ [10, 1, 15, 16, 17, 18, 19, 20, 21, 22, 23, 24, 25, 26, 27, 28, 29, 30, 31, 32, 33] (by decide +kernel) (by decide +kernel)
set_option maxRecDepth 20000 in
theorem gX11_isFresh_X11_hourOf : GoodIn wsX11_isFresh (wsV RX11 110 RX11 yX11_hourOf wsX11_hourOf) := goodIn_app (goodIn_of _ (by decide +kernel)) ggX11_isFresh_X11_hourOf
set_option maxRecDepth 20000 in
theorem ggX11_isFresh_X11_endOf : GoodIn wsX11_isFresh wsX11_endOf := goodIn_r _ [14, 1, 7, 8, 9, 5, 10, 2, 3, 4, 6, 15, 16, 17, 18, 19, 20, 21, 22, 23, 24, 25, 26, 27, 28, 29, 30, 31, 32, 33] (by decide +kernel) (by decide +kernel)
set_option maxRecDepth 20000 in
theorem gX11_isFresh_X11_endOf : GoodIn wsX11_isFresh (wsV RX11 116 RX11 yX11_endOf wsX11_endOf) := goodIn_app (goodIn_of _ (by decide +kernel)) ggX11_isFresh_X11_endOf
theorem dX11_isFresh_0 : decode cX11_isFresh 0 = .ok (.iconst 0, 1) := by decide +kernel
theorem dX11_isFresh_1 : decode cX11_isFresh 1 = .ok (.istore 4, 2) := by decide +kernel
theorem dX11_isFresh_3 : decode cX11_isFresh 3 = .ok (.iload 4, 2) := by decide +kernel
theorem dX11_isFresh_5 : decode cX11_isFresh 5 = .ok (.iload_n 3, 1) := by decide +kernel
theorem dX11_isFresh_6 : decode cX11_isFresh 6 = .ok (.if_icmp .ge 55, 3) := by decide +kernel
theorem dX11_isFresh_9 : decode cX11_isFresh 9 = .ok (.aload_n 0, 1) := by decide +kernel
theorem dX11_isFresh_10 : decode cX11_isFresh 10 = .ok (.iload 4, 2) := by decide +kernel
theorem dX11_isFresh_12 : decode cX11_isFresh 12 = .ok (.invokevirtual 113, 3) := by decide +kernel
theorem dX11_isFresh_15 : decode cX11_isFresh 15 = .ok (.iload_n 1, 1) := by decide +kernel
theorem dX11_isFresh_16 : decode cX11_isFresh 16 = .ok (.if_icmp .ne 39, 3) := by decide +kernel
theorem dX11_isFresh_19 : decode cX11_isFresh 19 = .ok (.iload_n 2, 1) := by decide +kernel
theorem dX11_isFresh_20 : decode cX11_isFresh 20 = .ok (.aload_n 0, 1) := by decide +kernel
theorem dX11_isFresh_21 : decode cX11_isFresh 21 = .ok (.iload 4, 2) := by decide +kernel
theorem dX11_isFresh_23 : decode cX11_isFresh 23 = .ok (.invokevirtual 110, 3) := by decide +kernel
theorem dX11_isFresh_26 : decode cX11_isFresh 26 = .ok (.if_icmp .lt 29, 3) := by decide +kernel
theorem dX11_isFresh_29 : decode cX11_isFresh 29 = .ok (.iload_n 2, 1) := by decide +kernel
theorem dX11_isFresh_30 : decode cX11_isFresh 30 = .ok (.aload_n 0, 1) := by decide +kernel
theorem dX11_isFresh_31 : decode cX11_isFresh 31 = .ok (.iload 4, 2) := by decide +kernel
theorem dX11_isFresh_33 : decode cX11_isFresh 33 = .ok (.invokevirtual 116, 3) := by decide +kernel
theorem dX11_isFresh_36 : decode cX11_isFresh 36 = .ok (.aload_n 0, 1) := by decide +kernel
theorem dX11_isFresh_37 : decode cX11_isFresh 37 = .ok (.getfield 13, 3) := by decide +kernel
theorem dX11_isFresh_40 : decode cX11_isFresh 40 = .ok (.iconst 4, 1) := by decide +kernel
theorem dX11_isFresh_41 : decode cX11_isFresh 41 = .ok (.iaload, 1) := by decide +kernel
theorem dX11_isFresh_42 : decode cX11_isFresh 42 = .ok (.iadd, 1) := by decide +kernel
theorem dX11_isFresh_43 : decode cX11_isFresh 43 = .ok (.aload_n 0, 1) := by decide +kernel
theorem dX11_isFresh_44 : decode cX11_isFresh 44 = .ok (.getfield 13, 3) := by decide +kernel
theorem dX11_isFresh_47 : decode cX11_isFresh 47 = .ok (.iconst 5, 1) := by decide +kernel
theorem dX11_isFresh_48 : decode cX11_isFresh 48 = .ok (.iaload, 1) := by decide +kernel
theorem dX11_isFresh_49 : decode cX11_isFresh 49 = .ok (.iadd, 1) := by decide +kernel
theorem dX11_isFresh_50 : decode cX11_isFresh 50 = .ok (.if_icmp .ge 5, 3) := by decide +kernel
theorem dX11_isFresh_53 : decode cX11_isFresh 53 = .ok (.iconst 1, 1) := by decide +kernel
theorem dX11_isFresh_54 : decode cX11_isFresh 54 = .ok (.ireturn, 1) := by decide +kernel
theorem dX11_isFresh_55 : decode cX11_isFresh 55 = .ok (.iinc 4 1, 3) := by decide +kernel
theorem dX11_isFresh_58 : decode cX11_isFresh 58 = .ok (.goto (-55), 3) := by decide +kernel
theorem dX11_isFresh_61 : decode cX11_isFresh 61 = .ok (.iconst 0, 1) := by decide +kernel
theorem dX11_isFresh_62 : decode cX11_isFresh 62 = .ok (.ireturn, 1) := by decide +kernel
set_option maxRecDepth 20000 in
theorem ggX11_coatsOf_X11_roomOf : GoodIn wsX11_coatsOf wsX11_roomOf := goodIn_r _ [5, 6, 7, 8, 9, 10, 11, 12, 13, 14, 15, 16, 17, 18, 19, 20, 21, 22, 23, 24, 25] (by decide +kernel) (by decide +kernel)
set_option maxRecDepth 20000 in
theorem gX11_coatsOf_X11_roomOf : GoodIn wsX11_coatsOf (wsV RX11 113 RX11 yX11_roomOf wsX11_roomOf) := goodIn_app (goodIn_of _ (by decide +kernel)) ggX11_coatsOf_X11_roomOf
theorem dX11_coatsOf_0 : decode cX11_coatsOf 0 = .ok (.iconst 0, 1) := by decide +kernel
theorem dX11_coatsOf_1 : decode cX11_coatsOf 1 = .ok (.istore_n 3, 1) := by decide +kernel
theorem dX11_coatsOf_2 : decode cX11_coatsOf 2 = .ok (.iconst 0, 1) := by decide +kernel
theorem dX11_coatsOf_3 : decode cX11_coatsOf 3 = .ok (.istore 4, 2) := by decide +kernel
theorem dX11_coatsOf_5 : decode cX11_coatsOf 5 = .ok (.iload 4, 2) := by decide +kernel
theorem dX11_coatsOf_7 : decode cX11_coatsOf 7 = .ok (.iload_n 2, 1) := by decide +kernel
theorem dX11_coatsOf_8 : decode cX11_coatsOf 8 = .ok (.if_icmp .ge 27, 3) := by decide +kernel
theorem dX11_coatsOf_11 : decode cX11_coatsOf 11 = .ok (.iload_n 3, 1) := by decide +kernel
theorem dX11_coatsOf_12 : decode cX11_coatsOf 12 = .ok (.aload_n 0, 1) := by decide +kernel
theorem dX11_coatsOf_13 : decode cX11_coatsOf 13 = .ok (.iload 4, 2) := by decide +kernel
theorem dX11_coatsOf_15 : decode cX11_coatsOf 15 = .ok (.invokevirtual 113, 3) := by decide +kernel
theorem dX11_coatsOf_18 : decode cX11_coatsOf 18 = .ok (.iload_n 1, 1) := by decide +kernel
theorem dX11_coatsOf_19 : decode cX11_coatsOf 19 = .ok (.if_icmp .ne 7, 3) := by decide +kernel
theorem dX11_coatsOf_22 : decode cX11_coatsOf 22 = .ok (.iconst 1, 1) := by decide +kernel
theorem dX11_coatsOf_23 : decode cX11_coatsOf 23 = .ok (.goto 4, 3) := by decide +kernel
theorem dX11_coatsOf_26 : decode cX11_coatsOf 26 = .ok (.iconst 0, 1) := by decide +kernel
theorem dX11_coatsOf_27 : decode cX11_coatsOf 27 = .ok (.iadd, 1) := by decide +kernel
theorem dX11_coatsOf_28 : decode cX11_coatsOf 28 = .ok (.istore_n 3, 1) := by decide +kernel
theorem dX11_coatsOf_29 : decode cX11_coatsOf 29 = .ok (.iinc 4 1, 3) := by decide +kernel
theorem dX11_coatsOf_32 : decode cX11_coatsOf 32 = .ok (.goto (-27), 3) := by decide +kernel
theorem dX11_coatsOf_35 : decode cX11_coatsOf 35 = .ok (.iload_n 3, 1) := by decide +kernel
theorem dX11_coatsOf_36 : decode cX11_coatsOf 36 = .ok (.ireturn, 1) := by decide +kernel
set_option maxRecDepth 20000 in
theorem ggX11_isLate_X11_roomOf : GoodIn wsX11_isLate wsX11_roomOf := goodIn_r _ [6, 1, 15, 16, 17, 18, 19, 20, 21, 22, 23, 24, 25, 26, 27, 28, 29, 30, 31, 32, 33] (by decide +kernel) (by decide +kernel)
set_option maxRecDepth 20000 in
theorem gX11_isLate_X11_roomOf : GoodIn wsX11_isLate (wsV RX11 113 RX11 yX11_roomOf wsX11_roomOf) := goodIn_app (goodIn_of _ (by decide +kernel)) ggX11_isLate_X11_roomOf
set_option maxRecDepth 20000 in
theorem ggX11_isLate_X11_hourOf : GoodIn wsX11_isLate wsX11_hourOf := goodIn_r _ [10, 1, 15, 16, 17, 18, 19, 20, 21, 22, 23, 24, 25, 26, 27, 28, 29, 30, 31, 32, 33] (by decide +kernel) (by decide +kernel)
set_option maxRecDepth 20000 in
theorem gX11_isLate_X11_hourOf : GoodIn wsX11_isLate (wsV RX11 110 RX11 yX11_hourOf wsX11_hourOf) := goodIn_app (goodIn_of _ (by decide +kernel)) ggX11_isLate_X11_hourOf
set_option maxRecDepth 20000 in
theorem ggX11_isLate_X11_endOf : GoodIn wsX11_isLate wsX11_endOf := goodIn_r _ [14, 1, 7, 8, 9, 5, 10, 2, 3, 4, 6, 15, 16, 17, 18, 19, 20, 21, 22, 23, 24, 25, 26, 27, 28, 29, 30, 31, 32, 33] (by decide +kernel) (by decide +kernel)
set_option maxRecDepth 20000 in
theorem gX11_isLate_X11_endOf : GoodIn wsX11_isLate (wsV RX11 116 RX11 yX11_endOf wsX11_endOf) := goodIn_app (goodIn_of _ (by decide +kernel)) ggX11_isLate_X11_endOf
theorem dX11_isLate_0 : decode cX11_isLate 0 = .ok (.bipush (-9), 2) := by decide +kernel
theorem dX11_isLate_2 : decode cX11_isLate 2 = .ok (.istore_n 2, 1) := by decide +kernel
theorem dX11_isLate_3 : decode cX11_isLate 3 = .ok (.iconst 0, 1) := by decide +kernel
theorem dX11_isLate_4 : decode cX11_isLate 4 = .ok (.istore_n 3, 1) := by decide +kernel
theorem dX11_isLate_5 : decode cX11_isLate 5 = .ok (.iload_n 3, 1) := by decide +kernel
theorem dX11_isLate_6 : decode cX11_isLate 6 = .ok (.iload_n 1, 1) := by decide +kernel
theorem dX11_isLate_7 : decode cX11_isLate 7 = .ok (.if_icmp .ge 28, 3) := by decide +kernel
theorem dX11_isLate_10 : decode cX11_isLate 10 = .ok (.aload_n 0, 1) := by decide +kernel
theorem dX11_isLate_11 : decode cX11_isLate 11 = .ok (.iload_n 3, 1) := by decide +kernel
theorem dX11_isLate_12 : decode cX11_isLate 12 = .ok (.invokevirtual 113, 3) := by decide +kernel
theorem dX11_isLate_15 : decode cX11_isLate 15 = .ok (.aload_n 0, 1) := by decide +kernel
theorem dX11_isLate_16 : decode cX11_isLate 16 = .ok (.iload_n 1, 1) := by decide +kernel
theorem dX11_isLate_17 : decode cX11_isLate 17 = .ok (.invokevirtual 113, 3) := by decide +kernel
theorem dX11_isLate_20 : decode cX11_isLate 20 = .ok (.if_icmp .ne 7, 3) := by decide +kernel
theorem dX11_isLate_23 : decode cX11_isLate 23 = .ok (.iload_n 3, 1) := by decide +kernel
theorem dX11_isLate_24 : decode cX11_isLate 24 = .ok (.goto 4, 3) := by decide +kernel
theorem dX11_isLate_27 : decode cX11_isLate 27 = .ok (.iload_n 2, 1) := by decide +kernel
theorem dX11_isLate_28 : decode cX11_isLate 28 = .ok (.istore_n 2, 1) := by decide +kernel
theorem dX11_isLate_29 : decode cX11_isLate 29 = .ok (.iinc 3 1, 3) := by decide +kernel
theorem dX11_isLate_32 : decode cX11_isLate 32 = .ok (.goto (-27), 3) := by decide +kernel
theorem dX11_isLate_35 : decode cX11_isLate 35 = .ok (.iload_n 2, 1) := by decide +kernel
theorem dX11_isLate_36 : decode cX11_isLate 36 = .ok (.ifCond .lt 28, 3) := by decide +kernel
theorem dX11_isLate_39 : decode cX11_isLate 39 = .ok (.aload_n 0, 1) := by decide +kernel
theorem dX11_isLate_40 : decode cX11_isLate 40 = .ok (.iload_n 1, 1) := by decide +kernel
theorem dX11_isLate_41 : decode cX11_isLate 41 = .ok (.invokevirtual 110, 3) := by decide +kernel
theorem dX11_isLate_44 : decode cX11_isLate 44 = .ok (.aload_n 0, 1) := by decide +kernel
theorem dX11_isLate_45 : decode cX11_isLate 45 = .ok (.iload_n 2, 1) := by decide +kernel
theorem dX11_isLate_46 : decode cX11_isLate 46 = .ok (.invokevirtual 116, 3) := by decide +kernel
theorem dX11_isLate_49 : decode cX11_isLate 49 = .ok (.isub, 1) := by decide +kernel
theorem dX11_isLate_50 : decode cX11_isLate 50 = .ok (.aload_n 0, 1) := by decide +kernel
theorem dX11_isLate_51 : decode cX11_isLate 51 = .ok (.getfield 13, 3) := by decide +kernel
theorem dX11_isLate_54 : decode cX11_isLate 54 = .ok (.bipush 6, 2) := by decide +kernel
theorem dX11_isLate_56 : decode cX11_isLate 56 = .ok (.iaload, 1) := by decide +kernel
theorem dX11_isLate_57 : decode cX11_isLate 57 = .ok (.if_icmp .le 7, 3) := by decide +kernel
theorem dX11_isLate_60 : decode cX11_isLate 60 = .ok (.iconst 1, 1) := by decide +kernel
theorem dX11_isLate_61 : decode cX11_isLate 61 = .ok (.goto 4, 3) := by decide +kernel
theorem dX11_isLate_64 : decode cX11_isLate 64 = .ok (.iconst 0, 1) := by decide +kernel
