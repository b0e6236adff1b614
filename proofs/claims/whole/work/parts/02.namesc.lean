theorem dX9_learnDoors_13 : decode cX9_learnDoors 13 = .ok (.iload 4, 2) := by decide +kernel
theorem dX9_learnDoors_15 : decode cX9_learnDoors 15 = .ok (.ishr, 1) := by decide +kernel
theorem dX9_learnDoors_16 : decode cX9_learnDoors 16 = .ok (.iconst 1, 1) := by decide +kernel
theorem dX9_learnDoors_17 : decode cX9_learnDoors 17 = .ok (.iand, 1) := by decide +kernel
theorem dX9_learnDoors_18 : decode cX9_learnDoors 18 = .ok (.ifCond .eq 7, 3) := by decide +kernel
theorem dX9_learnDoors_21 : decode cX9_learnDoors 21 = .ok (.iconst 1, 1) := by decide +kernel
theorem dX9_learnDoors_22 : decode cX9_learnDoors 22 = .ok (.goto 4, 3) := by decide +kernel
theorem dX9_learnDoors_25 : decode cX9_learnDoors 25 = .ok (.iconst 0, 1) := by decide +kernel
theorem dX9_learnDoors_26 : decode cX9_learnDoors 26 = .ok (.istore 5, 2) := by decide +kernel
theorem dX9_learnDoors_28 : decode cX9_learnDoors 28 = .ok (.aload_n 0, 1) := by decide +kernel
theorem dX9_learnDoors_29 : decode cX9_learnDoors 29 = .ok (.getfield 11, 3) := by decide +kernel
theorem dX9_learnDoors_32 : decode cX9_learnDoors 32 = .ok (.iload_n 2, 1) := by decide +kernel
theorem dX9_learnDoors_33 : decode cX9_learnDoors 33 = .ok (.iload 4, 2) := by decide +kernel
theorem dX9_learnDoors_35 : decode cX9_learnDoors 35 = .ok (.iadd, 1) := by decide +kernel
theorem dX9_learnDoors_36 : decode cX9_learnDoors 36 = .ok (.iload 5, 2) := by decide +kernel
theorem dX9_learnDoors_38 : decode cX9_learnDoors 38 = .ok (.ifCond .eq 20, 3) := by decide +kernel
theorem dX9_learnDoors_41 : decode cX9_learnDoors 41 = .ok (.aload_n 1, 1) := by decide +kernel
theorem dX9_learnDoors_42 : decode cX9_learnDoors 42 = .ok (.getfield 40, 3) := by decide +kernel
theorem dX9_learnDoors_45 : decode cX9_learnDoors 45 = .ok (.iload 4, 2) := by decide +kernel
theorem dX9_learnDoors_47 : decode cX9_learnDoors 47 = .ok (.iaload, 1) := by decide +kernel
theorem dX9_learnDoors_48 : decode cX9_learnDoors 48 = .ok (.iconst 1, 1) := by decide +kernel
theorem dX9_learnDoors_49 : decode cX9_learnDoors 49 = .ok (.iload 4, 2) := by decide +kernel
theorem dX9_learnDoors_51 : decode cX9_learnDoors 51 = .ok (.ishl, 1) := by decide +kernel
theorem dX9_learnDoors_52 : decode cX9_learnDoors 52 = .ok (.ior, 1) := by decide +kernel
theorem dX9_learnDoors_53 : decode cX9_learnDoors 53 = .ok (.iload_n 3, 1) := by decide +kernel
theorem dX9_learnDoors_54 : decode cX9_learnDoors 54 = .ok (.iand, 1) := by decide +kernel
theorem dX9_learnDoors_55 : decode cX9_learnDoors 55 = .ok (.goto 4, 3) := by decide +kernel
theorem dX9_learnDoors_58 : decode cX9_learnDoors 58 = .ok (.iconst 0, 1) := by decide +kernel
theorem dX9_learnDoors_59 : decode cX9_learnDoors 59 = .ok (.iastore, 1) := by decide +kernel
theorem dX9_learnDoors_60 : decode cX9_learnDoors 60 = .ok (.iinc 4 1, 3) := by decide +kernel
theorem dX9_learnDoors_63 : decode cX9_learnDoors 63 = .ok (.goto (-60), 3) := by decide +kernel
theorem dX9_learnDoors_66 : decode cX9_learnDoors 66 = .ok (.return_, 1) := by decide +kernel
theorem dX9_joinWays_0 : decode cX9_joinWays 0 = .ok (.iconst 0, 1) := by decide +kernel
theorem dX9_joinWays_1 : decode cX9_joinWays 1 = .ok (.istore_n 3, 1) := by decide +kernel
theorem dX9_joinWays_2 : decode cX9_joinWays 2 = .ok (.iload_n 3, 1) := by decide +kernel
theorem dX9_joinWays_3 : decode cX9_joinWays 3 = .ok (.iload_n 1, 1) := by decide +kernel
theorem dX9_joinWays_4 : decode cX9_joinWays 4 = .ok (.if_icmp .gt 60, 3) := by decide +kernel
theorem dX9_joinWays_7 : decode cX9_joinWays 7 = .ok (.iconst 0, 1) := by decide +kernel
theorem dX9_joinWays_8 : decode cX9_joinWays 8 = .ok (.istore 4, 2) := by decide +kernel
theorem dX9_joinWays_10 : decode cX9_joinWays 10 = .ok (.iload 4, 2) := by decide +kernel
theorem dX9_joinWays_12 : decode cX9_joinWays 12 = .ok (.iload_n 1, 1) := by decide +kernel
theorem dX9_joinWays_13 : decode cX9_joinWays 13 = .ok (.if_icmp .gt 45, 3) := by decide +kernel
theorem dX9_joinWays_16 : decode cX9_joinWays 16 = .ok (.aload_n 0, 1) := by decide +kernel
theorem dX9_joinWays_17 : decode cX9_joinWays 17 = .ok (.getfield 11, 3) := by decide +kernel
theorem dX9_joinWays_20 : decode cX9_joinWays 20 = .ok (.iload_n 2, 1) := by decide +kernel
theorem dX9_joinWays_21 : decode cX9_joinWays 21 = .ok (.iload 4, 2) := by decide +kernel
theorem dX9_joinWays_23 : decode cX9_joinWays 23 = .ok (.iadd, 1) := by decide +kernel
theorem dX9_joinWays_24 : decode cX9_joinWays 24 = .ok (.iaload, 1) := by decide +kernel
theorem dX9_joinWays_25 : decode cX9_joinWays 25 = .ok (.iload_n 3, 1) := by decide +kernel
theorem dX9_joinWays_26 : decode cX9_joinWays 26 = .ok (.ishr, 1) := by decide +kernel
theorem dX9_joinWays_27 : decode cX9_joinWays 27 = .ok (.iconst 1, 1) := by decide +kernel
theorem dX9_joinWays_28 : decode cX9_joinWays 28 = .ok (.iand, 1) := by decide +kernel
theorem dX9_joinWays_29 : decode cX9_joinWays 29 = .ok (.ifCond .eq 23, 3) := by decide +kernel
theorem dX9_joinWays_32 : decode cX9_joinWays 32 = .ok (.aload_n 0, 1) := by decide +kernel
theorem dX9_joinWays_33 : decode cX9_joinWays 33 = .ok (.getfield 11, 3) := by decide +kernel
theorem dX9_joinWays_36 : decode cX9_joinWays 36 = .ok (.iload_n 2, 1) := by decide +kernel
theorem dX9_joinWays_37 : decode cX9_joinWays 37 = .ok (.iload 4, 2) := by decide +kernel
theorem dX9_joinWays_39 : decode cX9_joinWays 39 = .ok (.iadd, 1) := by decide +kernel
theorem dX9_joinWays_40 : decode cX9_joinWays 40 = .ok (.dup2, 1) := by decide +kernel
theorem dX9_joinWays_41 : decode cX9_joinWays 41 = .ok (.iaload, 1) := by decide +kernel
theorem dX9_joinWays_42 : decode cX9_joinWays 42 = .ok (.aload_n 0, 1) := by decide +kernel
theorem dX9_joinWays_43 : decode cX9_joinWays 43 = .ok (.getfield 11, 3) := by decide +kernel
theorem dX9_joinWays_46 : decode cX9_joinWays 46 = .ok (.iload_n 2, 1) := by decide +kernel
theorem dX9_joinWays_47 : decode cX9_joinWays 47 = .ok (.iload_n 3, 1) := by decide +kernel
theorem dX9_joinWays_48 : decode cX9_joinWays 48 = .ok (.iadd, 1) := by decide +kernel
theorem dX9_joinWays_49 : decode cX9_joinWays 49 = .ok (.iaload, 1) := by decide +kernel
theorem dX9_joinWays_50 : decode cX9_joinWays 50 = .ok (.ior, 1) := by decide +kernel
theorem dX9_joinWays_51 : decode cX9_joinWays 51 = .ok (.iastore, 1) := by decide +kernel
theorem dX9_joinWays_52 : decode cX9_joinWays 52 = .ok (.iinc 4 1, 3) := by decide +kernel
theorem dX9_joinWays_55 : decode cX9_joinWays 55 = .ok (.goto (-45), 3) := by decide +kernel
theorem dX9_joinWays_58 : decode cX9_joinWays 58 = .ok (.iinc 3 1, 3) := by decide +kernel
theorem dX9_joinWays_61 : decode cX9_joinWays 61 = .ok (.goto (-59), 3) := by decide +kernel
theorem dX9_joinWays_64 : decode cX9_joinWays 64 = .ok (.return_, 1) := by decide +kernel
set_option maxRecDepth 20000 in
theorem ggX9_barredIn_X1_needPart : GoodIn wsX9_barredIn wsX1_needPart := goodIn_r _ [6, 7, 8, 9, 10, 11, 12, 13, 14] (by decide +kernel) (by decide +kernel)
set_option maxRecDepth 20000 in
theorem gX9_barredIn_X1_needPart : GoodIn wsX9_barredIn (wsV RX9 46 RX1 yX1_needPart wsX1_needPart) := goodIn_app (goodIn_of _ (by decide +kernel)) ggX9_barredIn_X1_needPart
theorem dX9_barredIn_0 : decode cX9_barredIn 0 = .ok (.iconst 0, 1) := by decide +kernel
theorem dX9_barredIn_1 : decode cX9_barredIn 1 = .ok (.istore_n 3, 1) := by decide +kernel
theorem dX9_barredIn_2 : decode cX9_barredIn 2 = .ok (.iconst 0, 1) := by decide +kernel
theorem dX9_barredIn_3 : decode cX9_barredIn 3 = .ok (.istore 4, 2) := by decide +kernel
theorem dX9_barredIn_5 : decode cX9_barredIn 5 = .ok (.iload 4, 2) := by decide +kernel
theorem dX9_barredIn_7 : decode cX9_barredIn 7 = .ok (.aload_n 1, 1) := by decide +kernel
theorem dX9_barredIn_8 : decode cX9_barredIn 8 = .ok (.getfield 43, 3) := by decide +kernel
theorem dX9_barredIn_11 : decode cX9_barredIn 11 = .ok (.if_icmp .ge 47, 3) := by decide +kernel
theorem dX9_barredIn_14 : decode cX9_barredIn 14 = .ok (.aload_n 0, 1) := by decide +kernel
theorem dX9_barredIn_15 : decode cX9_barredIn 15 = .ok (.getfield 11, 3) := by decide +kernel
theorem dX9_barredIn_18 : decode cX9_barredIn 18 = .ok (.iload_n 2, 1) := by decide +kernel
theorem dX9_barredIn_19 : decode cX9_barredIn 19 = .ok (.aload_n 1, 1) := by decide +kernel
theorem dX9_barredIn_20 : decode cX9_barredIn 20 = .ok (.iload 4, 2) := by decide +kernel
theorem dX9_barredIn_22 : decode cX9_barredIn 22 = .ok (.iconst 0, 1) := by decide +kernel
theorem dX9_barredIn_23 : decode cX9_barredIn 23 = .ok (.invokevirtual 46, 3) := by decide +kernel
theorem dX9_barredIn_26 : decode cX9_barredIn 26 = .ok (.iadd, 1) := by decide +kernel
theorem dX9_barredIn_27 : decode cX9_barredIn 27 = .ok (.iaload, 1) := by decide +kernel
theorem dX9_barredIn_28 : decode cX9_barredIn 28 = .ok (.istore 5, 2) := by decide +kernel
theorem dX9_barredIn_30 : decode cX9_barredIn 30 = .ok (.iload 5, 2) := by decide +kernel
theorem dX9_barredIn_32 : decode cX9_barredIn 32 = .ok (.aload_n 1, 1) := by decide +kernel
theorem dX9_barredIn_33 : decode cX9_barredIn 33 = .ok (.iload 4, 2) := by decide +kernel
theorem dX9_barredIn_35 : decode cX9_barredIn 35 = .ok (.iconst 1, 1) := by decide +kernel
theorem dX9_barredIn_36 : decode cX9_barredIn 36 = .ok (.invokevirtual 46, 3) := by decide +kernel
theorem dX9_barredIn_39 : decode cX9_barredIn 39 = .ok (.ishr, 1) := by decide +kernel
theorem dX9_barredIn_40 : decode cX9_barredIn 40 = .ok (.iconst 1, 1) := by decide +kernel
theorem dX9_barredIn_41 : decode cX9_barredIn 41 = .ok (.iand, 1) := by decide +kernel
theorem dX9_barredIn_42 : decode cX9_barredIn 42 = .ok (.ifCond .ne 10, 3) := by decide +kernel
theorem dX9_barredIn_45 : decode cX9_barredIn 45 = .ok (.iload_n 3, 1) := by decide +kernel
theorem dX9_barredIn_46 : decode cX9_barredIn 46 = .ok (.iconst 1, 1) := by decide +kernel
theorem dX9_barredIn_47 : decode cX9_barredIn 47 = .ok (.iload 4, 2) := by decide +kernel
theorem dX9_barredIn_49 : decode cX9_barredIn 49 = .ok (.ishl, 1) := by decide +kernel
theorem dX9_barredIn_50 : decode cX9_barredIn 50 = .ok (.ior, 1) := by decide +kernel
theorem dX9_barredIn_51 : decode cX9_barredIn 51 = .ok (.istore_n 3, 1) := by decide +kernel
theorem dX9_barredIn_52 : decode cX9_barredIn 52 = .ok (.iinc 4 1, 3) := by decide +kernel
theorem dX9_barredIn_55 : decode cX9_barredIn 55 = .ok (.goto (-50), 3) := by decide +kernel
theorem dX9_barredIn_58 : decode cX9_barredIn 58 = .ok (.iload_n 3, 1) := by decide +kernel
theorem dX9_barredIn_59 : decode cX9_barredIn 59 = .ok (.ireturn, 1) := by decide +kernel
theorem dX9_leads_0 : decode cX9_leads 0 = .ok (.iload_n 3, 1) := by decide +kernel
theorem dX9_leads_1 : decode cX9_leads 1 = .ok (.iconst 1, 1) := by decide +kernel
theorem dX9_leads_2 : decode cX9_leads 2 = .ok (.ishr, 1) := by decide +kernel
theorem dX9_leads_3 : decode cX9_leads 3 = .ok (.bipush 31, 2) := by decide +kernel
theorem dX9_leads_5 : decode cX9_leads 5 = .ok (.iand, 1) := by decide +kernel
theorem dX9_leads_6 : decode cX9_leads 6 = .ok (.istore 4, 2) := by decide +kernel
theorem dX9_leads_8 : decode cX9_leads 8 = .ok (.iload_n 1, 1) := by decide +kernel
theorem dX9_leads_9 : decode cX9_leads 9 = .ok (.ifCond .lt 32, 3) := by decide +kernel
theorem dX9_leads_12 : decode cX9_leads 12 = .ok (.iload_n 1, 1) := by decide +kernel
theorem dX9_leads_13 : decode cX9_leads 13 = .ok (.bipush 6, 2) := by decide +kernel
theorem dX9_leads_15 : decode cX9_leads 15 = .ok (.if_icmp .ge 26, 3) := by decide +kernel
theorem dX9_leads_18 : decode cX9_leads 18 = .ok (.aload_n 0, 1) := by decide +kernel
theorem dX9_leads_19 : decode cX9_leads 19 = .ok (.getfield 11, 3) := by decide +kernel
theorem dX9_leads_22 : decode cX9_leads 22 = .ok (.iload 4, 2) := by decide +kernel
theorem dX9_leads_24 : decode cX9_leads 24 = .ok (.bipush 6, 2) := by decide +kernel
theorem dX9_leads_26 : decode cX9_leads 26 = .ok (.imul, 1) := by decide +kernel
theorem dX9_leads_27 : decode cX9_leads 27 = .ok (.iload_n 1, 1) := by decide +kernel
theorem dX9_leads_28 : decode cX9_leads 28 = .ok (.iadd, 1) := by decide +kernel
theorem dX9_leads_29 : decode cX9_leads 29 = .ok (.iaload, 1) := by decide +kernel
theorem dX9_leads_30 : decode cX9_leads 30 = .ok (.iload_n 2, 1) := by decide +kernel
theorem dX9_leads_31 : decode cX9_leads 31 = .ok (.ishr, 1) := by decide +kernel
theorem dX9_leads_32 : decode cX9_leads 32 = .ok (.iconst 1, 1) := by decide +kernel
theorem dX9_leads_33 : decode cX9_leads 33 = .ok (.iand, 1) := by decide +kernel
theorem dX9_leads_34 : decode cX9_leads 34 = .ok (.ifCond .eq 7, 3) := by decide +kernel
theorem dX9_leads_37 : decode cX9_leads 37 = .ok (.iconst 1, 1) := by decide +kernel
theorem dX9_leads_38 : decode cX9_leads 38 = .ok (.goto 4, 3) := by decide +kernel
theorem dX9_leads_41 : decode cX9_leads 41 = .ok (.iconst 0, 1) := by decide +kernel
theorem dX9_leads_42 : decode cX9_leads 42 = .ok (.ireturn, 1) := by decide +kernel
theorem dX9_barredNeeds_0 : decode cX9_barredNeeds 0 = .ok (.aload_n 0, 1) := by decide +kernel
theorem dX9_barredNeeds_1 : decode cX9_barredNeeds 1 = .ok (.getfield 15, 3) := by decide +kernel
theorem dX9_barredNeeds_4 : decode cX9_barredNeeds 4 = .ok (.iload_n 1, 1) := by decide +kernel
theorem dX9_barredNeeds_5 : decode cX9_barredNeeds 5 = .ok (.iconst 1, 1) := by decide +kernel
theorem dX9_barredNeeds_6 : decode cX9_barredNeeds 6 = .ok (.ishr, 1) := by decide +kernel
theorem dX9_barredNeeds_7 : decode cX9_barredNeeds 7 = .ok (.bipush 31, 2) := by decide +kernel
theorem dX9_barredNeeds_9 : decode cX9_barredNeeds 9 = .ok (.iand, 1) := by decide +kernel
theorem dX9_barredNeeds_10 : decode cX9_barredNeeds 10 = .ok (.iaload, 1) := by decide +kernel
theorem dX9_barredNeeds_11 : decode cX9_barredNeeds 11 = .ok (.ireturn, 1) := by decide +kernel
set_option maxRecDepth 20000 in
theorem ggX10_init_X8_init : GoodIn wsX10_init wsX8_init := goodIn_r _ [45, 46, 2, 3, 4, 47, 151, 152] (by decide +kernel) (by decide +kernel)
set_option maxRecDepth 20000 in
theorem gX10_init_X8_init_n15 : GoodIn wsX10_init (wsX8_init) := ggX10_init_X8_init
set_option maxRecDepth 20000 in
theorem ggX10_init_X2_init : GoodIn wsX10_init wsX2_init := goodIn_r _ [50, 51, 2, 3, 4, 52, 53, 153, 154, 155] (by decide +kernel) (by decide +kernel)
set_option maxRecDepth 20000 in
theorem gX10_init_X2_init : GoodIn wsX10_init (wsX2_init) := ggX10_init_X2_init
set_option maxRecDepth 20000 in
theorem ggX10_init_X1_init : GoodIn wsX10_init wsX1_init := goodIn_r _ [55, 56, 2, 3, 4, 57, 58, 59, 60, 156, 157, 158, 159, 160, 161, 162] (by decide +kernel) (by decide +kernel)
set_option maxRecDepth 20000 in
theorem gX10_init_X1_init_n31 : GoodIn wsX10_init (wsX1_init) := ggX10_init_X1_init
set_option maxRecDepth 20000 in
theorem ggX10_init_X0_init : GoodIn wsX10_init wsX0_init := goodIn_r _ [62, 63, 2, 3, 4, 64, 163, 164, 165, 166, 167, 168] (by decide +kernel) (by decide +kernel)
set_option maxRecDepth 20000 in
theorem gX10_init_X0_init_n38 : GoodIn wsX10_init (wsX0_init) := ggX10_init_X0_init
set_option maxRecDepth 20000 in
theorem ggX10_init_X6_init : GoodIn wsX10_init wsX6_init := goodIn_r _ [66, 67, 2, 3, 68, 15, 16, 69, 70, 71, 72, 73, 74, 19, 20, 75, 4, 76, 54, 55, 56, 57, 58, 59, 60, 77, 78, 79, 80, 81, 61, 62, 63, 64, 156, 157, 158, 159, 160, 161, 162, 169, 170, 171, 172, 173, 199, 200, 201, 163, 164, 165, 166, 167, 168] (by decide +kernel) (by decide +kernel)
set_option maxRecDepth 20000 in
theorem gX10_init_X6_init_n45 : GoodIn wsX10_init (wsX6_init) := ggX10_init_X6_init
set_option maxRecDepth 20000 in
theorem ggX10_init_X9_init : GoodIn wsX10_init wsX9_init := goodIn_r _ [83, 84, 2, 3, 4, 85, 86, 174, 175] (by decide +kernel) (by decide +kernel)
set_option maxRecDepth 20000 in
theorem gX10_init_X9_init_n55 : GoodIn wsX10_init (wsX9_init) := ggX10_init_X9_init
set_option maxRecDepth 20000 in
theorem ggX10_init_X9_learn : GoodIn wsX10_init wsX9_learn := goodIn_r _ [90, 86, 91, 92, 93, 16, 94, 95, 96, 97, 98, 29, 99, 85, 100, 101, 102, 103, 104, 105, 106, 107, 108, 109, 110, 111, 60, 156, 157, 158, 159, 160, 161, 162, 174, 175] (by decide +kernel) (by decide +kernel)
set_option maxRecDepth 20000 in
theorem gX10_init_X9_learn : GoodIn wsX10_init (wsV RX10 63 RX9 yX9_learn wsX9_learn) := goodIn_app (goodIn_of _ (by decide +kernel)) ggX10_init_X9_learn
set_option maxRecDepth 20000 in
theorem ggX10_init_X3_init : GoodIn wsX10_init wsX3_init := goodIn_r _ [114, 115, 2, 3, 116, 117, 176, 177, 178, 179] (by decide +kernel) (by decide +kernel)
set_option maxRecDepth 20000 in
theorem gX10_init_X3_init : GoodIn wsX10_init (wsX3_init) := ggX10_init_X3_init
set_option maxRecDepth 20000 in
theorem ggX10_init_X7_init : GoodIn wsX10_init wsX7_init := goodIn_r _ [120, 121, 2, 3, 122, 71, 72, 123, 124, 4, 125, 126, 127, 128, 129, 130, 131, 132, 133, 77, 78, 79, 80, 81, 199, 200, 201, 180, 181, 182, 183, 184, 185, 186, 187, 188, 189, 190, 191, 192, 193] (by decide +kernel) (by decide +kernel)
set_option maxRecDepth 20000 in
theorem gX10_init_X7_init : GoodIn wsX10_init (wsX7_init) := ggX10_init_X7_init
set_option maxRecDepth 20000 in
theorem ggX10_init_X4_init : GoodIn wsX10_init wsX4_init := goodIn_r _ [135, 136, 2, 3, 4, 137, 138, 194, 195, 196, 197, 198] (by decide +kernel) (by decide +kernel)
set_option maxRecDepth 20000 in
theorem gX10_init_X4_init_n85 : GoodIn wsX10_init (wsX4_init) := ggX10_init_X4_init
theorem dX10_init_0 : decode cX10_init 0 = .ok (.aload_n 0, 1) := by decide +kernel
theorem dX10_init_1 : decode cX10_init 1 = .ok (.invokespecial 3, 3) := by decide +kernel
theorem dX10_init_4 : decode cX10_init 4 = .ok (.aload_n 0, 1) := by decide +kernel
theorem dX10_init_5 : decode cX10_init 5 = .ok (.bipush 7, 2) := by decide +kernel
theorem dX10_init_7 : decode cX10_init 7 = .ok (.newarray .int, 2) := by decide +kernel
theorem dX10_init_9 : decode cX10_init 9 = .ok (.putfield 9, 3) := by decide +kernel
theorem dX10_init_12 : decode cX10_init 12 = .ok (.aload_n 0, 1) := by decide +kernel
theorem dX10_init_13 : decode cX10_init 13 = .ok (.new 13, 3) := by decide +kernel
theorem dX10_init_16 : decode cX10_init 16 = .ok (.dup, 1) := by decide +kernel
theorem dX10_init_17 : decode cX10_init 17 = .ok (.invokespecial 15, 3) := by decide +kernel
theorem dX10_init_20 : decode cX10_init 20 = .ok (.putfield 16, 3) := by decide +kernel
theorem dX10_init_23 : decode cX10_init 23 = .ok (.aload_n 0, 1) := by decide +kernel
theorem dX10_init_24 : decode cX10_init 24 = .ok (.new 20, 3) := by decide +kernel
theorem dX10_init_27 : decode cX10_init 27 = .ok (.dup, 1) := by decide +kernel
theorem dX10_init_28 : decode cX10_init 28 = .ok (.aload_n 0, 1) := by decide +kernel
theorem dX10_init_29 : decode cX10_init 29 = .ok (.getfield 16, 3) := by decide +kernel
theorem dX10_init_32 : decode cX10_init 32 = .ok (.invokespecial 22, 3) := by decide +kernel
theorem dX10_init_35 : decode cX10_init 35 = .ok (.putfield 25, 3) := by decide +kernel
theorem dX10_init_38 : decode cX10_init 38 = .ok (.aload_n 0, 1) := by decide +kernel
theorem dX10_init_39 : decode cX10_init 39 = .ok (.new 29, 3) := by decide +kernel
theorem dX10_init_42 : decode cX10_init 42 = .ok (.dup, 1) := by decide +kernel
theorem dX10_init_43 : decode cX10_init 43 = .ok (.invokespecial 31, 3) := by decide +kernel
theorem dX10_init_46 : decode cX10_init 46 = .ok (.putfield 32, 3) := by decide +kernel
theorem dX10_init_49 : decode cX10_init 49 = .ok (.aload_n 0, 1) := by decide +kernel
theorem dX10_init_50 : decode cX10_init 50 = .ok (.new 36, 3) := by decide +kernel
theorem dX10_init_53 : decode cX10_init 53 = .ok (.dup, 1) := by decide +kernel
theorem dX10_init_54 : decode cX10_init 54 = .ok (.invokespecial 38, 3) := by decide +kernel
theorem dX10_init_57 : decode cX10_init 57 = .ok (.putfield 39, 3) := by decide +kernel
theorem dX10_init_60 : decode cX10_init 60 = .ok (.aload_n 0, 1) := by decide +kernel
theorem dX10_init_61 : decode cX10_init 61 = .ok (.new 43, 3) := by decide +kernel
theorem dX10_init_64 : decode cX10_init 64 = .ok (.dup, 1) := by decide +kernel
theorem dX10_init_65 : decode cX10_init 65 = .ok (.invokespecial 45, 3) := by decide +kernel
theorem dX10_init_68 : decode cX10_init 68 = .ok (.putfield 46, 3) := by decide +kernel
theorem dX10_init_71 : decode cX10_init 71 = .ok (.aload_n 0, 1) := by decide +kernel
theorem dX10_init_72 : decode cX10_init 72 = .ok (.new 43, 3) := by decide +kernel
theorem dX10_init_75 : decode cX10_init 75 = .ok (.dup, 1) := by decide +kernel
theorem dX10_init_76 : decode cX10_init 76 = .ok (.invokespecial 45, 3) := by decide +kernel
theorem dX10_init_79 : decode cX10_init 79 = .ok (.putfield 50, 3) := by decide +kernel
theorem dX10_init_82 : decode cX10_init 82 = .ok (.aload_n 0, 1) := by decide +kernel
theorem dX10_init_83 : decode cX10_init 83 = .ok (.new 53, 3) := by decide +kernel
theorem dX10_init_86 : decode cX10_init 86 = .ok (.dup, 1) := by decide +kernel
theorem dX10_init_87 : decode cX10_init 87 = .ok (.invokespecial 55, 3) := by decide +kernel
theorem dX10_init_90 : decode cX10_init 90 = .ok (.putfield 56, 3) := by decide +kernel
theorem dX10_init_93 : decode cX10_init 93 = .ok (.aload_n 0, 1) := by decide +kernel
theorem dX10_init_94 : decode cX10_init 94 = .ok (.getfield 56, 3) := by decide +kernel
theorem dX10_init_97 : decode cX10_init 97 = .ok (.aload_n 0, 1) := by decide +kernel
theorem dX10_init_98 : decode cX10_init 98 = .ok (.getfield 46, 3) := by decide +kernel
theorem dX10_init_101 : decode cX10_init 101 = .ok (.getfield 60, 3) := by decide +kernel
theorem dX10_init_104 : decode cX10_init 104 = .ok (.invokevirtual 63, 3) := by decide +kernel
theorem dX10_init_107 : decode cX10_init 107 = .ok (.aload_n 0, 1) := by decide +kernel
theorem dX10_init_108 : decode cX10_init 108 = .ok (.new 67, 3) := by decide +kernel
theorem dX10_init_111 : decode cX10_init 111 = .ok (.dup, 1) := by decide +kernel
theorem dX10_init_112 : decode cX10_init 112 = .ok (.aload_n 0, 1) := by decide +kernel
theorem dX10_init_113 : decode cX10_init 113 = .ok (.getfield 46, 3) := by decide +kernel
theorem dX10_init_116 : decode cX10_init 116 = .ok (.aload_n 0, 1) := by decide +kernel
theorem dX10_init_117 : decode cX10_init 117 = .ok (.getfield 56, 3) := by decide +kernel
theorem dX10_init_120 : decode cX10_init 120 = .ok (.invokespecial 69, 3) := by decide +kernel
theorem dX10_init_123 : decode cX10_init 123 = .ok (.putfield 72, 3) := by decide +kernel
theorem dX10_init_126 : decode cX10_init 126 = .ok (.aload_n 0, 1) := by decide +kernel
theorem dX10_init_127 : decode cX10_init 127 = .ok (.new 76, 3) := by decide +kernel
theorem dX10_init_130 : decode cX10_init 130 = .ok (.dup, 1) := by decide +kernel
theorem dX10_init_131 : decode cX10_init 131 = .ok (.aload_n 0, 1) := by decide +kernel
theorem dX10_init_132 : decode cX10_init 132 = .ok (.getfield 46, 3) := by decide +kernel
theorem dX10_init_135 : decode cX10_init 135 = .ok (.aload_n 0, 1) := by decide +kernel
theorem dX10_init_136 : decode cX10_init 136 = .ok (.getfield 56, 3) := by decide +kernel
theorem dX10_init_139 : decode cX10_init 139 = .ok (.invokespecial 78, 3) := by decide +kernel
theorem dX10_init_142 : decode cX10_init 142 = .ok (.putfield 79, 3) := by decide +kernel
theorem dX10_init_145 : decode cX10_init 145 = .ok (.aload_n 0, 1) := by decide +kernel
theorem dX10_init_146 : decode cX10_init 146 = .ok (.new 83, 3) := by decide +kernel
theorem dX10_init_149 : decode cX10_init 149 = .ok (.dup, 1) := by decide +kernel
theorem dX10_init_150 : decode cX10_init 150 = .ok (.invokespecial 85, 3) := by decide +kernel
theorem dX10_init_153 : decode cX10_init 153 = .ok (.putfield 86, 3) := by decide +kernel
theorem dX10_init_156 : decode cX10_init 156 = .ok (.aload_n 0, 1) := by decide +kernel
theorem dX10_init_157 : decode cX10_init 157 = .ok (.iconst 0, 1) := by decide +kernel
theorem dX10_init_158 : decode cX10_init 158 = .ok (.putfield 90, 3) := by decide +kernel
theorem dX10_init_161 : decode cX10_init 161 = .ok (.return_, 1) := by decide +kernel
set_option maxRecDepth 20000 in
theorem ggX10_feed_X10_refuse : GoodIn wsX10_feed wsX10_refuse := goodIn_r _ [6, 7, 23, 24, 25, 26, 27, 28, 29, 30, 31, 32, 33, 34] (by decide +kernel) (by decide +kernel)
set_option maxRecDepth 20000 in
theorem gX10_feed_X10_refuse : GoodIn wsX10_feed (wsV RX10 94 RX10 yX10_refuse wsX10_refuse) := goodIn_app (goodIn_of _ (by decide +kernel)) ggX10_feed_X10_refuse
set_option maxRecDepth 20000 in
theorem ggX10_feed_X8_hasRoomFor : GoodIn wsX10_feed wsX8_hasRoomFor := goodIn_r _ [12, 13, 35, 36] (by decide +kernel) (by decide +kernel)
set_option maxRecDepth 20000 in
theorem gX10_feed_X8_hasRoomFor : GoodIn wsX10_feed (wsV RX10 98 RX8 yX8_hasRoomFor wsX8_hasRoomFor) := goodIn_app (goodIn_of _ (by decide +kernel)) ggX10_feed_X8_hasRoomFor
set_option maxRecDepth 20000 in
theorem ggX10_feed_X8_append : GoodIn wsX10_feed wsX8_append := goodIn_r _ [17, 13, 18, 35, 36] (by decide +kernel) (by decide +kernel)
set_option maxRecDepth 20000 in
theorem gX10_feed_X8_append : GoodIn wsX10_feed (wsV RX10 102 RX8 yX8_append wsX8_append) := goodIn_app (goodIn_of _ (by decide +kernel)) ggX10_feed_X8_append
set_option maxRecDepth 20000 in
theorem ggX10_feed_X8_size : GoodIn wsX10_feed wsX8_size := goodIn_r _ [22, 13, 35, 36] (by decide +kernel) (by decide +kernel)
set_option maxRecDepth 20000 in
theorem gX10_feed_X8_size : GoodIn wsX10_feed (wsV RX10 106 RX8 yX8_size wsX8_size) := goodIn_app (goodIn_of _ (by decide +kernel)) ggX10_feed_X8_size
theorem dX10_feed_0 : decode cX10_feed 0 = .ok (.iload_n 1, 1) := by decide +kernel
theorem dX10_feed_1 : decode cX10_feed 1 = .ok (.iconst 1, 1) := by decide +kernel
theorem dX10_feed_2 : decode cX10_feed 2 = .ok (.if_icmp .ge 10, 3) := by decide +kernel
theorem dX10_feed_5 : decode cX10_feed 5 = .ok (.aload_n 0, 1) := by decide +kernel
theorem dX10_feed_6 : decode cX10_feed 6 = .ok (.bipush (-4), 2) := by decide +kernel
theorem dX10_feed_8 : decode cX10_feed 8 = .ok (.invokevirtual 94, 3) := by decide +kernel
theorem dX10_feed_11 : decode cX10_feed 11 = .ok (.ireturn, 1) := by decide +kernel
theorem dX10_feed_12 : decode cX10_feed 12 = .ok (.iload_n 1, 1) := by decide +kernel
theorem dX10_feed_13 : decode cX10_feed 13 = .ok (.bipush 8, 2) := by decide +kernel
theorem dX10_feed_15 : decode cX10_feed 15 = .ok (.if_icmp .gt 14, 3) := by decide +kernel
theorem dX10_feed_18 : decode cX10_feed 18 = .ok (.aload_n 0, 1) := by decide +kernel
theorem dX10_feed_19 : decode cX10_feed 19 = .ok (.getfield 16, 3) := by decide +kernel
theorem dX10_feed_22 : decode cX10_feed 22 = .ok (.iload_n 1, 1) := by decide +kernel
theorem dX10_feed_23 : decode cX10_feed 23 = .ok (.invokevirtual 98, 3) := by decide +kernel
theorem dX10_feed_26 : decode cX10_feed 26 = .ok (.ifCond .ne 10, 3) := by decide +kernel
theorem dX10_feed_29 : decode cX10_feed 29 = .ok (.aload_n 0, 1) := by decide +kernel
theorem dX10_feed_30 : decode cX10_feed 30 = .ok (.bipush (-6), 2) := by decide +kernel
theorem dX10_feed_32 : decode cX10_feed 32 = .ok (.invokevirtual 94, 3) := by decide +kernel
theorem dX10_feed_35 : decode cX10_feed 35 = .ok (.ireturn, 1) := by decide +kernel
theorem dX10_feed_36 : decode cX10_feed 36 = .ok (.aload_n 0, 1) := by decide +kernel
theorem dX10_feed_37 : decode cX10_feed 37 = .ok (.getfield 16, 3) := by decide +kernel
theorem dX10_feed_40 : decode cX10_feed 40 = .ok (.iload_n 1, 1) := by decide +kernel
theorem dX10_feed_41 : decode cX10_feed 41 = .ok (.lload_n 2, 1) := by decide +kernel
theorem dX10_feed_42 : decode cX10_feed 42 = .ok (.invokevirtual 102, 3) := by decide +kernel
theorem dX10_feed_45 : decode cX10_feed 45 = .ok (.aload_n 0, 1) := by decide +kernel
theorem dX10_feed_46 : decode cX10_feed 46 = .ok (.getfield 16, 3) := by decide +kernel
theorem dX10_feed_49 : decode cX10_feed 49 = .ok (.invokevirtual 106, 3) := by decide +kernel
theorem dX10_feed_52 : decode cX10_feed 52 = .ok (.ireturn, 1) := by decide +kernel
set_option maxRecDepth 20000 in
theorem ggX10_house_X1_become : GoodIn wsX10_house wsX1_become := goodIn_r _ [10, 11, 12, 13, 14, 15, 16, 17, 18, 19, 20, 21, 145, 146, 147, 148, 149, 150, 151] (by decide +kernel) (by decide +kernel)
set_option maxRecDepth 20000 in
theorem gX10_house_X1_become : GoodIn wsX10_house (wsV RX10 110 RX1 yX1_become wsX1_become) := goodIn_app (goodIn_of _ (by decide +kernel)) ggX10_house_X1_become
set_option maxRecDepth 20000 in
theorem ggX10_house_X2_read : GoodIn wsX10_house wsX2_read := goodIn_r _ [26, 27, 28, 29, 25, 30, 31, 32, 33, 34, 35, 36, 37, 38, 39, 40, 41, 42, 43, 44, 45, 46, 47, 48, 49, 50, 51, 52, 53, 54, 55, 56, 57, 58, 59, 60, 61, 62, 63, 64, 65, 66, 67, 68, 69, 70, 71, 72, 73, 74, 75, 9, 76, 11, 14, 19, 77, 78, 79, 80, 12, 20, 81, 82, 83, 84, 85, 86, 87, 88, 89, 90, 91, 92, 93, 94, 95, 96, 13, 21, 152, 153, 154, 155, 156, 145, 146, 147, 148, 149, 150, 151] (by decide +kernel) (by decide +kernel)
set_option maxRecDepth 20000 in
theorem gX10_house_X2_read : GoodIn wsX10_house (wsV RX10 113 RX2 yX2_read wsX2_read) := goodIn_app (goodIn_of _ (by decide +kernel)) ggX10_house_X2_read
set_option maxRecDepth 20000 in
theorem ggX10_house_X8_empty : GoodIn wsX10_house wsX8_empty := goodIn_r _ [100, 38, 155, 156] (by decide +kernel) (by decide +kernel)
set_option maxRecDepth 20000 in
theorem gX10_house_X8_empty : GoodIn wsX10_house (wsV RX10 117 RX8 yX8_empty wsX8_empty) := goodIn_app (goodIn_of _ (by decide +kernel)) ggX10_house_X8_empty
set_option maxRecDepth 20000 in
theorem ggX10_house_X9_learn : GoodIn wsX10_house wsX9_learn := goodIn_r _ [105, 106, 107, 108, 109, 9, 110, 11, 111, 112, 113, 104, 114, 115, 116, 117, 118, 119, 120, 121, 122, 123, 124, 125, 126, 127, 21, 145, 146, 147, 148, 149, 150, 151, 157, 158] (by decide +kernel) (by decide +kernel)
set_option maxRecDepth 20000 in
theorem gX10_house_X9_learn : GoodIn wsX10_house (wsV RX10 63 RX9 yX9_learn wsX9_learn) := goodIn_app (goodIn_of _ (by decide +kernel)) ggX10_house_X9_learn
theorem dX10_house_0 : decode cX10_house 0 = .ok (.aload_n 0, 1) := by decide +kernel
theorem dX10_house_1 : decode cX10_house 1 = .ok (.getfield 32, 3) := by decide +kernel
theorem dX10_house_4 : decode cX10_house 4 = .ok (.aload_n 0, 1) := by decide +kernel
theorem dX10_house_5 : decode cX10_house 5 = .ok (.getfield 46, 3) := by decide +kernel
theorem dX10_house_8 : decode cX10_house 8 = .ok (.getfield 60, 3) := by decide +kernel
theorem dX10_house_11 : decode cX10_house 11 = .ok (.invokevirtual 110, 3) := by decide +kernel
theorem dX10_house_14 : decode cX10_house 14 = .ok (.aload_n 0, 1) := by decide +kernel
theorem dX10_house_15 : decode cX10_house 15 = .ok (.getfield 25, 3) := by decide +kernel
theorem dX10_house_18 : decode cX10_house 18 = .ok (.aload_n 0, 1) := by decide +kernel
theorem dX10_house_19 : decode cX10_house 19 = .ok (.getfield 32, 3) := by decide +kernel
theorem dX10_house_22 : decode cX10_house 22 = .ok (.invokevirtual 113, 3) := by decide +kernel
theorem dX10_house_25 : decode cX10_house 25 = .ok (.istore_n 1, 1) := by decide +kernel
theorem dX10_house_26 : decode cX10_house 26 = .ok (.aload_n 0, 1) := by decide +kernel
theorem dX10_house_27 : decode cX10_house 27 = .ok (.getfield 16, 3) := by decide +kernel
theorem dX10_house_30 : decode cX10_house 30 = .ok (.invokevirtual 117, 3) := by decide +kernel
theorem dX10_house_33 : decode cX10_house 33 = .ok (.iload_n 1, 1) := by decide +kernel
theorem dX10_house_34 : decode cX10_house 34 = .ok (.ifCond .le 31, 3) := by decide +kernel
theorem dX10_house_37 : decode cX10_house 37 = .ok (.aload_n 0, 1) := by decide +kernel
theorem dX10_house_38 : decode cX10_house 38 = .ok (.getfield 46, 3) := by decide +kernel
theorem dX10_house_41 : decode cX10_house 41 = .ok (.getfield 60, 3) := by decide +kernel
theorem dX10_house_44 : decode cX10_house 44 = .ok (.aload_n 0, 1) := by decide +kernel
theorem dX10_house_45 : decode cX10_house 45 = .ok (.getfield 32, 3) := by decide +kernel
theorem dX10_house_48 : decode cX10_house 48 = .ok (.invokevirtual 110, 3) := by decide +kernel
theorem dX10_house_51 : decode cX10_house 51 = .ok (.aload_n 0, 1) := by decide +kernel
theorem dX10_house_52 : decode cX10_house 52 = .ok (.getfield 56, 3) := by decide +kernel
theorem dX10_house_55 : decode cX10_house 55 = .ok (.aload_n 0, 1) := by decide +kernel
theorem dX10_house_56 : decode cX10_house 56 = .ok (.getfield 46, 3) := by decide +kernel
theorem dX10_house_59 : decode cX10_house 59 = .ok (.getfield 60, 3) := by decide +kernel
theorem dX10_house_62 : decode cX10_house 62 = .ok (.invokevirtual 63, 3) := by decide +kernel
theorem dX10_house_65 : decode cX10_house 65 = .ok (.iload_n 1, 1) := by decide +kernel
theorem dX10_house_66 : decode cX10_house 66 = .ok (.ireturn, 1) := by decide +kernel
set_option maxRecDepth 20000 in
theorem ggX10_floor_X0_read : GoodIn wsX10_floor wsX0_read := goodIn_r _ [8, 9, 10, 11, 12, 13, 14, 15, 16, 17, 18, 19, 20, 21, 22, 23, 24, 25, 26, 27, 7, 28, 29, 30, 31, 32, 33, 34, 35, 36, 37, 67, 68, 69, 70, 71, 72, 73, 74] (by decide +kernel) (by decide +kernel)
set_option maxRecDepth 20000 in
theorem gX10_floor_X0_read : GoodIn wsX10_floor (wsV RX10 120 RX0 yX0_read wsX0_read) := goodIn_app (goodIn_of _ (by decide +kernel)) ggX10_floor_X0_read
set_option maxRecDepth 20000 in
theorem ggX10_floor_X8_empty : GoodIn wsX10_floor wsX8_empty := goodIn_r _ [41, 19, 73, 74] (by decide +kernel) (by decide +kernel)
set_option maxRecDepth 20000 in
theorem gX10_floor_X8_empty : GoodIn wsX10_floor (wsV RX10 117 RX8 yX8_empty wsX8_empty) := goodIn_app (goodIn_of _ (by decide +kernel)) ggX10_floor_X8_empty
set_option maxRecDepth 20000 in
theorem ggX10_floor_X0_become : GoodIn wsX10_floor wsX0_become := goodIn_r _ [45, 33, 46, 47, 48, 49, 9, 10, 11, 12, 13, 67, 68, 69, 70, 71, 72] (by decide +kernel) (by decide +kernel)
set_option maxRecDepth 20000 in
theorem gX10_floor_X0_become : GoodIn wsX10_floor (wsV RX10 126 RX0 yX0_become wsX0_become) := goodIn_app (goodIn_of _ (by decide +kernel)) ggX10_floor_X0_become
theorem dX10_floor_0 : decode cX10_floor 0 = .ok (.aload_n 0, 1) := by decide +kernel
theorem dX10_floor_1 : decode cX10_floor 1 = .ok (.getfield 39, 3) := by decide +kernel
theorem dX10_floor_4 : decode cX10_floor 4 = .ok (.aload_n 0, 1) := by decide +kernel
theorem dX10_floor_5 : decode cX10_floor 5 = .ok (.getfield 16, 3) := by decide +kernel
theorem dX10_floor_8 : decode cX10_floor 8 = .ok (.invokevirtual 120, 3) := by decide +kernel
theorem dX10_floor_11 : decode cX10_floor 11 = .ok (.istore_n 1, 1) := by decide +kernel
theorem dX10_floor_12 : decode cX10_floor 12 = .ok (.aload_n 0, 1) := by decide +kernel
theorem dX10_floor_13 : decode cX10_floor 13 = .ok (.getfield 16, 3) := by decide +kernel
theorem dX10_floor_16 : decode cX10_floor 16 = .ok (.invokevirtual 117, 3) := by decide +kernel
theorem dX10_floor_19 : decode cX10_floor 19 = .ok (.iload_n 1, 1) := by decide +kernel
theorem dX10_floor_20 : decode cX10_floor 20 = .ok (.bipush (-9), 2) := by decide +kernel
theorem dX10_floor_22 : decode cX10_floor 22 = .ok (.if_icmp .eq 8, 3) := by decide +kernel
theorem dX10_floor_25 : decode cX10_floor 25 = .ok (.bipush (-20), 2) := by decide +kernel
theorem dX10_floor_27 : decode cX10_floor 27 = .ok (.iload_n 1, 1) := by decide +kernel
theorem dX10_floor_28 : decode cX10_floor 28 = .ok (.isub, 1) := by decide +kernel
theorem dX10_floor_29 : decode cX10_floor 29 = .ok (.ireturn, 1) := by decide +kernel
theorem dX10_floor_30 : decode cX10_floor 30 = .ok (.aload_n 0, 1) := by decide +kernel
theorem dX10_floor_31 : decode cX10_floor 31 = .ok (.getfield 46, 3) := by decide +kernel
theorem dX10_floor_34 : decode cX10_floor 34 = .ok (.getfield 123, 3) := by decide +kernel
theorem dX10_floor_37 : decode cX10_floor 37 = .ok (.aload_n 0, 1) := by decide +kernel
theorem dX10_floor_38 : decode cX10_floor 38 = .ok (.getfield 39, 3) := by decide +kernel
theorem dX10_floor_41 : decode cX10_floor 41 = .ok (.invokevirtual 126, 3) := by decide +kernel
theorem dX10_floor_44 : decode cX10_floor 44 = .ok (.aload_n 0, 1) := by decide +kernel
theorem dX10_floor_45 : decode cX10_floor 45 = .ok (.getfield 46, 3) := by decide +kernel
theorem dX10_floor_48 : decode cX10_floor 48 = .ok (.getfield 123, 3) := by decide +kernel
theorem dX10_floor_51 : decode cX10_floor 51 = .ok (.getfield 129, 3) := by decide +kernel
theorem dX10_floor_54 : decode cX10_floor 54 = .ok (.ireturn, 1) := by decide +kernel
set_option maxRecDepth 20000 in
theorem ggX10_room_X1_hasRoom : GoodIn wsX10_room wsX1_hasRoom := goodIn_r _ [6, 7, 31, 32, 33, 34, 35, 36, 37] (by decide +kernel) (by decide +kernel)
set_option maxRecDepth 20000 in
theorem gX10_room_X1_hasRoom : GoodIn wsX10_room (wsV RX10 133 RX1 yX1_hasRoom wsX1_hasRoom) := goodIn_app (goodIn_of _ (by decide +kernel)) ggX10_room_X1_hasRoom
set_option maxRecDepth 20000 in
theorem ggX10_room_X10_refuse : GoodIn wsX10_room wsX10_refuse := goodIn_r _ [12, 13, 14, 15, 16, 17, 18, 19, 20, 21, 22, 23, 24, 25] (by decide +kernel) (by decide +kernel)
set_option maxRecDepth 20000 in
theorem gX10_room_X10_refuse : GoodIn wsX10_room (wsV RX10 94 RX10 yX10_refuse wsX10_refuse) := goodIn_app (goodIn_of _ (by decide +kernel)) ggX10_room_X10_refuse
theorem dX10_room_0 : decode cX10_room 0 = .ok (.aload_n 0, 1) := by decide +kernel
theorem dX10_room_1 : decode cX10_room 1 = .ok (.getfield 46, 3) := by decide +kernel
theorem dX10_room_4 : decode cX10_room 4 = .ok (.getfield 60, 3) := by decide +kernel
theorem dX10_room_7 : decode cX10_room 7 = .ok (.iload_n 1, 1) := by decide +kernel
theorem dX10_room_8 : decode cX10_room 8 = .ok (.invokevirtual 133, 3) := by decide +kernel
theorem dX10_room_11 : decode cX10_room 11 = .ok (.ifCond .ne 9, 3) := by decide +kernel
theorem dX10_room_14 : decode cX10_room 14 = .ok (.aload_n 0, 1) := by decide +kernel
theorem dX10_room_15 : decode cX10_room 15 = .ok (.iconst (-1), 1) := by decide +kernel
theorem dX10_room_16 : decode cX10_room 16 = .ok (.invokevirtual 94, 3) := by decide +kernel
theorem dX10_room_19 : decode cX10_room 19 = .ok (.ireturn, 1) := by decide +kernel
theorem dX10_room_20 : decode cX10_room 20 = .ok (.iload_n 2, 1) := by decide +kernel
theorem dX10_room_21 : decode cX10_room 21 = .ok (.lookupswitch 53 #[(0, 27), (1, 40)], 27) := by decide +kernel
theorem dX10_room_48 : decode cX10_room 48 = .ok (.aload_n 0, 1) := by decide +kernel
theorem dX10_room_49 : decode cX10_room 49 = .ok (.getfield 46, 3) := by decide +kernel
theorem dX10_room_52 : decode cX10_room 52 = .ok (.getfield 60, 3) := by decide +kernel
theorem dX10_room_55 : decode cX10_room 55 = .ok (.getfield 136, 3) := by decide +kernel
theorem dX10_room_58 : decode cX10_room 58 = .ok (.iload_n 1, 1) := by decide +kernel
theorem dX10_room_59 : decode cX10_room 59 = .ok (.iaload, 1) := by decide +kernel
theorem dX10_room_60 : decode cX10_room 60 = .ok (.ireturn, 1) := by decide +kernel
theorem dX10_room_61 : decode cX10_room 61 = .ok (.aload_n 0, 1) := by decide +kernel
theorem dX10_room_62 : decode cX10_room 62 = .ok (.getfield 46, 3) := by decide +kernel
theorem dX10_room_65 : decode cX10_room 65 = .ok (.getfield 60, 3) := by decide +kernel
theorem dX10_room_68 : decode cX10_room 68 = .ok (.getfield 139, 3) := by decide +kernel
theorem dX10_room_71 : decode cX10_room 71 = .ok (.iload_n 1, 1) := by decide +kernel
theorem dX10_room_72 : decode cX10_room 72 = .ok (.iaload, 1) := by decide +kernel
theorem dX10_room_73 : decode cX10_room 73 = .ok (.ireturn, 1) := by decide +kernel
theorem dX10_room_74 : decode cX10_room 74 = .ok (.aload_n 0, 1) := by decide +kernel
theorem dX10_room_75 : decode cX10_room 75 = .ok (.bipush (-2), 2) := by decide +kernel
theorem dX10_room_77 : decode cX10_room 77 = .ok (.invokevirtual 94, 3) := by decide +kernel
theorem dX10_room_80 : decode cX10_room 80 = .ok (.ireturn, 1) := by decide +kernel
set_option maxRecDepth 20000 in
theorem ggX10_door_X1_hasPlace : GoodIn wsX10_door wsX1_hasPlace := goodIn_r _ [6, 7, 36, 37, 38, 39, 40, 41, 42] (by decide +kernel) (by decide +kernel)
set_option maxRecDepth 20000 in
theorem gX10_door_X1_hasPlace : GoodIn wsX10_door (wsV RX10 142 RX1 yX1_hasPlace wsX1_hasPlace) := goodIn_app (goodIn_of _ (by decide +kernel)) ggX10_door_X1_hasPlace
set_option maxRecDepth 20000 in
theorem ggX10_door_X10_refuse : GoodIn wsX10_door wsX10_refuse := goodIn_r _ [12, 13, 19, 20, 21, 22, 23, 24, 25, 26, 27, 28, 29, 30] (by decide +kernel) (by decide +kernel)
set_option maxRecDepth 20000 in
theorem gX10_door_X10_refuse : GoodIn wsX10_door (wsV RX10 94 RX10 yX10_refuse wsX10_refuse) := goodIn_app (goodIn_of _ (by decide +kernel)) ggX10_door_X10_refuse
set_option maxRecDepth 20000 in
theorem ggX10_door_X1_joined : GoodIn wsX10_door wsX1_joined := goodIn_r _ [17, 18, 36, 37, 38, 39, 40, 41, 42] (by decide +kernel) (by decide +kernel)
set_option maxRecDepth 20000 in
theorem gX10_door_X1_joined : GoodIn wsX10_door (wsV RX10 145 RX1 yX1_joined wsX1_joined) := goodIn_app (goodIn_of _ (by decide +kernel)) ggX10_door_X1_joined
theorem dX10_door_0 : decode cX10_door 0 = .ok (.aload_n 0, 1) := by decide +kernel
theorem dX10_door_1 : decode cX10_door 1 = .ok (.getfield 46, 3) := by decide +kernel
theorem dX10_door_4 : decode cX10_door 4 = .ok (.getfield 60, 3) := by decide +kernel
theorem dX10_door_7 : decode cX10_door 7 = .ok (.iload_n 1, 1) := by decide +kernel
theorem dX10_door_8 : decode cX10_door 8 = .ok (.invokevirtual 142, 3) := by decide +kernel
theorem dX10_door_11 : decode cX10_door 11 = .ok (.ifCond .eq 17, 3) := by decide +kernel
theorem dX10_door_14 : decode cX10_door 14 = .ok (.aload_n 0, 1) := by decide +kernel
theorem dX10_door_15 : decode cX10_door 15 = .ok (.getfield 46, 3) := by decide +kernel
theorem dX10_door_18 : decode cX10_door 18 = .ok (.getfield 60, 3) := by decide +kernel
theorem dX10_door_21 : decode cX10_door 21 = .ok (.iload_n 2, 1) := by decide +kernel
theorem dX10_door_22 : decode cX10_door 22 = .ok (.invokevirtual 142, 3) := by decide +kernel
theorem dX10_door_25 : decode cX10_door 25 = .ok (.ifCond .ne 9, 3) := by decide +kernel
theorem dX10_door_28 : decode cX10_door 28 = .ok (.aload_n 0, 1) := by decide +kernel
theorem dX10_door_29 : decode cX10_door 29 = .ok (.iconst (-1), 1) := by decide +kernel
theorem dX10_door_30 : decode cX10_door 30 = .ok (.invokevirtual 94, 3) := by decide +kernel
theorem dX10_door_33 : decode cX10_door 33 = .ok (.ireturn, 1) := by decide +kernel
theorem dX10_door_34 : decode cX10_door 34 = .ok (.aload_n 0, 1) := by decide +kernel
theorem dX10_door_35 : decode cX10_door 35 = .ok (.getfield 46, 3) := by decide +kernel
theorem dX10_door_38 : decode cX10_door 38 = .ok (.getfield 60, 3) := by decide +kernel
theorem dX10_door_41 : decode cX10_door 41 = .ok (.iload_n 1, 1) := by decide +kernel
theorem dX10_door_42 : decode cX10_door 42 = .ok (.iload_n 2, 1) := by decide +kernel
theorem dX10_door_43 : decode cX10_door 43 = .ok (.invokevirtual 145, 3) := by decide +kernel
theorem dX10_door_46 : decode cX10_door 46 = .ok (.ifCond .eq 7, 3) := by decide +kernel
theorem dX10_door_49 : decode cX10_door 49 = .ok (.iconst 1, 1) := by decide +kernel
theorem dX10_door_50 : decode cX10_door 50 = .ok (.goto 4, 3) := by decide +kernel
theorem dX10_door_53 : decode cX10_door 53 = .ok (.iconst 0, 1) := by decide +kernel
theorem dX10_door_54 : decode cX10_door 54 = .ok (.ireturn, 1) := by decide +kernel
set_option maxRecDepth 20000 in
theorem ggX10_need_X10_refuse : GoodIn wsX10_need wsX10_refuse := goodIn_r _ [6, 7, 14, 15, 16, 17, 18, 19, 20, 21, 22, 23, 24, 25] (by decide +kernel) (by decide +kernel)
set_option maxRecDepth 20000 in
theorem gX10_need_X10_refuse : GoodIn wsX10_need (wsV RX10 94 RX10 yX10_refuse wsX10_refuse) := goodIn_app (goodIn_of _ (by decide +kernel)) ggX10_need_X10_refuse
set_option maxRecDepth 20000 in
theorem ggX10_need_X1_needPart : GoodIn wsX10_need wsX1_needPart := goodIn_r _ [12, 13, 31, 32, 33, 34, 35, 36, 37] (by decide +kernel) (by decide +kernel)
set_option maxRecDepth 20000 in
theorem gX10_need_X1_needPart : GoodIn wsX10_need (wsV RX10 152 RX1 yX1_needPart wsX1_needPart) := goodIn_app (goodIn_of _ (by decide +kernel)) ggX10_need_X1_needPart
theorem dX10_need_0 : decode cX10_need 0 = .ok (.iload_n 1, 1) := by decide +kernel
theorem dX10_need_1 : decode cX10_need 1 = .ok (.ifCond .lt 17, 3) := by decide +kernel
theorem dX10_need_4 : decode cX10_need 4 = .ok (.iload_n 1, 1) := by decide +kernel
theorem dX10_need_5 : decode cX10_need 5 = .ok (.aload_n 0, 1) := by decide +kernel
theorem dX10_need_6 : decode cX10_need 6 = .ok (.getfield 46, 3) := by decide +kernel
theorem dX10_need_9 : decode cX10_need 9 = .ok (.getfield 60, 3) := by decide +kernel
theorem dX10_need_12 : decode cX10_need 12 = .ok (.getfield 149, 3) := by decide +kernel
theorem dX10_need_15 : decode cX10_need 15 = .ok (.if_icmp .lt 9, 3) := by decide +kernel
theorem dX10_need_18 : decode cX10_need 18 = .ok (.aload_n 0, 1) := by decide +kernel
theorem dX10_need_19 : decode cX10_need 19 = .ok (.iconst (-1), 1) := by decide +kernel
theorem dX10_need_20 : decode cX10_need 20 = .ok (.invokevirtual 94, 3) := by decide +kernel
theorem dX10_need_23 : decode cX10_need 23 = .ok (.ireturn, 1) := by decide +kernel
theorem dX10_need_24 : decode cX10_need 24 = .ok (.iload_n 2, 1) := by decide +kernel
theorem dX10_need_25 : decode cX10_need 25 = .ok (.ifCond .lt 8, 3) := by decide +kernel
theorem dX10_need_28 : decode cX10_need 28 = .ok (.iload_n 2, 1) := by decide +kernel
theorem dX10_need_29 : decode cX10_need 29 = .ok (.iconst 4, 1) := by decide +kernel
theorem dX10_need_30 : decode cX10_need 30 = .ok (.if_icmp .lt 10, 3) := by decide +kernel
theorem dX10_need_33 : decode cX10_need 33 = .ok (.aload_n 0, 1) := by decide +kernel
theorem dX10_need_34 : decode cX10_need 34 = .ok (.bipush (-2), 2) := by decide +kernel
theorem dX10_need_36 : decode cX10_need 36 = .ok (.invokevirtual 94, 3) := by decide +kernel
theorem dX10_need_39 : decode cX10_need 39 = .ok (.ireturn, 1) := by decide +kernel
theorem dX10_need_40 : decode cX10_need 40 = .ok (.aload_n 0, 1) := by decide +kernel
theorem dX10_need_41 : decode cX10_need 41 = .ok (.getfield 46, 3) := by decide +kernel
theorem dX10_need_44 : decode cX10_need 44 = .ok (.getfield 60, 3) := by decide +kernel
theorem dX10_need_47 : decode cX10_need 47 = .ok (.iload_n 1, 1) := by decide +kernel
theorem dX10_need_48 : decode cX10_need 48 = .ok (.iload_n 2, 1) := by decide +kernel
theorem dX10_need_49 : decode cX10_need 49 = .ok (.invokevirtual 152, 3) := by decide +kernel
theorem dX10_need_52 : decode cX10_need 52 = .ok (.ireturn, 1) := by decide +kernel
set_option maxRecDepth 20000 in
theorem ggX10_set_X10_refuse : GoodIn wsX10_set wsX10_refuse := goodIn_r _ [6, 7, 8, 9, 10, 11, 12, 13, 14, 15, 16, 17, 18, 19] (by decide +kernel) (by decide +kernel)
set_option maxRecDepth 20000 in
theorem gX10_set_X10_refuse : GoodIn wsX10_set (wsV RX10 94 RX10 yX10_refuse wsX10_refuse) := goodIn_app (goodIn_of _ (by decide +kernel)) ggX10_set_X10_refuse
theorem dX10_set_0 : decode cX10_set 0 = .ok (.iload_n 1, 1) := by decide +kernel
theorem dX10_set_1 : decode cX10_set 1 = .ok (.ifCond .lt 8, 3) := by decide +kernel
theorem dX10_set_4 : decode cX10_set 4 = .ok (.iload_n 1, 1) := by decide +kernel
theorem dX10_set_5 : decode cX10_set 5 = .ok (.iconst 4, 1) := by decide +kernel
theorem dX10_set_6 : decode cX10_set 6 = .ok (.if_icmp .lt 10, 3) := by decide +kernel
theorem dX10_set_9 : decode cX10_set 9 = .ok (.aload_n 0, 1) := by decide +kernel
theorem dX10_set_10 : decode cX10_set 10 = .ok (.bipush (-2), 2) := by decide +kernel
theorem dX10_set_12 : decode cX10_set 12 = .ok (.invokevirtual 94, 3) := by decide +kernel
theorem dX10_set_15 : decode cX10_set 15 = .ok (.ireturn, 1) := by decide +kernel
theorem dX10_set_16 : decode cX10_set 16 = .ok (.iload_n 2, 1) := by decide +kernel
theorem dX10_set_17 : decode cX10_set 17 = .ok (.getstatic 156, 3) := by decide +kernel
theorem dX10_set_20 : decode cX10_set 20 = .ok (.iload_n 1, 1) := by decide +kernel
theorem dX10_set_21 : decode cX10_set 21 = .ok (.iaload, 1) := by decide +kernel
theorem dX10_set_22 : decode cX10_set 22 = .ok (.if_icmp .ge 10, 3) := by decide +kernel
theorem dX10_set_25 : decode cX10_set 25 = .ok (.aload_n 0, 1) := by decide +kernel
theorem dX10_set_26 : decode cX10_set 26 = .ok (.bipush (-4), 2) := by decide +kernel
theorem dX10_set_28 : decode cX10_set 28 = .ok (.invokevirtual 94, 3) := by decide +kernel
theorem dX10_set_31 : decode cX10_set 31 = .ok (.ireturn, 1) := by decide +kernel
theorem dX10_set_32 : decode cX10_set 32 = .ok (.iload_n 2, 1) := by decide +kernel
theorem dX10_set_33 : decode cX10_set 33 = .ok (.getstatic 159, 3) := by decide +kernel
theorem dX10_set_36 : decode cX10_set 36 = .ok (.iload_n 1, 1) := by decide +kernel
theorem dX10_set_37 : decode cX10_set 37 = .ok (.iaload, 1) := by decide +kernel
theorem dX10_set_38 : decode cX10_set 38 = .ok (.if_icmp .le 10, 3) := by decide +kernel
theorem dX10_set_41 : decode cX10_set 41 = .ok (.aload_n 0, 1) := by decide +kernel
theorem dX10_set_42 : decode cX10_set 42 = .ok (.bipush (-6), 2) := by decide +kernel
theorem dX10_set_44 : decode cX10_set 44 = .ok (.invokevirtual 94, 3) := by decide +kernel
theorem dX10_set_47 : decode cX10_set 47 = .ok (.ireturn, 1) := by decide +kernel
theorem dX10_set_48 : decode cX10_set 48 = .ok (.aload_n 0, 1) := by decide +kernel
theorem dX10_set_49 : decode cX10_set 49 = .ok (.getfield 46, 3) := by decide +kernel
theorem dX10_set_52 : decode cX10_set 52 = .ok (.getfield 162, 3) := by decide +kernel
theorem dX10_set_55 : decode cX10_set 55 = .ok (.iload_n 1, 1) := by decide +kernel
theorem dX10_set_56 : decode cX10_set 56 = .ok (.iaload, 1) := by decide +kernel
theorem dX10_set_57 : decode cX10_set 57 = .ok (.istore_n 3, 1) := by decide +kernel
theorem dX10_set_58 : decode cX10_set 58 = .ok (.aload_n 0, 1) := by decide +kernel
theorem dX10_set_59 : decode cX10_set 59 = .ok (.getfield 46, 3) := by decide +kernel
theorem dX10_set_62 : decode cX10_set 62 = .ok (.getfield 162, 3) := by decide +kernel
theorem dX10_set_65 : decode cX10_set 65 = .ok (.iload_n 1, 1) := by decide +kernel
theorem dX10_set_66 : decode cX10_set 66 = .ok (.iload_n 2, 1) := by decide +kernel
theorem dX10_set_67 : decode cX10_set 67 = .ok (.iastore, 1) := by decide +kernel
theorem dX10_set_68 : decode cX10_set 68 = .ok (.iload_n 3, 1) := by decide +kernel
theorem dX10_set_69 : decode cX10_set 69 = .ok (.ireturn, 1) := by decide +kernel
set_option maxRecDepth 20000 in
theorem ggX10_planks_X1_everyRoom : GoodIn wsX10_planks wsX1_everyRoom := goodIn_r _ [6, 7, 8, 9, 5, 10, 11, 35, 36, 37, 38, 39, 40, 41] (by decide +kernel) (by decide +kernel)
set_option maxRecDepth 20000 in
theorem gX10_planks_X1_everyRoom : GoodIn wsX10_planks (wsV RX10 165 RX1 yX1_everyRoom wsX1_everyRoom) := goodIn_app (goodIn_of _ (by decide +kernel)) ggX10_planks_X1_everyRoom
set_option maxRecDepth 20000 in
theorem ggX10_planks_X10_refuse : GoodIn wsX10_planks wsX10_refuse := goodIn_r _ [16, 17, 18, 19, 20, 21, 22, 23, 24, 25, 26, 27, 28, 29] (by decide +kernel) (by decide +kernel)
set_option maxRecDepth 20000 in
theorem gX10_planks_X10_refuse : GoodIn wsX10_planks (wsV RX10 94 RX10 yX10_refuse wsX10_refuse) := goodIn_app (goodIn_of _ (by decide +kernel)) ggX10_planks_X10_refuse
theorem dX10_planks_0 : decode cX10_planks 0 = .ok (.iload_n 1, 1) := by decide +kernel
theorem dX10_planks_1 : decode cX10_planks 1 = .ok (.aload_n 0, 1) := by decide +kernel
theorem dX10_planks_2 : decode cX10_planks 2 = .ok (.getfield 46, 3) := by decide +kernel
theorem dX10_planks_5 : decode cX10_planks 5 = .ok (.getfield 60, 3) := by decide +kernel
theorem dX10_planks_8 : decode cX10_planks 8 = .ok (.invokevirtual 165, 3) := by decide +kernel
theorem dX10_planks_11 : decode cX10_planks 11 = .ok (.iconst (-1), 1) := by decide +kernel
theorem dX10_planks_12 : decode cX10_planks 12 = .ok (.ixor, 1) := by decide +kernel
theorem dX10_planks_13 : decode cX10_planks 13 = .ok (.iand, 1) := by decide +kernel
theorem dX10_planks_14 : decode cX10_planks 14 = .ok (.ifCond .eq 9, 3) := by decide +kernel
theorem dX10_planks_17 : decode cX10_planks 17 = .ok (.aload_n 0, 1) := by decide +kernel
theorem dX10_planks_18 : decode cX10_planks 18 = .ok (.iconst (-1), 1) := by decide +kernel
theorem dX10_planks_19 : decode cX10_planks 19 = .ok (.invokevirtual 94, 3) := by decide +kernel
theorem dX10_planks_22 : decode cX10_planks 22 = .ok (.ireturn, 1) := by decide +kernel
theorem dX10_planks_23 : decode cX10_planks 23 = .ok (.aload_n 0, 1) := by decide +kernel
theorem dX10_planks_24 : decode cX10_planks 24 = .ok (.getfield 46, 3) := by decide +kernel
theorem dX10_planks_27 : decode cX10_planks 27 = .ok (.getfield 168, 3) := by decide +kernel
theorem dX10_planks_30 : decode cX10_planks 30 = .ok (.istore_n 2, 1) := by decide +kernel
theorem dX10_planks_31 : decode cX10_planks 31 = .ok (.aload_n 0, 1) := by decide +kernel
theorem dX10_planks_32 : decode cX10_planks 32 = .ok (.getfield 46, 3) := by decide +kernel
theorem dX10_planks_35 : decode cX10_planks 35 = .ok (.iload_n 1, 1) := by decide +kernel
theorem dX10_planks_36 : decode cX10_planks 36 = .ok (.putfield 168, 3) := by decide +kernel
theorem dX10_planks_39 : decode cX10_planks 39 = .ok (.iload_n 2, 1) := by decide +kernel
theorem dX10_planks_40 : decode cX10_planks 40 = .ok (.ireturn, 1) := by decide +kernel
set_option maxRecDepth 20000 in
theorem ggX10_step_X1_hasRoom : GoodIn wsX10_step wsX1_hasRoom := goodIn_r _ [6, 7, 49, 50, 51, 52, 53, 54, 55] (by decide +kernel) (by decide +kernel)
set_option maxRecDepth 20000 in
theorem gX10_step_X1_hasRoom : GoodIn wsX10_step (wsV RX10 133 RX1 yX1_hasRoom wsX1_hasRoom) := goodIn_app (goodIn_of _ (by decide +kernel)) ggX10_step_X1_hasRoom
set_option maxRecDepth 20000 in
theorem ggX10_step_X10_refuse : GoodIn wsX10_step wsX10_refuse := goodIn_r _ [12, 13, 29, 30, 31, 32, 33, 34, 35, 36, 37, 38, 39, 40] (by decide +kernel) (by decide +kernel)
set_option maxRecDepth 20000 in
theorem gX10_step_X10_refuse : GoodIn wsX10_step (wsV RX10 94 RX10 yX10_refuse wsX10_refuse) := goodIn_app (goodIn_of _ (by decide +kernel)) ggX10_step_X10_refuse
set_option maxRecDepth 20000 in
theorem ggX10_step_X10_refusalOfHour : GoodIn wsX10_step wsX10_refusalOfHour := goodIn_r _ [16] (by decide +kernel) (by decide +kernel)
set_option maxRecDepth 20000 in
theorem gX10_step_X10_refusalOfHour : GoodIn wsX10_step (va_wsS RX10 171 yX10_refusalOfHour wsX10_refusalOfHour) := goodIn_app (goodIn_of _ (by decide +kernel)) ggX10_step_X10_refusalOfHour
set_option maxRecDepth 20000 in
theorem ggX10_step_X5_isFull : GoodIn wsX10_step wsX5_isFull := goodIn_r _ [21, 22, 46, 47, 48] (by decide +kernel) (by decide +kernel)
set_option maxRecDepth 20000 in
theorem gX10_step_X5_isFull : GoodIn wsX10_step (wsV RX10 178 RX5 yX5_isFull wsX5_isFull) := goodIn_app (goodIn_of _ (by decide +kernel)) ggX10_step_X5_isFull
set_option maxRecDepth 20000 in
theorem ggX10_step_X5_append : GoodIn wsX10_step wsX5_append := goodIn_r _ [26, 22, 27, 28, 46, 47, 48] (by decide +kernel) (by decide +kernel)
set_option maxRecDepth 20000 in
theorem gX10_step_X5_append : GoodIn wsX10_step (wsV RX10 184 RX5 yX5_append wsX5_append) := goodIn_app (goodIn_of _ (by decide +kernel)) ggX10_step_X5_append
theorem dX10_step_0 : decode cX10_step 0 = .ok (.aload_n 0, 1) := by decide +kernel
theorem dX10_step_1 : decode cX10_step 1 = .ok (.getfield 46, 3) := by decide +kernel
theorem dX10_step_4 : decode cX10_step 4 = .ok (.getfield 60, 3) := by decide +kernel
theorem dX10_step_7 : decode cX10_step 7 = .ok (.iload_n 1, 1) := by decide +kernel
theorem dX10_step_8 : decode cX10_step 8 = .ok (.invokevirtual 133, 3) := by decide +kernel
theorem dX10_step_11 : decode cX10_step 11 = .ok (.ifCond .ne 9, 3) := by decide +kernel
theorem dX10_step_14 : decode cX10_step 14 = .ok (.aload_n 0, 1) := by decide +kernel
theorem dX10_step_15 : decode cX10_step 15 = .ok (.iconst (-1), 1) := by decide +kernel
theorem dX10_step_16 : decode cX10_step 16 = .ok (.invokevirtual 94, 3) := by decide +kernel
theorem dX10_step_19 : decode cX10_step 19 = .ok (.ireturn, 1) := by decide +kernel
theorem dX10_step_20 : decode cX10_step 20 = .ok (.iload_n 2, 1) := by decide +kernel
theorem dX10_step_21 : decode cX10_step 21 = .ok (.invokestatic 171, 3) := by decide +kernel
theorem dX10_step_24 : decode cX10_step 24 = .ok (.istore_n 3, 1) := by decide +kernel
theorem dX10_step_25 : decode cX10_step 25 = .ok (.iload_n 3, 1) := by decide +kernel
theorem dX10_step_26 : decode cX10_step 26 = .ok (.ifCond .eq 9, 3) := by decide +kernel
theorem dX10_step_29 : decode cX10_step 29 = .ok (.aload_n 0, 1) := by decide +kernel
theorem dX10_step_30 : decode cX10_step 30 = .ok (.iload_n 3, 1) := by decide +kernel
theorem dX10_step_31 : decode cX10_step 31 = .ok (.invokevirtual 94, 3) := by decide +kernel
theorem dX10_step_34 : decode cX10_step 34 = .ok (.ireturn, 1) := by decide +kernel
theorem dX10_step_35 : decode cX10_step 35 = .ok (.aload_n 0, 1) := by decide +kernel
theorem dX10_step_36 : decode cX10_step 36 = .ok (.getfield 46, 3) := by decide +kernel
theorem dX10_step_39 : decode cX10_step 39 = .ok (.getfield 174, 3) := by decide +kernel
theorem dX10_step_42 : decode cX10_step 42 = .ok (.invokevirtual 178, 3) := by decide +kernel
theorem dX10_step_45 : decode cX10_step 45 = .ok (.ifCond .eq 10, 3) := by decide +kernel
theorem dX10_step_48 : decode cX10_step 48 = .ok (.aload_n 0, 1) := by decide +kernel
theorem dX10_step_49 : decode cX10_step 49 = .ok (.bipush (-6), 2) := by decide +kernel
theorem dX10_step_51 : decode cX10_step 51 = .ok (.invokevirtual 94, 3) := by decide +kernel
theorem dX10_step_54 : decode cX10_step 54 = .ok (.ireturn, 1) := by decide +kernel
theorem dX10_step_55 : decode cX10_step 55 = .ok (.aload_n 0, 1) := by decide +kernel
theorem dX10_step_56 : decode cX10_step 56 = .ok (.getfield 46, 3) := by decide +kernel
theorem dX10_step_59 : decode cX10_step 59 = .ok (.getfield 174, 3) := by decide +kernel
theorem dX10_step_62 : decode cX10_step 62 = .ok (.iload_n 1, 1) := by decide +kernel
theorem dX10_step_63 : decode cX10_step 63 = .ok (.iload_n 2, 1) := by decide +kernel
theorem dX10_step_64 : decode cX10_step 64 = .ok (.invokevirtual 184, 3) := by decide +kernel
theorem dX10_step_67 : decode cX10_step 67 = .ok (.aload_n 0, 1) := by decide +kernel
theorem dX10_step_68 : decode cX10_step 68 = .ok (.getfield 46, 3) := by decide +kernel
theorem dX10_step_71 : decode cX10_step 71 = .ok (.getfield 174, 3) := by decide +kernel
theorem dX10_step_74 : decode cX10_step 74 = .ok (.getfield 187, 3) := by decide +kernel
theorem dX10_step_77 : decode cX10_step 77 = .ok (.ireturn, 1) := by decide +kernel
set_option maxRecDepth 20000 in
theorem ggX10_stepOf_X10_refuse : GoodIn wsX10_stepOf wsX10_refuse := goodIn_r _ [6, 7, 8, 9, 10, 11, 12, 13, 14, 15, 16, 17, 18, 19] (by decide +kernel) (by decide +kernel)
set_option maxRecDepth 20000 in
theorem gX10_stepOf_X10_refuse : GoodIn wsX10_stepOf (wsV RX10 94 RX10 yX10_refuse wsX10_refuse) := goodIn_app (goodIn_of _ (by decide +kernel)) ggX10_stepOf_X10_refuse
theorem dX10_stepOf_0 : decode cX10_stepOf 0 = .ok (.iload_n 1, 1) := by decide +kernel
theorem dX10_stepOf_1 : decode cX10_stepOf 1 = .ok (.ifCond .lt 17, 3) := by decide +kernel
theorem dX10_stepOf_4 : decode cX10_stepOf 4 = .ok (.iload_n 1, 1) := by decide +kernel
theorem dX10_stepOf_5 : decode cX10_stepOf 5 = .ok (.aload_n 0, 1) := by decide +kernel
theorem dX10_stepOf_6 : decode cX10_stepOf 6 = .ok (.getfield 46, 3) := by decide +kernel
theorem dX10_stepOf_9 : decode cX10_stepOf 9 = .ok (.getfield 174, 3) := by decide +kernel
theorem dX10_stepOf_12 : decode cX10_stepOf 12 = .ok (.getfield 187, 3) := by decide +kernel
theorem dX10_stepOf_15 : decode cX10_stepOf 15 = .ok (.if_icmp .lt 9, 3) := by decide +kernel
theorem dX10_stepOf_18 : decode cX10_stepOf 18 = .ok (.aload_n 0, 1) := by decide +kernel
theorem dX10_stepOf_19 : decode cX10_stepOf 19 = .ok (.iconst (-1), 1) := by decide +kernel
theorem dX10_stepOf_20 : decode cX10_stepOf 20 = .ok (.invokevirtual 94, 3) := by decide +kernel
theorem dX10_stepOf_23 : decode cX10_stepOf 23 = .ok (.ireturn, 1) := by decide +kernel
theorem dX10_stepOf_24 : decode cX10_stepOf 24 = .ok (.iload_n 2, 1) := by decide +kernel
theorem dX10_stepOf_25 : decode cX10_stepOf 25 = .ok (.lookupswitch 53 #[(0, 27), (1, 40)], 27) := by decide +kernel
theorem dX10_stepOf_52 : decode cX10_stepOf 52 = .ok (.aload_n 0, 1) := by decide +kernel
theorem dX10_stepOf_53 : decode cX10_stepOf 53 = .ok (.getfield 46, 3) := by decide +kernel
theorem dX10_stepOf_56 : decode cX10_stepOf 56 = .ok (.getfield 174, 3) := by decide +kernel
theorem dX10_stepOf_59 : decode cX10_stepOf 59 = .ok (.getfield 190, 3) := by decide +kernel
theorem dX10_stepOf_62 : decode cX10_stepOf 62 = .ok (.iload_n 1, 1) := by decide +kernel
theorem dX10_stepOf_63 : decode cX10_stepOf 63 = .ok (.iaload, 1) := by decide +kernel
theorem dX10_stepOf_64 : decode cX10_stepOf 64 = .ok (.ireturn, 1) := by decide +kernel
theorem dX10_stepOf_65 : decode cX10_stepOf 65 = .ok (.aload_n 0, 1) := by decide +kernel
theorem dX10_stepOf_66 : decode cX10_stepOf 66 = .ok (.getfield 46, 3) := by decide +kernel
theorem dX10_stepOf_69 : decode cX10_stepOf 69 = .ok (.getfield 174, 3) := by decide +kernel
theorem dX10_stepOf_72 : decode cX10_stepOf 72 = .ok (.getfield 193, 3) := by decide +kernel
theorem dX10_stepOf_75 : decode cX10_stepOf 75 = .ok (.iload_n 1, 1) := by decide +kernel
theorem dX10_stepOf_76 : decode cX10_stepOf 76 = .ok (.iaload, 1) := by decide +kernel
theorem dX10_stepOf_77 : decode cX10_stepOf 77 = .ok (.ireturn, 1) := by decide +kernel
theorem dX10_stepOf_78 : decode cX10_stepOf 78 = .ok (.aload_n 0, 1) := by decide +kernel
theorem dX10_stepOf_79 : decode cX10_stepOf 79 = .ok (.bipush (-2), 2) := by decide +kernel
theorem dX10_stepOf_81 : decode cX10_stepOf 81 = .ok (.invokevirtual 94, 3) := by decide +kernel
theorem dX10_stepOf_84 : decode cX10_stepOf 84 = .ok (.ireturn, 1) := by decide +kernel
set_option maxRecDepth 20000 in
theorem ggX10_clear_X5_shorten : GoodIn wsX10_clear wsX5_shorten := goodIn_r _ [6, 7, 25, 26, 27] (by decide +kernel) (by decide +kernel)
set_option maxRecDepth 20000 in
theorem gX10_clear_X5_shorten : GoodIn wsX10_clear (wsV RX10 196 RX5 yX5_shorten wsX5_shorten) := goodIn_app (goodIn_of _ (by decide +kernel)) ggX10_clear_X5_shorten
theorem dX10_clear_0 : decode cX10_clear 0 = .ok (.aload_n 0, 1) := by decide +kernel
theorem dX10_clear_1 : decode cX10_clear 1 = .ok (.getfield 46, 3) := by decide +kernel
theorem dX10_clear_4 : decode cX10_clear 4 = .ok (.getfield 174, 3) := by decide +kernel
theorem dX10_clear_7 : decode cX10_clear 7 = .ok (.getfield 187, 3) := by decide +kernel
theorem dX10_clear_10 : decode cX10_clear 10 = .ok (.istore_n 1, 1) := by decide +kernel
theorem dX10_clear_11 : decode cX10_clear 11 = .ok (.aload_n 0, 1) := by decide +kernel
theorem dX10_clear_12 : decode cX10_clear 12 = .ok (.getfield 46, 3) := by decide +kernel
theorem dX10_clear_15 : decode cX10_clear 15 = .ok (.getfield 174, 3) := by decide +kernel
theorem dX10_clear_18 : decode cX10_clear 18 = .ok (.iconst 0, 1) := by decide +kernel
theorem dX10_clear_19 : decode cX10_clear 19 = .ok (.invokevirtual 196, 3) := by decide +kernel
theorem dX10_clear_22 : decode cX10_clear 22 = .ok (.iload_n 1, 1) := by decide +kernel
theorem dX10_clear_23 : decode cX10_clear 23 = .ok (.ireturn, 1) := by decide +kernel
set_option maxRecDepth 20000 in
theorem ggX10_judged_X10_refuse : GoodIn wsX10_judged wsX10_refuse := goodIn_r _ [6, 7, 96, 97, 98, 99, 100, 101, 102, 103, 104, 105, 106, 107] (by decide +kernel) (by decide +kernel)
set_option maxRecDepth 20000 in
theorem gX10_judged_X10_refuse : GoodIn wsX10_judged (wsV RX10 94 RX10 yX10_refuse wsX10_refuse) := goodIn_app (goodIn_of _ (by decide +kernel)) ggX10_judged_X10_refuse
set_option maxRecDepth 20000 in
theorem ggX10_judged_X3_look : GoodIn wsX10_judged wsX3_look := goodIn_r _ [12, 13, 14, 15, 16, 17, 18, 11, 19, 20, 21, 22, 23, 24, 25, 26, 27, 28, 29, 30, 31, 32, 33, 34, 35, 36, 37, 38, 39, 40, 41, 42, 43, 44, 45, 46, 47, 48, 49, 50, 51, 52, 53, 54, 55, 56, 57, 58, 59, 60, 61, 62, 63, 64, 65, 66, 67, 68, 69, 70, 71, 72, 73, 74, 75, 76, 77, 78, 79, 80, 81, 82, 83, 84, 85, 86, 87, 88, 89, 90, 91, 92, 93, 94, 95, 108, 109, 110, 111, 112, 113, 114, 115, 116, 117, 118, 119, 120, 121, 122, 123, 124, 125, 126, 127, 128] (by decide +kernel) (by decide +kernel)
set_option maxRecDepth 20000 in
theorem gX10_judged_X3_look : GoodIn wsX10_judged (wsV RX10 200 RX3 yX3_look wsX3_look) := goodIn_app (goodIn_of _ (by decide +kernel)) ggX10_judged_X3_look
theorem dX10_judged_0 : decode cX10_judged 0 = .ok (.iload_n 1, 1) := by decide +kernel
theorem dX10_judged_1 : decode cX10_judged 1 = .ok (.ifCond .eq 15, 3) := by decide +kernel
theorem dX10_judged_4 : decode cX10_judged 4 = .ok (.iload_n 1, 1) := by decide +kernel
theorem dX10_judged_5 : decode cX10_judged 5 = .ok (.iconst 1, 1) := by decide +kernel
theorem dX10_judged_6 : decode cX10_judged 6 = .ok (.if_icmp .eq 10, 3) := by decide +kernel
theorem dX10_judged_9 : decode cX10_judged 9 = .ok (.aload_n 0, 1) := by decide +kernel
theorem dX10_judged_10 : decode cX10_judged 10 = .ok (.bipush (-2), 2) := by decide +kernel
theorem dX10_judged_12 : decode cX10_judged 12 = .ok (.invokevirtual 94, 3) := by decide +kernel
theorem dX10_judged_15 : decode cX10_judged 15 = .ok (.ireturn, 1) := by decide +kernel
theorem dX10_judged_16 : decode cX10_judged 16 = .ok (.aload_n 0, 1) := by decide +kernel
theorem dX10_judged_17 : decode cX10_judged 17 = .ok (.getfield 72, 3) := by decide +kernel
theorem dX10_judged_20 : decode cX10_judged 20 = .ok (.invokevirtual 200, 3) := by decide +kernel
theorem dX10_judged_23 : decode cX10_judged 23 = .ok (.iload_n 1, 1) := by decide +kernel
theorem dX10_judged_24 : decode cX10_judged 24 = .ok (.ifCond .ne 13, 3) := by decide +kernel
theorem dX10_judged_27 : decode cX10_judged 27 = .ok (.aload_n 0, 1) := by decide +kernel
theorem dX10_judged_28 : decode cX10_judged 28 = .ok (.getfield 72, 3) := by decide +kernel
theorem dX10_judged_31 : decode cX10_judged 31 = .ok (.getfield 203, 3) := by decide +kernel
theorem dX10_judged_34 : decode cX10_judged 34 = .ok (.goto 10, 3) := by decide +kernel
theorem dX10_judged_37 : decode cX10_judged 37 = .ok (.aload_n 0, 1) := by decide +kernel
theorem dX10_judged_38 : decode cX10_judged 38 = .ok (.getfield 72, 3) := by decide +kernel
theorem dX10_judged_41 : decode cX10_judged 41 = .ok (.getfield 206, 3) := by decide +kernel
theorem dX10_judged_44 : decode cX10_judged 44 = .ok (.ireturn, 1) := by decide +kernel
set_option maxRecDepth 20000 in
theorem ggX10_done_X6_doneHour : GoodIn wsX10_done wsX6_doneHour := goodIn_r _ [6, 7, 8, 9, 10, 5, 11, 12, 13, 26, 27, 28, 29, 30, 31, 32, 33, 34, 35, 36, 37, 38, 39, 40] (by decide +kernel) (by decide +kernel)
set_option maxRecDepth 20000 in
theorem gX10_done_X6_doneHour : GoodIn wsX10_done (wsV RX10 209 RX6 yX6_doneHour wsX6_doneHour) := goodIn_app (goodIn_of _ (by decide +kernel)) ggX10_done_X6_doneHour
theorem dX10_done_0 : decode cX10_done 0 = .ok (.aload_n 0, 1) := by decide +kernel
theorem dX10_done_1 : decode cX10_done 1 = .ok (.getfield 46, 3) := by decide +kernel
theorem dX10_done_4 : decode cX10_done 4 = .ok (.getfield 174, 3) := by decide +kernel
theorem dX10_done_7 : decode cX10_done 7 = .ok (.getfield 187, 3) := by decide +kernel
theorem dX10_done_10 : decode cX10_done 10 = .ok (.ifCond .ne 8, 3) := by decide +kernel
theorem dX10_done_13 : decode cX10_done 13 = .ok (.bipush (-9), 2) := by decide +kernel
theorem dX10_done_15 : decode cX10_done 15 = .ok (.goto 22, 3) := by decide +kernel
theorem dX10_done_18 : decode cX10_done 18 = .ok (.aload_n 0, 1) := by decide +kernel
theorem dX10_done_19 : decode cX10_done 19 = .ok (.getfield 46, 3) := by decide +kernel
theorem dX10_done_22 : decode cX10_done 22 = .ok (.aload_n 0, 1) := by decide +kernel
theorem dX10_done_23 : decode cX10_done 23 = .ok (.getfield 46, 3) := by decide +kernel
theorem dX10_done_26 : decode cX10_done 26 = .ok (.getfield 174, 3) := by decide +kernel
theorem dX10_done_29 : decode cX10_done 29 = .ok (.getfield 187, 3) := by decide +kernel
theorem dX10_done_32 : decode cX10_done 32 = .ok (.iconst 1, 1) := by decide +kernel
theorem dX10_done_33 : decode cX10_done 33 = .ok (.isub, 1) := by decide +kernel
theorem dX10_done_34 : decode cX10_done 34 = .ok (.invokevirtual 209, 3) := by decide +kernel
theorem dX10_done_37 : decode cX10_done 37 = .ok (.ireturn, 1) := by decide +kernel
set_option maxRecDepth 20000 in
theorem ggX10_where_X10_refuse : GoodIn wsX10_where wsX10_refuse := goodIn_r _ [7, 8, 47, 48, 49, 50, 51, 52, 53, 54, 55, 56, 57, 58] (by decide +kernel) (by decide +kernel)
set_option maxRecDepth 20000 in
theorem gX10_where_X10_refuse : GoodIn wsX10_where (wsV RX10 94 RX10 yX10_refuse wsX10_refuse) := goodIn_app (goodIn_of _ (by decide +kernel)) ggX10_where_X10_refuse
set_option maxRecDepth 20000 in
theorem ggX10_where_X3_placeBehind : GoodIn wsX10_where wsX3_placeBehind := goodIn_r _ [13, 14, 15, 16, 17, 12, 18, 19, 20, 21, 22, 23, 24, 25, 26, 27, 28, 29, 30, 31, 32, 33, 34, 35, 36, 37, 38, 39, 40, 41, 42, 43, 44, 45, 46, 67, 68, 69, 70, 59, 60, 61, 62, 63, 64, 65, 66, 71, 72, 73, 74, 75, 76, 77] (by decide +kernel) (by decide +kernel)
set_option maxRecDepth 20000 in
theorem gX10_where_X3_placeBehind : GoodIn wsX10_where (wsV RX10 212 RX3 yX3_placeBehind wsX3_placeBehind) := goodIn_app (goodIn_of _ (by decide +kernel)) ggX10_where_X3_placeBehind
theorem dX10_where_0 : decode cX10_where 0 = .ok (.iload_n 1, 1) := by decide +kernel
theorem dX10_where_1 : decode cX10_where 1 = .ok (.ifCond .lt 17, 3) := by decide +kernel
theorem dX10_where_4 : decode cX10_where 4 = .ok (.iload_n 1, 1) := by decide +kernel
theorem dX10_where_5 : decode cX10_where 5 = .ok (.aload_n 0, 1) := by decide +kernel
theorem dX10_where_6 : decode cX10_where 6 = .ok (.getfield 46, 3) := by decide +kernel
theorem dX10_where_9 : decode cX10_where 9 = .ok (.getfield 174, 3) := by decide +kernel
theorem dX10_where_12 : decode cX10_where 12 = .ok (.getfield 187, 3) := by decide +kernel
theorem dX10_where_15 : decode cX10_where 15 = .ok (.if_icmp .le 9, 3) := by decide +kernel
theorem dX10_where_18 : decode cX10_where 18 = .ok (.aload_n 0, 1) := by decide +kernel
theorem dX10_where_19 : decode cX10_where 19 = .ok (.iconst (-1), 1) := by decide +kernel
theorem dX10_where_20 : decode cX10_where 20 = .ok (.invokevirtual 94, 3) := by decide +kernel
theorem dX10_where_23 : decode cX10_where 23 = .ok (.ireturn, 1) := by decide +kernel
theorem dX10_where_24 : decode cX10_where 24 = .ok (.aload_n 0, 1) := by decide +kernel
theorem dX10_where_25 : decode cX10_where 25 = .ok (.getfield 72, 3) := by decide +kernel
theorem dX10_where_28 : decode cX10_where 28 = .ok (.iload_n 1, 1) := by decide +kernel
theorem dX10_where_29 : decode cX10_where 29 = .ok (.invokevirtual 212, 3) := by decide +kernel
theorem dX10_where_32 : decode cX10_where 32 = .ok (.ireturn, 1) := by decide +kernel
set_option maxRecDepth 20000 in
theorem ggX10_soonest_X10_refuse : GoodIn wsX10_soonest wsX10_refuse := goodIn_r _ [7, 8, 144, 145, 146, 147, 148, 149, 150, 151, 152, 153, 154, 155] (by decide +kernel) (by decide +kernel)
set_option maxRecDepth 20000 in
theorem gX10_soonest_X10_refuse : GoodIn wsX10_soonest (wsV RX10 94 RX10 yX10_refuse wsX10_refuse) := goodIn_app (goodIn_of _ (by decide +kernel)) ggX10_soonest_X10_refuse
set_option maxRecDepth 20000 in
theorem ggX10_soonest_X1_coatsInAll : GoodIn wsX10_soonest wsX1_coatsInAll := goodIn_r _ [13, 14, 15, 161, 162, 163, 164, 165, 166, 167] (by decide +kernel) (by decide +kernel)
set_option maxRecDepth 20000 in
theorem gX10_soonest_X1_coatsInAll : GoodIn wsX10_soonest (wsV RX10 217 RX1 yX1_coatsInAll wsX1_coatsInAll) := goodIn_app (goodIn_of _ (by decide +kernel)) ggX10_soonest_X1_coatsInAll
set_option maxRecDepth 20000 in
theorem ggX10_soonest_X7_soonestWith : GoodIn wsX10_soonest wsX7_soonestWith := goodIn_r _ [20, 21, 22, 23, 24, 25, 19, 26, 27, 28, 29, 30, 31, 32, 33, 34, 35, 12, 36, 37, 38, 39, 40, 41, 42, 43, 44, 45, 46, 47, 48, 49, 50, 51, 52, 53, 54, 55, 56, 57, 58, 59, 60, 61, 62, 63, 64, 65, 66, 67, 68, 69, 70, 71, 72, 73, 74, 75, 76, 77, 78, 79, 80, 81, 82, 83, 84, 85, 86, 87, 88, 89, 90, 91, 92, 93, 94, 95, 96, 97, 98, 99, 100, 101, 102, 103, 104, 105, 106, 107, 108, 109, 110, 111, 112, 113, 114, 115, 116, 117, 118, 119, 120, 121, 122, 123, 124, 125, 126, 127, 128, 129, 130, 14, 131, 132, 133, 134, 135, 136, 137, 138, 139, 140, 141, 142, 168, 169, 170, 171, 172, 173, 174, 175, 176, 177, 178, 179, 180, 181, 156, 157, 158, 159, 160, 161, 162, 163, 164, 165, 166, 167, 182, 183, 184, 185, 186] (by decide +kernel) (by decide +kernel)
set_option maxRecDepth 20000 in
theorem gX10_soonest_X7_soonestWith : GoodIn wsX10_soonest (wsV RX10 220 RX7 yX7_soonestWith wsX7_soonestWith) := goodIn_app (goodIn_of _ (by decide +kernel)) ggX10_soonest_X7_soonestWith
set_option maxRecDepth 20000 in
theorem ggX10_soonest_X5_become : GoodIn wsX10_soonest wsX5_become := goodIn_r _ [95, 56, 96, 97, 98, 99, 100, 101, 182, 183, 184] (by decide +kernel) (by decide +kernel)
set_option maxRecDepth 20000 in
theorem gX10_soonest_X5_become : GoodIn wsX10_soonest (wsV RX10 226 RX5 yX5_become wsX5_become) := goodIn_app (goodIn_of _ (by decide +kernel)) ggX10_soonest_X5_become
theorem dX10_soonest_0 : decode cX10_soonest 0 = .ok (.aload_n 0, 1) := by decide +kernel
theorem dX10_soonest_1 : decode cX10_soonest 1 = .ok (.getfield 46, 3) := by decide +kernel
theorem dX10_soonest_4 : decode cX10_soonest 4 = .ok (.getfield 60, 3) := by decide +kernel
theorem dX10_soonest_7 : decode cX10_soonest 7 = .ok (.getfield 215, 3) := by decide +kernel
theorem dX10_soonest_10 : decode cX10_soonest 10 = .ok (.ifCond .ne 10, 3) := by decide +kernel
theorem dX10_soonest_13 : decode cX10_soonest 13 = .ok (.aload_n 0, 1) := by decide +kernel
theorem dX10_soonest_14 : decode cX10_soonest 14 = .ok (.bipush (-3), 2) := by decide +kernel
theorem dX10_soonest_16 : decode cX10_soonest 16 = .ok (.invokevirtual 94, 3) := by decide +kernel
theorem dX10_soonest_19 : decode cX10_soonest 19 = .ok (.ireturn, 1) := by decide +kernel
theorem dX10_soonest_20 : decode cX10_soonest 20 = .ok (.aload_n 0, 1) := by decide +kernel
theorem dX10_soonest_21 : decode cX10_soonest 21 = .ok (.getfield 46, 3) := by decide +kernel
theorem dX10_soonest_24 : decode cX10_soonest 24 = .ok (.getfield 60, 3) := by decide +kernel
theorem dX10_soonest_27 : decode cX10_soonest 27 = .ok (.invokevirtual 217, 3) := by decide +kernel
theorem dX10_soonest_30 : decode cX10_soonest 30 = .ok (.bipush 6, 2) := by decide +kernel
theorem dX10_soonest_32 : decode cX10_soonest 32 = .ok (.if_icmp .le 10, 3) := by decide +kernel
theorem dX10_soonest_35 : decode cX10_soonest 35 = .ok (.aload_n 0, 1) := by decide +kernel
theorem dX10_soonest_36 : decode cX10_soonest 36 = .ok (.bipush (-6), 2) := by decide +kernel
theorem dX10_soonest_38 : decode cX10_soonest 38 = .ok (.invokevirtual 94, 3) := by decide +kernel
theorem dX10_soonest_41 : decode cX10_soonest 41 = .ok (.ireturn, 1) := by decide +kernel
theorem dX10_soonest_42 : decode cX10_soonest 42 = .ok (.aload_n 0, 1) := by decide +kernel
theorem dX10_soonest_43 : decode cX10_soonest 43 = .ok (.getfield 79, 3) := by decide +kernel
theorem dX10_soonest_46 : decode cX10_soonest 46 = .ok (.aload_n 0, 1) := by decide +kernel
theorem dX10_soonest_47 : decode cX10_soonest 47 = .ok (.getfield 46, 3) := by decide +kernel
theorem dX10_soonest_50 : decode cX10_soonest 50 = .ok (.getfield 168, 3) := by decide +kernel
theorem dX10_soonest_53 : decode cX10_soonest 53 = .ok (.invokevirtual 220, 3) := by decide +kernel
theorem dX10_soonest_56 : decode cX10_soonest 56 = .ok (.istore_n 1, 1) := by decide +kernel
theorem dX10_soonest_57 : decode cX10_soonest 57 = .ok (.iload_n 1, 1) := by decide +kernel
theorem dX10_soonest_58 : decode cX10_soonest 58 = .ok (.bipush (-9), 2) := by decide +kernel
theorem dX10_soonest_60 : decode cX10_soonest 60 = .ok (.if_icmp .eq 20, 3) := by decide +kernel
theorem dX10_soonest_63 : decode cX10_soonest 63 = .ok (.aload_n 0, 1) := by decide +kernel
theorem dX10_soonest_64 : decode cX10_soonest 64 = .ok (.getfield 46, 3) := by decide +kernel
theorem dX10_soonest_67 : decode cX10_soonest 67 = .ok (.getfield 174, 3) := by decide +kernel
theorem dX10_soonest_70 : decode cX10_soonest 70 = .ok (.aload_n 0, 1) := by decide +kernel
theorem dX10_soonest_71 : decode cX10_soonest 71 = .ok (.getfield 79, 3) := by decide +kernel
theorem dX10_soonest_74 : decode cX10_soonest 74 = .ok (.getfield 223, 3) := by decide +kernel
theorem dX10_soonest_77 : decode cX10_soonest 77 = .ok (.invokevirtual 226, 3) := by decide +kernel
theorem dX10_soonest_80 : decode cX10_soonest 80 = .ok (.iload_n 1, 1) := by decide +kernel
theorem dX10_soonest_81 : decode cX10_soonest 81 = .ok (.ireturn, 1) := by decide +kernel
set_option maxRecDepth 20000 in
theorem ggX10_fewest_X10_refuse : GoodIn wsX10_fewest wsX10_refuse := goodIn_r _ [7, 8, 153, 154, 155, 156, 157, 158, 159, 160, 161, 162, 163, 164] (by decide +kernel) (by decide +kernel)
set_option maxRecDepth 20000 in
theorem gX10_fewest_X10_refuse : GoodIn wsX10_fewest (wsV RX10 94 RX10 yX10_refuse wsX10_refuse) := goodIn_app (goodIn_of _ (by decide +kernel)) ggX10_fewest_X10_refuse
set_option maxRecDepth 20000 in
theorem ggX10_fewest_X10_refusalOfHour : GoodIn wsX10_fewest wsX10_refusalOfHour := goodIn_r _ [11] (by decide +kernel) (by decide +kernel)
set_option maxRecDepth 20000 in
theorem gX10_fewest_X10_refusalOfHour : GoodIn wsX10_fewest (va_wsS RX10 171 yX10_refusalOfHour wsX10_refusalOfHour) := goodIn_app (goodIn_of _ (by decide +kernel)) ggX10_fewest_X10_refusalOfHour
set_option maxRecDepth 20000 in
theorem ggX10_fewest_X1_coatsInAll : GoodIn wsX10_fewest wsX1_coatsInAll := goodIn_r _ [16, 17, 18, 170, 171, 172, 173, 174, 175, 176] (by decide +kernel) (by decide +kernel)
set_option maxRecDepth 20000 in
theorem gX10_fewest_X1_coatsInAll : GoodIn wsX10_fewest (wsV RX10 217 RX1 yX1_coatsInAll wsX1_coatsInAll) := goodIn_app (goodIn_of _ (by decide +kernel)) ggX10_fewest_X1_coatsInAll
set_option maxRecDepth 20000 in
theorem ggX10_fewest_X7_fewestPlanksBy : GoodIn wsX10_fewest wsX7_fewestPlanksBy := goodIn_r _ [23, 24, 25, 26, 27, 28, 22, 29, 30, 31, 32, 33, 34, 35, 36, 37, 15, 38, 39, 40, 41, 42, 43, 44, 45, 46, 47, 48, 49, 50, 51, 52, 53, 54, 55, 56, 57, 58, 59, 60, 61, 62, 63, 64, 65, 66, 67, 68, 69, 70, 71, 72, 73, 74, 75, 76, 77, 78, 79, 80, 81, 82, 83, 84, 85, 86, 87, 88, 89, 90, 91, 92, 93, 94, 95, 96, 97, 98, 99, 100, 101, 102, 103, 104, 105, 106, 107, 108, 109, 110, 111, 112, 113, 114, 115, 116, 117, 118, 119, 120, 121, 122, 123, 124, 125, 126, 127, 128, 129, 130, 131, 132, 133, 134, 135, 136, 137, 138, 139, 140, 17, 141, 142, 143, 144, 145, 146, 147, 148, 149, 150, 151, 152, 177, 178, 179, 180, 181, 182, 183, 184, 185, 186, 187, 188, 189, 190, 165, 166, 167, 168, 169, 170, 171, 172, 173, 174, 175, 176, 191, 192, 193, 194, 195] (by decide +kernel) (by decide +kernel)
set_option maxRecDepth 20000 in
theorem gX10_fewest_X7_fewestPlanksBy : GoodIn wsX10_fewest (wsV RX10 229 RX7 yX7_fewestPlanksBy wsX7_fewestPlanksBy) := goodIn_app (goodIn_of _ (by decide +kernel)) ggX10_fewest_X7_fewestPlanksBy
theorem dX10_fewest_0 : decode cX10_fewest 0 = .ok (.aload_n 0, 1) := by decide +kernel
theorem dX10_fewest_1 : decode cX10_fewest 1 = .ok (.getfield 46, 3) := by decide +kernel
theorem dX10_fewest_4 : decode cX10_fewest 4 = .ok (.getfield 60, 3) := by decide +kernel
theorem dX10_fewest_7 : decode cX10_fewest 7 = .ok (.getfield 215, 3) := by decide +kernel
theorem dX10_fewest_10 : decode cX10_fewest 10 = .ok (.ifCond .ne 10, 3) := by decide +kernel
theorem dX10_fewest_13 : decode cX10_fewest 13 = .ok (.aload_n 0, 1) := by decide +kernel
theorem dX10_fewest_14 : decode cX10_fewest 14 = .ok (.bipush (-3), 2) := by decide +kernel
theorem dX10_fewest_16 : decode cX10_fewest 16 = .ok (.invokevirtual 94, 3) := by decide +kernel
theorem dX10_fewest_19 : decode cX10_fewest 19 = .ok (.ireturn, 1) := by decide +kernel
theorem dX10_fewest_20 : decode cX10_fewest 20 = .ok (.iload_n 1, 1) := by decide +kernel
theorem dX10_fewest_21 : decode cX10_fewest 21 = .ok (.invokestatic 171, 3) := by decide +kernel
theorem dX10_fewest_24 : decode cX10_fewest 24 = .ok (.istore_n 2, 1) := by decide +kernel
theorem dX10_fewest_25 : decode cX10_fewest 25 = .ok (.iload_n 2, 1) := by decide +kernel
theorem dX10_fewest_26 : decode cX10_fewest 26 = .ok (.ifCond .eq 9, 3) := by decide +kernel
theorem dX10_fewest_29 : decode cX10_fewest 29 = .ok (.aload_n 0, 1) := by decide +kernel
theorem dX10_fewest_30 : decode cX10_fewest 30 = .ok (.iload_n 2, 1) := by decide +kernel
theorem dX10_fewest_31 : decode cX10_fewest 31 = .ok (.invokevirtual 94, 3) := by decide +kernel
theorem dX10_fewest_34 : decode cX10_fewest 34 = .ok (.ireturn, 1) := by decide +kernel
theorem dX10_fewest_35 : decode cX10_fewest 35 = .ok (.aload_n 0, 1) := by decide +kernel
theorem dX10_fewest_36 : decode cX10_fewest 36 = .ok (.getfield 46, 3) := by decide +kernel
theorem dX10_fewest_39 : decode cX10_fewest 39 = .ok (.getfield 60, 3) := by decide +kernel
theorem dX10_fewest_42 : decode cX10_fewest 42 = .ok (.invokevirtual 217, 3) := by decide +kernel
theorem dX10_fewest_45 : decode cX10_fewest 45 = .ok (.bipush 6, 2) := by decide +kernel
theorem dX10_fewest_47 : decode cX10_fewest 47 = .ok (.if_icmp .le 10, 3) := by decide +kernel
theorem dX10_fewest_50 : decode cX10_fewest 50 = .ok (.aload_n 0, 1) := by decide +kernel
theorem dX10_fewest_51 : decode cX10_fewest 51 = .ok (.bipush (-6), 2) := by decide +kernel
theorem dX10_fewest_53 : decode cX10_fewest 53 = .ok (.invokevirtual 94, 3) := by decide +kernel
theorem dX10_fewest_56 : decode cX10_fewest 56 = .ok (.ireturn, 1) := by decide +kernel
theorem dX10_fewest_57 : decode cX10_fewest 57 = .ok (.aload_n 0, 1) := by decide +kernel
theorem dX10_fewest_58 : decode cX10_fewest 58 = .ok (.getfield 79, 3) := by decide +kernel
theorem dX10_fewest_61 : decode cX10_fewest 61 = .ok (.iload_n 1, 1) := by decide +kernel
theorem dX10_fewest_62 : decode cX10_fewest 62 = .ok (.invokevirtual 229, 3) := by decide +kernel
theorem dX10_fewest_65 : decode cX10_fewest 65 = .ok (.ireturn, 1) := by decide +kernel
set_option maxRecDepth 20000 in
theorem ggX10_cuts_X9_barredNeeds : GoodIn wsX10_cuts wsX9_barredNeeds := goodIn_r _ [7, 8, 33, 34] (by decide +kernel) (by decide +kernel)
set_option maxRecDepth 20000 in
theorem gX10_cuts_X9_barredNeeds : GoodIn wsX10_cuts (wsV RX10 232 RX9 yX9_barredNeeds wsX9_barredNeeds) := goodIn_app (goodIn_of _ (by decide +kernel)) ggX10_cuts_X9_barredNeeds
theorem dX10_cuts_0 : decode cX10_cuts 0 = .ok (.iconst 0, 1) := by decide +kernel
theorem dX10_cuts_1 : decode cX10_cuts 1 = .ok (.istore_n 1, 1) := by decide +kernel
theorem dX10_cuts_2 : decode cX10_cuts 2 = .ok (.iconst 1, 1) := by decide +kernel
theorem dX10_cuts_3 : decode cX10_cuts 3 = .ok (.istore_n 2, 1) := by decide +kernel
theorem dX10_cuts_4 : decode cX10_cuts 4 = .ok (.iload_n 2, 1) := by decide +kernel
theorem dX10_cuts_5 : decode cX10_cuts 5 = .ok (.aload_n 0, 1) := by decide +kernel
theorem dX10_cuts_6 : decode cX10_cuts 6 = .ok (.getfield 46, 3) := by decide +kernel
theorem dX10_cuts_9 : decode cX10_cuts 9 = .ok (.getfield 60, 3) := by decide +kernel
theorem dX10_cuts_12 : decode cX10_cuts 12 = .ok (.getfield 215, 3) := by decide +kernel
theorem dX10_cuts_15 : decode cX10_cuts 15 = .ok (.if_icmp .gt 28, 3) := by decide +kernel
theorem dX10_cuts_18 : decode cX10_cuts 18 = .ok (.aload_n 0, 1) := by decide +kernel
theorem dX10_cuts_19 : decode cX10_cuts 19 = .ok (.getfield 56, 3) := by decide +kernel
theorem dX10_cuts_22 : decode cX10_cuts 22 = .ok (.iconst 1, 1) := by decide +kernel
theorem dX10_cuts_23 : decode cX10_cuts 23 = .ok (.iload_n 2, 1) := by decide +kernel
theorem dX10_cuts_24 : decode cX10_cuts 24 = .ok (.ishl, 1) := by decide +kernel
theorem dX10_cuts_25 : decode cX10_cuts 25 = .ok (.invokevirtual 232, 3) := by decide +kernel
theorem dX10_cuts_28 : decode cX10_cuts 28 = .ok (.ifCond .eq 9, 3) := by decide +kernel
theorem dX10_cuts_31 : decode cX10_cuts 31 = .ok (.iload_n 1, 1) := by decide +kernel
theorem dX10_cuts_32 : decode cX10_cuts 32 = .ok (.iconst 1, 1) := by decide +kernel
theorem dX10_cuts_33 : decode cX10_cuts 33 = .ok (.iload_n 2, 1) := by decide +kernel
theorem dX10_cuts_34 : decode cX10_cuts 34 = .ok (.ishl, 1) := by decide +kernel
theorem dX10_cuts_35 : decode cX10_cuts 35 = .ok (.ior, 1) := by decide +kernel
theorem dX10_cuts_36 : decode cX10_cuts 36 = .ok (.istore_n 1, 1) := by decide +kernel
theorem dX10_cuts_37 : decode cX10_cuts 37 = .ok (.iinc 2 1, 3) := by decide +kernel
theorem dX10_cuts_40 : decode cX10_cuts 40 = .ok (.goto (-36), 3) := by decide +kernel
theorem dX10_cuts_43 : decode cX10_cuts 43 = .ok (.iload_n 1, 1) := by decide +kernel
theorem dX10_cuts_44 : decode cX10_cuts 44 = .ok (.ireturn, 1) := by decide +kernel
set_option maxRecDepth 20000 in
theorem ggX10_way_X1_hasPlace : GoodIn wsX10_way wsX1_hasPlace := goodIn_r _ [6, 7, 67, 68, 69, 70, 71, 72, 73] (by decide +kernel) (by decide +kernel)
set_option maxRecDepth 20000 in
theorem gX10_way_X1_hasPlace : GoodIn wsX10_way (wsV RX10 142 RX1 yX1_hasPlace wsX1_hasPlace) := goodIn_app (goodIn_of _ (by decide +kernel)) ggX10_way_X1_hasPlace
set_option maxRecDepth 20000 in
theorem ggX10_way_X10_refuse : GoodIn wsX10_way wsX10_refuse := goodIn_r _ [12, 13, 47, 48, 49, 50, 51, 52, 53, 54, 55, 56, 57, 58] (by decide +kernel) (by decide +kernel)
set_option maxRecDepth 20000 in
theorem gX10_way_X10_refuse : GoodIn wsX10_way (wsV RX10 94 RX10 yX10_refuse wsX10_refuse) := goodIn_app (goodIn_of _ (by decide +kernel)) ggX10_way_X10_refuse
set_option maxRecDepth 20000 in
theorem ggX10_way_X10_refusalOfHour : GoodIn wsX10_way wsX10_refusalOfHour := goodIn_r _ [16] (by decide +kernel) (by decide +kernel)
set_option maxRecDepth 20000 in
theorem gX10_way_X10_refusalOfHour : GoodIn wsX10_way (va_wsS RX10 171 yX10_refusalOfHour wsX10_refusalOfHour) := goodIn_app (goodIn_of _ (by decide +kernel)) ggX10_way_X10_refusalOfHour
set_option maxRecDepth 20000 in
theorem ggX10_way_X6_shutBy : GoodIn wsX10_way wsX6_shutBy := goodIn_r _ [21, 22, 23, 24, 25, 26, 20, 27, 28, 29, 30, 31, 32, 33, 59, 60, 61, 62, 63, 64, 65, 66, 67, 68, 69, 70, 71, 72, 73] (by decide +kernel) (by decide +kernel)
set_option maxRecDepth 20000 in
theorem gX10_way_X6_shutBy : GoodIn wsX10_way (wsV RX10 235 RX6 yX6_shutBy wsX6_shutBy) := goodIn_app (goodIn_of _ (by decide +kernel)) ggX10_way_X6_shutBy
set_option maxRecDepth 20000 in
theorem ggX10_way_X1_doorsBetween : GoodIn wsX10_way wsX1_doorsBetween := goodIn_r _ [37, 38, 39, 40, 5, 41, 7, 42, 43, 44, 45, 46, 67, 68, 69, 70, 71, 72, 73] (by decide +kernel) (by decide +kernel)
set_option maxRecDepth 20000 in
theorem gX10_way_X1_doorsBetween : GoodIn wsX10_way (wsV RX10 238 RX1 yX1_doorsBetween wsX1_doorsBetween) := goodIn_app (goodIn_of _ (by decide +kernel)) ggX10_way_X1_doorsBetween
theorem dX10_way_0 : decode cX10_way 0 = .ok (.aload_n 0, 1) := by decide +kernel
theorem dX10_way_1 : decode cX10_way 1 = .ok (.getfield 46, 3) := by decide +kernel
theorem dX10_way_4 : decode cX10_way 4 = .ok (.getfield 60, 3) := by decide +kernel
theorem dX10_way_7 : decode cX10_way 7 = .ok (.iload_n 1, 1) := by decide +kernel
theorem dX10_way_8 : decode cX10_way 8 = .ok (.invokevirtual 142, 3) := by decide +kernel
theorem dX10_way_11 : decode cX10_way 11 = .ok (.ifCond .eq 17, 3) := by decide +kernel
theorem dX10_way_14 : decode cX10_way 14 = .ok (.aload_n 0, 1) := by decide +kernel
theorem dX10_way_15 : decode cX10_way 15 = .ok (.getfield 46, 3) := by decide +kernel
theorem dX10_way_18 : decode cX10_way 18 = .ok (.getfield 60, 3) := by decide +kernel
theorem dX10_way_21 : decode cX10_way 21 = .ok (.iload_n 2, 1) := by decide +kernel
theorem dX10_way_22 : decode cX10_way 22 = .ok (.invokevirtual 142, 3) := by decide +kernel
theorem dX10_way_25 : decode cX10_way 25 = .ok (.ifCond .ne 9, 3) := by decide +kernel
theorem dX10_way_28 : decode cX10_way 28 = .ok (.aload_n 0, 1) := by decide +kernel
theorem dX10_way_29 : decode cX10_way 29 = .ok (.iconst (-1), 1) := by decide +kernel
theorem dX10_way_30 : decode cX10_way 30 = .ok (.invokevirtual 94, 3) := by decide +kernel
theorem dX10_way_33 : decode cX10_way 33 = .ok (.ireturn, 1) := by decide +kernel
theorem dX10_way_34 : decode cX10_way 34 = .ok (.iload_n 3, 1) := by decide +kernel
theorem dX10_way_35 : decode cX10_way 35 = .ok (.invokestatic 171, 3) := by decide +kernel
theorem dX10_way_38 : decode cX10_way 38 = .ok (.istore 4, 2) := by decide +kernel
theorem dX10_way_40 : decode cX10_way 40 = .ok (.iload 4, 2) := by decide +kernel
theorem dX10_way_42 : decode cX10_way 42 = .ok (.ifCond .eq 10, 3) := by decide +kernel
theorem dX10_way_45 : decode cX10_way 45 = .ok (.aload_n 0, 1) := by decide +kernel
theorem dX10_way_46 : decode cX10_way 46 = .ok (.iload 4, 2) := by decide +kernel
theorem dX10_way_48 : decode cX10_way 48 = .ok (.invokevirtual 94, 3) := by decide +kernel
theorem dX10_way_51 : decode cX10_way 51 = .ok (.ireturn, 1) := by decide +kernel
theorem dX10_way_52 : decode cX10_way 52 = .ok (.aload_n 0, 1) := by decide +kernel
theorem dX10_way_53 : decode cX10_way 53 = .ok (.getfield 46, 3) := by decide +kernel
theorem dX10_way_56 : decode cX10_way 56 = .ok (.getfield 60, 3) := by decide +kernel
theorem dX10_way_59 : decode cX10_way 59 = .ok (.iload_n 1, 1) := by decide +kernel
theorem dX10_way_60 : decode cX10_way 60 = .ok (.iload_n 2, 1) := by decide +kernel
theorem dX10_way_61 : decode cX10_way 61 = .ok (.aload_n 0, 1) := by decide +kernel
theorem dX10_way_62 : decode cX10_way 62 = .ok (.getfield 46, 3) := by decide +kernel
theorem dX10_way_65 : decode cX10_way 65 = .ok (.aload_n 0, 1) := by decide +kernel
theorem dX10_way_66 : decode cX10_way 66 = .ok (.getfield 46, 3) := by decide +kernel
theorem dX10_way_69 : decode cX10_way 69 = .ok (.getfield 174, 3) := by decide +kernel
theorem dX10_way_72 : decode cX10_way 72 = .ok (.getfield 187, 3) := by decide +kernel
theorem dX10_way_75 : decode cX10_way 75 = .ok (.iload_n 3, 1) := by decide +kernel
theorem dX10_way_76 : decode cX10_way 76 = .ok (.invokevirtual 235, 3) := by decide +kernel
theorem dX10_way_79 : decode cX10_way 79 = .ok (.invokevirtual 238, 3) := by decide +kernel
theorem dX10_way_82 : decode cX10_way 82 = .ok (.ireturn, 1) := by decide +kernel
set_option maxRecDepth 20000 in
theorem ggX10_free_X10_refusalOfHour : GoodIn wsX10_free wsX10_refusalOfHour := goodIn_r _ [5] (by decide +kernel) (by decide +kernel)
set_option maxRecDepth 20000 in
theorem gX10_free_X10_refusalOfHour : GoodIn wsX10_free (va_wsS RX10 171 yX10_refusalOfHour wsX10_refusalOfHour) := goodIn_app (goodIn_of _ (by decide +kernel)) ggX10_free_X10_refusalOfHour
set_option maxRecDepth 20000 in
theorem ggX10_free_X10_refuse : GoodIn wsX10_free wsX10_refuse := goodIn_r _ [9, 10, 34, 35, 36, 37, 38, 39, 40, 41, 42, 43, 44, 45] (by decide +kernel) (by decide +kernel)
set_option maxRecDepth 20000 in
theorem gX10_free_X10_refuse : GoodIn wsX10_free (wsV RX10 94 RX10 yX10_refuse wsX10_refuse) := goodIn_app (goodIn_of _ (by decide +kernel)) ggX10_free_X10_refuse
set_option maxRecDepth 20000 in
theorem ggX10_free_X1_everyPlace : GoodIn wsX10_free wsX1_everyPlace := goodIn_r _ [15, 16, 54, 55, 56, 57, 58, 59, 60] (by decide +kernel) (by decide +kernel)
set_option maxRecDepth 20000 in
theorem gX10_free_X1_everyPlace : GoodIn wsX10_free (wsV RX10 242 RX1 yX1_everyPlace wsX1_everyPlace) := goodIn_app (goodIn_of _ (by decide +kernel)) ggX10_free_X1_everyPlace
set_option maxRecDepth 20000 in
theorem ggX10_free_X6_shutBy : GoodIn wsX10_free wsX6_shutBy := goodIn_r _ [21, 22, 23, 24, 25, 26, 20, 27, 28, 29, 30, 31, 32, 33, 46, 47, 48, 49, 50, 51, 52, 53, 54, 55, 56, 57, 58, 59, 60] (by decide +kernel) (by decide +kernel)
set_option maxRecDepth 20000 in
theorem gX10_free_X6_shutBy : GoodIn wsX10_free (wsV RX10 235 RX6 yX6_shutBy wsX6_shutBy) := goodIn_app (goodIn_of _ (by decide +kernel)) ggX10_free_X6_shutBy
theorem dX10_free_0 : decode cX10_free 0 = .ok (.iload_n 1, 1) := by decide +kernel
theorem dX10_free_1 : decode cX10_free 1 = .ok (.invokestatic 171, 3) := by decide +kernel
theorem dX10_free_4 : decode cX10_free 4 = .ok (.istore_n 2, 1) := by decide +kernel
theorem dX10_free_5 : decode cX10_free 5 = .ok (.iload_n 2, 1) := by decide +kernel
theorem dX10_free_6 : decode cX10_free 6 = .ok (.ifCond .eq 9, 3) := by decide +kernel
theorem dX10_free_9 : decode cX10_free 9 = .ok (.aload_n 0, 1) := by decide +kernel
theorem dX10_free_10 : decode cX10_free 10 = .ok (.iload_n 2, 1) := by decide +kernel
theorem dX10_free_11 : decode cX10_free 11 = .ok (.invokevirtual 94, 3) := by decide +kernel
theorem dX10_free_14 : decode cX10_free 14 = .ok (.ireturn, 1) := by decide +kernel
theorem dX10_free_15 : decode cX10_free 15 = .ok (.aload_n 0, 1) := by decide +kernel
theorem dX10_free_16 : decode cX10_free 16 = .ok (.getfield 46, 3) := by decide +kernel
theorem dX10_free_19 : decode cX10_free 19 = .ok (.getfield 60, 3) := by decide +kernel
theorem dX10_free_22 : decode cX10_free 22 = .ok (.invokevirtual 242, 3) := by decide +kernel
theorem dX10_free_25 : decode cX10_free 25 = .ok (.aload_n 0, 1) := by decide +kernel
theorem dX10_free_26 : decode cX10_free 26 = .ok (.getfield 46, 3) := by decide +kernel
theorem dX10_free_29 : decode cX10_free 29 = .ok (.aload_n 0, 1) := by decide +kernel
theorem dX10_free_30 : decode cX10_free 30 = .ok (.getfield 46, 3) := by decide +kernel
theorem dX10_free_33 : decode cX10_free 33 = .ok (.getfield 174, 3) := by decide +kernel
theorem dX10_free_36 : decode cX10_free 36 = .ok (.getfield 187, 3) := by decide +kernel
theorem dX10_free_39 : decode cX10_free 39 = .ok (.iload_n 1, 1) := by decide +kernel
theorem dX10_free_40 : decode cX10_free 40 = .ok (.invokevirtual 235, 3) := by decide +kernel
theorem dX10_free_43 : decode cX10_free 43 = .ok (.iconst (-1), 1) := by decide +kernel
theorem dX10_free_44 : decode cX10_free 44 = .ok (.ixor, 1) := by decide +kernel
theorem dX10_free_45 : decode cX10_free 45 = .ok (.iand, 1) := by decide +kernel
theorem dX10_free_46 : decode cX10_free 46 = .ok (.ireturn, 1) := by decide +kernel
set_option maxRecDepth 20000 in
theorem ggX10_out_X10_refuse : GoodIn wsX10_out wsX10_refuse := goodIn_r _ [7, 8, 55, 56, 57, 58, 59, 60, 61, 62, 63, 64, 65, 66] (by decide +kernel) (by decide +kernel)
set_option maxRecDepth 20000 in
theorem gX10_out_X10_refuse : GoodIn wsX10_out (wsV RX10 94 RX10 yX10_refuse wsX10_refuse) := goodIn_app (goodIn_of _ (by decide +kernel)) ggX10_out_X10_refuse
set_option maxRecDepth 20000 in
theorem ggX10_out_X4_leastMoves : GoodIn wsX10_out wsX4_leastMoves := goodIn_r _ [13, 14, 15, 16, 17, 18, 19, 20, 12, 21, 22, 23, 24, 25, 26, 27, 28, 29, 30, 31, 32, 33, 34, 35, 36, 37, 38, 39, 40, 41, 42, 43, 44, 45, 46, 47, 48, 49, 50, 51, 52, 53, 54, 78, 79, 80, 81, 82, 72, 73, 74, 75, 76, 77] (by decide +kernel) (by decide +kernel)
set_option maxRecDepth 20000 in
theorem gX10_out_X4_leastMoves : GoodIn wsX10_out (wsV RX10 245 RX4 yX4_leastMoves wsX4_leastMoves) := goodIn_app (goodIn_of _ (by decide +kernel)) ggX10_out_X4_leastMoves
theorem dX10_out_0 : decode cX10_out 0 = .ok (.aload_n 0, 1) := by decide +kernel
theorem dX10_out_1 : decode cX10_out 1 = .ok (.getfield 46, 3) := by decide +kernel
theorem dX10_out_4 : decode cX10_out 4 = .ok (.getfield 123, 3) := by decide +kernel
theorem dX10_out_7 : decode cX10_out 7 = .ok (.getfield 129, 3) := by decide +kernel
theorem dX10_out_10 : decode cX10_out 10 = .ok (.ifCond .ne 10, 3) := by decide +kernel
theorem dX10_out_13 : decode cX10_out 13 = .ok (.aload_n 0, 1) := by decide +kernel
theorem dX10_out_14 : decode cX10_out 14 = .ok (.bipush (-3), 2) := by decide +kernel
theorem dX10_out_16 : decode cX10_out 16 = .ok (.invokevirtual 94, 3) := by decide +kernel
theorem dX10_out_19 : decode cX10_out 19 = .ok (.ireturn, 1) := by decide +kernel
theorem dX10_out_20 : decode cX10_out 20 = .ok (.aload_n 0, 1) := by decide +kernel
theorem dX10_out_21 : decode cX10_out 21 = .ok (.getfield 86, 3) := by decide +kernel
theorem dX10_out_24 : decode cX10_out 24 = .ok (.aload_n 0, 1) := by decide +kernel
theorem dX10_out_25 : decode cX10_out 25 = .ok (.getfield 46, 3) := by decide +kernel
theorem dX10_out_28 : decode cX10_out 28 = .ok (.getfield 123, 3) := by decide +kernel
theorem dX10_out_31 : decode cX10_out 31 = .ok (.invokevirtual 245, 3) := by decide +kernel
theorem dX10_out_34 : decode cX10_out 34 = .ok (.ireturn, 1) := by decide +kernel
set_option maxRecDepth 20000 in
theorem ggX10_square_X10_refuse : GoodIn wsX10_square wsX10_refuse := goodIn_r _ [6, 7, 16, 17, 18, 19, 20, 21, 22, 23, 24, 25, 26, 27] (by decide +kernel) (by decide +kernel)
set_option maxRecDepth 20000 in
theorem gX10_square_X10_refuse : GoodIn wsX10_square (wsV RX10 94 RX10 yX10_refuse wsX10_refuse) := goodIn_app (goodIn_of _ (by decide +kernel)) ggX10_square_X10_refuse
set_option maxRecDepth 20000 in
theorem ggX10_square_X0_sign : GoodIn wsX10_square wsX0_sign := goodIn_r _ [12, 13, 14, 15, 33, 34, 35, 36, 37, 38] (by decide +kernel) (by decide +kernel)
set_option maxRecDepth 20000 in
theorem gX10_square_X0_sign : GoodIn wsX10_square (wsV RX10 255 RX0 yX0_sign wsX0_sign) := goodIn_app (goodIn_of _ (by decide +kernel)) ggX10_square_X0_sign
theorem dX10_square_0 : decode cX10_square 0 = .ok (.aload_n 0, 1) := by decide +kernel
theorem dX10_square_1 : decode cX10_square 1 = .ok (.getfield 46, 3) := by decide +kernel
theorem dX10_square_4 : decode cX10_square 4 = .ok (.getfield 123, 3) := by decide +kernel
theorem dX10_square_7 : decode cX10_square 7 = .ok (.getfield 129, 3) := by decide +kernel
theorem dX10_square_10 : decode cX10_square 10 = .ok (.ifCond .ne 10, 3) := by decide +kernel
theorem dX10_square_13 : decode cX10_square 13 = .ok (.aload_n 0, 1) := by decide +kernel
theorem dX10_square_14 : decode cX10_square 14 = .ok (.bipush (-3), 2) := by decide +kernel
theorem dX10_square_16 : decode cX10_square 16 = .ok (.invokevirtual 94, 3) := by decide +kernel
theorem dX10_square_19 : decode cX10_square 19 = .ok (.ireturn, 1) := by decide +kernel
theorem dX10_square_20 : decode cX10_square 20 = .ok (.iload_n 1, 1) := by decide +kernel
theorem dX10_square_21 : decode cX10_square 21 = .ok (.ifCond .lt 35, 3) := by decide +kernel
theorem dX10_square_24 : decode cX10_square 24 = .ok (.iload_n 1, 1) := by decide +kernel
theorem dX10_square_25 : decode cX10_square 25 = .ok (.aload_n 0, 1) := by decide +kernel
theorem dX10_square_26 : decode cX10_square 26 = .ok (.getfield 46, 3) := by decide +kernel
theorem dX10_square_29 : decode cX10_square 29 = .ok (.getfield 123, 3) := by decide +kernel
theorem dX10_square_32 : decode cX10_square 32 = .ok (.getfield 249, 3) := by decide +kernel
theorem dX10_square_35 : decode cX10_square 35 = .ok (.if_icmp .ge 21, 3) := by decide +kernel
theorem dX10_square_38 : decode cX10_square 38 = .ok (.iload_n 2, 1) := by decide +kernel
theorem dX10_square_39 : decode cX10_square 39 = .ok (.ifCond .lt 17, 3) := by decide +kernel
theorem dX10_square_42 : decode cX10_square 42 = .ok (.iload_n 2, 1) := by decide +kernel
theorem dX10_square_43 : decode cX10_square 43 = .ok (.aload_n 0, 1) := by decide +kernel
theorem dX10_square_44 : decode cX10_square 44 = .ok (.getfield 46, 3) := by decide +kernel
theorem dX10_square_47 : decode cX10_square 47 = .ok (.getfield 123, 3) := by decide +kernel
theorem dX10_square_50 : decode cX10_square 50 = .ok (.getfield 252, 3) := by decide +kernel
theorem dX10_square_53 : decode cX10_square 53 = .ok (.if_icmp .lt 9, 3) := by decide +kernel
theorem dX10_square_56 : decode cX10_square 56 = .ok (.aload_n 0, 1) := by decide +kernel
theorem dX10_square_57 : decode cX10_square 57 = .ok (.iconst (-1), 1) := by decide +kernel
theorem dX10_square_58 : decode cX10_square 58 = .ok (.invokevirtual 94, 3) := by decide +kernel
theorem dX10_square_61 : decode cX10_square 61 = .ok (.ireturn, 1) := by decide +kernel
theorem dX10_square_62 : decode cX10_square 62 = .ok (.aload_n 0, 1) := by decide +kernel
theorem dX10_square_63 : decode cX10_square 63 = .ok (.getfield 46, 3) := by decide +kernel
theorem dX10_square_66 : decode cX10_square 66 = .ok (.getfield 123, 3) := by decide +kernel
theorem dX10_square_69 : decode cX10_square 69 = .ok (.iload_n 1, 1) := by decide +kernel
theorem dX10_square_70 : decode cX10_square 70 = .ok (.iload_n 2, 1) := by decide +kernel
theorem dX10_square_71 : decode cX10_square 71 = .ok (.invokevirtual 255, 3) := by decide +kernel
theorem dX10_square_74 : decode cX10_square 74 = .ok (.ireturn, 1) := by decide +kernel
set_option maxRecDepth 20000 in
theorem ggX10_image_X6_become : GoodIn wsX10_image wsX6_become := goodIn_r _ [8, 9, 10, 11, 12, 13, 14, 15, 16, 17, 18, 19, 20, 21, 22, 23, 24, 25, 26, 27, 28, 29, 30, 31, 32, 33, 34, 35, 36, 37, 38, 39, 40, 41, 42, 43, 44, 45, 46, 47, 48, 49, 50, 51, 64, 65, 66, 67, 68, 69, 70, 71, 72, 73, 74, 75, 76, 77, 78, 79, 80, 81, 82, 83, 84] (by decide +kernel) (by decide +kernel)
set_option maxRecDepth 20000 in
theorem gX10_image_X6_become : GoodIn wsX10_image (wsV RX10 258 RX6 yX6_become wsX6_become) := goodIn_app (goodIn_of _ (by decide +kernel)) ggX10_image_X6_become
theorem dX10_image_0 : decode cX10_image 0 = .ok (.aload_n 0, 1) := by decide +kernel
theorem dX10_image_1 : decode cX10_image 1 = .ok (.getfield 50, 3) := by decide +kernel
theorem dX10_image_4 : decode cX10_image 4 = .ok (.aload_n 0, 1) := by decide +kernel
theorem dX10_image_5 : decode cX10_image 5 = .ok (.getfield 46, 3) := by decide +kernel
theorem dX10_image_8 : decode cX10_image 8 = .ok (.invokevirtual 258, 3) := by decide +kernel
theorem dX10_image_11 : decode cX10_image 11 = .ok (.aload_n 0, 1) := by decide +kernel
theorem dX10_image_12 : decode cX10_image 12 = .ok (.iconst 1, 1) := by decide +kernel
theorem dX10_image_13 : decode cX10_image 13 = .ok (.putfield 90, 3) := by decide +kernel
theorem dX10_image_16 : decode cX10_image 16 = .ok (.aload_n 0, 1) := by decide +kernel
theorem dX10_image_17 : decode cX10_image 17 = .ok (.getfield 46, 3) := by decide +kernel
theorem dX10_image_20 : decode cX10_image 20 = .ok (.getfield 60, 3) := by decide +kernel
theorem dX10_image_23 : decode cX10_image 23 = .ok (.getfield 215, 3) := by decide +kernel
theorem dX10_image_26 : decode cX10_image 26 = .ok (.ireturn, 1) := by decide +kernel
set_option maxRecDepth 20000 in
theorem ggX10_on_X10_refuse : GoodIn wsX10_on wsX10_refuse := goodIn_r _ [9, 10, 86, 87, 88, 89, 90, 91, 92, 93, 94, 95, 96, 97] (by decide +kernel) (by decide +kernel)
set_option maxRecDepth 20000 in
theorem gX10_on_X10_refuse : GoodIn wsX10_on (wsV RX10 94 RX10 yX10_refuse wsX10_refuse) := goodIn_app (goodIn_of _ (by decide +kernel)) ggX10_on_X10_refuse
set_option maxRecDepth 20000 in
theorem ggX10_on_X6_become : GoodIn wsX10_on wsX6_become := goodIn_r _ [15, 16, 17, 18, 19, 20, 21, 22, 23, 24, 25, 26, 27, 28, 29, 30, 31, 32, 33, 34, 35, 36, 37, 38, 39, 40, 41, 42, 43, 44, 45, 46, 47, 48, 49, 50, 51, 52, 53, 54, 55, 56, 57, 58, 98, 99, 100, 101, 102, 103, 104, 105, 106, 107, 108, 109, 110, 111, 112, 113, 114, 115, 116, 117, 118] (by decide +kernel) (by decide +kernel)
set_option maxRecDepth 20000 in
theorem gX10_on_X6_become : GoodIn wsX10_on (wsV RX10 258 RX6 yX6_become wsX6_become) := goodIn_app (goodIn_of _ (by decide +kernel)) ggX10_on_X6_become
set_option maxRecDepth 20000 in
theorem ggX10_on_X9_learn : GoodIn wsX10_on wsX9_learn := goodIn_r _ [63, 64, 65, 66, 67, 28, 68, 30, 69, 70, 71, 62, 72, 73, 74, 75, 76, 77, 78, 79, 80, 81, 82, 83, 84, 85, 37, 103, 104, 105, 106, 107, 108, 109, 119, 120] (by decide +kernel) (by decide +kernel)
set_option maxRecDepth 20000 in
theorem gX10_on_X9_learn : GoodIn wsX10_on (wsV RX10 63 RX9 yX9_learn wsX9_learn) := goodIn_app (goodIn_of _ (by decide +kernel)) ggX10_on_X9_learn
theorem dX10_on_0 : decode cX10_on 0 = .ok (.aload_n 0, 1) := by decide +kernel
theorem dX10_on_1 : decode cX10_on 1 = .ok (.getfield 90, 3) := by decide +kernel
theorem dX10_on_4 : decode cX10_on 4 = .ok (.ifCond .ne 10, 3) := by decide +kernel
theorem dX10_on_7 : decode cX10_on 7 = .ok (.aload_n 0, 1) := by decide +kernel
theorem dX10_on_8 : decode cX10_on 8 = .ok (.bipush (-3), 2) := by decide +kernel
theorem dX10_on_10 : decode cX10_on 10 = .ok (.invokevirtual 94, 3) := by decide +kernel
theorem dX10_on_13 : decode cX10_on 13 = .ok (.ireturn, 1) := by decide +kernel
theorem dX10_on_14 : decode cX10_on 14 = .ok (.aload_n 0, 1) := by decide +kernel
theorem dX10_on_15 : decode cX10_on 15 = .ok (.getfield 46, 3) := by decide +kernel
theorem dX10_on_18 : decode cX10_on 18 = .ok (.aload_n 0, 1) := by decide +kernel
theorem dX10_on_19 : decode cX10_on 19 = .ok (.getfield 50, 3) := by decide +kernel
theorem dX10_on_22 : decode cX10_on 22 = .ok (.invokevirtual 258, 3) := by decide +kernel
theorem dX10_on_25 : decode cX10_on 25 = .ok (.aload_n 0, 1) := by decide +kernel
theorem dX10_on_26 : decode cX10_on 26 = .ok (.getfield 56, 3) := by decide +kernel
theorem dX10_on_29 : decode cX10_on 29 = .ok (.aload_n 0, 1) := by decide +kernel
theorem dX10_on_30 : decode cX10_on 30 = .ok (.getfield 46, 3) := by decide +kernel
theorem dX10_on_33 : decode cX10_on 33 = .ok (.getfield 60, 3) := by decide +kernel
theorem dX10_on_36 : decode cX10_on 36 = .ok (.invokevirtual 63, 3) := by decide +kernel
theorem dX10_on_39 : decode cX10_on 39 = .ok (.aload_n 0, 1) := by decide +kernel
theorem dX10_on_40 : decode cX10_on 40 = .ok (.getfield 46, 3) := by decide +kernel
theorem dX10_on_43 : decode cX10_on 43 = .ok (.getfield 60, 3) := by decide +kernel
theorem dX10_on_46 : decode cX10_on 46 = .ok (.getfield 215, 3) := by decide +kernel
theorem dX10_on_49 : decode cX10_on 49 = .ok (.ireturn, 1) := by decide +kernel
set_option maxRecDepth 20000 in
theorem ggX10_count_X1_coatsInAll : GoodIn wsX10_count wsX1_coatsInAll := goodIn_r _ [8, 9, 10, 34, 35, 36, 37, 38, 39, 40] (by decide +kernel) (by decide +kernel)
set_option maxRecDepth 20000 in
theorem gX10_count_X1_coatsInAll : GoodIn wsX10_count (wsV RX10 217 RX1 yX1_coatsInAll wsX1_coatsInAll) := goodIn_app (goodIn_of _ (by decide +kernel)) ggX10_count_X1_coatsInAll
set_option maxRecDepth 20000 in
theorem ggX10_count_X8_size : GoodIn wsX10_count wsX8_size := goodIn_r _ [15, 16, 44, 45] (by decide +kernel) (by decide +kernel)
set_option maxRecDepth 20000 in
theorem gX10_count_X8_size : GoodIn wsX10_count (wsV RX10 106 RX8 yX8_size wsX8_size) := goodIn_app (goodIn_of _ (by decide +kernel)) ggX10_count_X8_size
theorem dX10_count_0 : decode cX10_count 0 = .ok (.iload_n 1, 1) := by decide +kernel
theorem dX10_count_1 : decode cX10_count 1 = .ok (.tableswitch 102 0 5 #[39, 50, 61, 72, 83, 94], 39) := by decide +kernel
theorem dX10_count_40 : decode cX10_count 40 = .ok (.aload_n 0, 1) := by decide +kernel
theorem dX10_count_41 : decode cX10_count 41 = .ok (.getfield 46, 3) := by decide +kernel
theorem dX10_count_44 : decode cX10_count 44 = .ok (.getfield 60, 3) := by decide +kernel
theorem dX10_count_47 : decode cX10_count 47 = .ok (.getfield 215, 3) := by decide +kernel
theorem dX10_count_50 : decode cX10_count 50 = .ok (.ireturn, 1) := by decide +kernel
theorem dX10_count_51 : decode cX10_count 51 = .ok (.aload_n 0, 1) := by decide +kernel
theorem dX10_count_52 : decode cX10_count 52 = .ok (.getfield 46, 3) := by decide +kernel
theorem dX10_count_55 : decode cX10_count 55 = .ok (.getfield 60, 3) := by decide +kernel
theorem dX10_count_58 : decode cX10_count 58 = .ok (.getfield 261, 3) := by decide +kernel
theorem dX10_count_61 : decode cX10_count 61 = .ok (.ireturn, 1) := by decide +kernel
theorem dX10_count_62 : decode cX10_count 62 = .ok (.aload_n 0, 1) := by decide +kernel
theorem dX10_count_63 : decode cX10_count 63 = .ok (.getfield 46, 3) := by decide +kernel
theorem dX10_count_66 : decode cX10_count 66 = .ok (.getfield 60, 3) := by decide +kernel
theorem dX10_count_69 : decode cX10_count 69 = .ok (.getfield 149, 3) := by decide +kernel
theorem dX10_count_72 : decode cX10_count 72 = .ok (.ireturn, 1) := by decide +kernel
theorem dX10_count_73 : decode cX10_count 73 = .ok (.aload_n 0, 1) := by decide +kernel
theorem dX10_count_74 : decode cX10_count 74 = .ok (.getfield 46, 3) := by decide +kernel
theorem dX10_count_77 : decode cX10_count 77 = .ok (.getfield 174, 3) := by decide +kernel
theorem dX10_count_80 : decode cX10_count 80 = .ok (.getfield 187, 3) := by decide +kernel
theorem dX10_count_83 : decode cX10_count 83 = .ok (.ireturn, 1) := by decide +kernel
theorem dX10_count_84 : decode cX10_count 84 = .ok (.aload_n 0, 1) := by decide +kernel
theorem dX10_count_85 : decode cX10_count 85 = .ok (.getfield 46, 3) := by decide +kernel
theorem dX10_count_88 : decode cX10_count 88 = .ok (.getfield 60, 3) := by decide +kernel
theorem dX10_count_91 : decode cX10_count 91 = .ok (.invokevirtual 217, 3) := by decide +kernel
theorem dX10_count_94 : decode cX10_count 94 = .ok (.ireturn, 1) := by decide +kernel
theorem dX10_count_95 : decode cX10_count 95 = .ok (.aload_n 0, 1) := by decide +kernel
theorem dX10_count_96 : decode cX10_count 96 = .ok (.getfield 16, 3) := by decide +kernel
theorem dX10_count_99 : decode cX10_count 99 = .ok (.invokevirtual 106, 3) := by decide +kernel
theorem dX10_count_102 : decode cX10_count 102 = .ok (.ireturn, 1) := by decide +kernel
theorem dX10_count_103 : decode cX10_count 103 = .ok (.iload_n 1, 1) := by decide +kernel
theorem dX10_count_104 : decode cX10_count 104 = .ok (.bipush 11, 2) := by decide +kernel
theorem dX10_count_106 : decode cX10_count 106 = .ok (.if_icmp .lt 21, 3) := by decide +kernel
theorem dX10_count_109 : decode cX10_count 109 = .ok (.iload_n 1, 1) := by decide +kernel
theorem dX10_count_110 : decode cX10_count 110 = .ok (.bipush 16, 2) := by decide +kernel
theorem dX10_count_112 : decode cX10_count 112 = .ok (.if_icmp .gt 15, 3) := by decide +kernel
theorem dX10_count_115 : decode cX10_count 115 = .ok (.aload_n 0, 1) := by decide +kernel
theorem dX10_count_116 : decode cX10_count 116 = .ok (.getfield 9, 3) := by decide +kernel
theorem dX10_count_119 : decode cX10_count 119 = .ok (.iload_n 1, 1) := by decide +kernel
theorem dX10_count_120 : decode cX10_count 120 = .ok (.bipush 10, 2) := by decide +kernel
theorem dX10_count_122 : decode cX10_count 122 = .ok (.isub, 1) := by decide +kernel
theorem dX10_count_123 : decode cX10_count 123 = .ok (.iaload, 1) := by decide +kernel
theorem dX10_count_124 : decode cX10_count 124 = .ok (.goto 5, 3) := by decide +kernel
theorem dX10_count_127 : decode cX10_count 127 = .ok (.bipush (-9), 2) := by decide +kernel
theorem dX10_count_129 : decode cX10_count 129 = .ok (.ireturn, 1) := by decide +kernel
theorem dX10_refuse_0 : decode cX10_refuse 0 = .ok (.iload_n 1, 1) := by decide +kernel
theorem dX10_refuse_1 : decode cX10_refuse 1 = .ok (.ineg, 1) := by decide +kernel
theorem dX10_refuse_2 : decode cX10_refuse 2 = .ok (.istore_n 2, 1) := by decide +kernel
theorem dX10_refuse_3 : decode cX10_refuse 3 = .ok (.iload_n 2, 1) := by decide +kernel
theorem dX10_refuse_4 : decode cX10_refuse 4 = .ok (.ifCond .lt 22, 3) := by decide +kernel
theorem dX10_refuse_7 : decode cX10_refuse 7 = .ok (.iload_n 2, 1) := by decide +kernel
theorem dX10_refuse_8 : decode cX10_refuse 8 = .ok (.aload_n 0, 1) := by decide +kernel
theorem dX10_refuse_9 : decode cX10_refuse 9 = .ok (.getfield 9, 3) := by decide +kernel
theorem dX10_refuse_12 : decode cX10_refuse 12 = .ok (.arraylength, 1) := by decide +kernel
theorem dX10_refuse_13 : decode cX10_refuse 13 = .ok (.if_icmp .ge 13, 3) := by decide +kernel
theorem dX10_refuse_16 : decode cX10_refuse 16 = .ok (.aload_n 0, 1) := by decide +kernel
theorem dX10_refuse_17 : decode cX10_refuse 17 = .ok (.getfield 9, 3) := by decide +kernel
theorem dX10_refuse_20 : decode cX10_refuse 20 = .ok (.iload_n 2, 1) := by decide +kernel
theorem dX10_refuse_21 : decode cX10_refuse 21 = .ok (.dup2, 1) := by decide +kernel
theorem dX10_refuse_22 : decode cX10_refuse 22 = .ok (.iaload, 1) := by decide +kernel
theorem dX10_refuse_23 : decode cX10_refuse 23 = .ok (.iconst 1, 1) := by decide +kernel
theorem dX10_refuse_24 : decode cX10_refuse 24 = .ok (.iadd, 1) := by decide +kernel
theorem dX10_refuse_25 : decode cX10_refuse 25 = .ok (.iastore, 1) := by decide +kernel
theorem dX10_refuse_26 : decode cX10_refuse 26 = .ok (.iload_n 1, 1) := by decide +kernel
theorem dX10_refuse_27 : decode cX10_refuse 27 = .ok (.ireturn, 1) := by decide +kernel
theorem dX10_refusalOfHour_0 : decode cX10_refusalOfHour 0 = .ok (.iload_n 0, 1) := by decide +kernel
theorem dX10_refusalOfHour_1 : decode cX10_refusalOfHour 1 = .ok (.ifCond .ge 6, 3) := by decide +kernel
theorem dX10_refusalOfHour_4 : decode cX10_refusalOfHour 4 = .ok (.bipush (-4), 2) := by decide +kernel
theorem dX10_refusalOfHour_6 : decode cX10_refusalOfHour 6 = .ok (.ireturn, 1) := by decide +kernel
theorem dX10_refusalOfHour_7 : decode cX10_refusalOfHour 7 = .ok (.iload_n 0, 1) := by decide +kernel
theorem dX10_refusalOfHour_8 : decode cX10_refusalOfHour 8 = .ok (.bipush 99, 2) := by decide +kernel
theorem dX10_refusalOfHour_10 : decode cX10_refusalOfHour 10 = .ok (.if_icmp .le 8, 3) := by decide +kernel
theorem dX10_refusalOfHour_13 : decode cX10_refusalOfHour 13 = .ok (.bipush (-6), 2) := by decide +kernel
theorem dX10_refusalOfHour_15 : decode cX10_refusalOfHour 15 = .ok (.goto 4, 3) := by decide +kernel
theorem dX10_refusalOfHour_18 : decode cX10_refusalOfHour 18 = .ok (.iconst 0, 1) := by decide +kernel
theorem dX10_refusalOfHour_19 : decode cX10_refusalOfHour 19 = .ok (.ireturn, 1) := by decide +kernel
theorem dX11_init_0 : decode cX11_init 0 = .ok (.aload_n 0, 1) := by decide +kernel
theorem dX11_init_1 : decode cX11_init 1 = .ok (.invokespecial 1, 3) := by decide +kernel
theorem dX11_init_4 : decode cX11_init 4 = .ok (.aload_n 0, 1) := by decide +kernel
theorem dX11_init_5 : decode cX11_init 5 = .ok (.bipush 7, 2) := by decide +kernel
theorem dX11_init_7 : decode cX11_init 7 = .ok (.newarray .int, 2) := by decide +kernel
theorem dX11_init_9 : decode cX11_init 9 = .ok (.putfield 7, 3) := by decide +kernel
theorem dX11_init_12 : decode cX11_init 12 = .ok (.aload_n 0, 1) := by decide +kernel
theorem dX11_init_13 : decode cX11_init 13 = .ok (.bipush 120, 2) := by decide +kernel
theorem dX11_init_15 : decode cX11_init 15 = .ok (.newarray .int, 2) := by decide +kernel
theorem dX11_init_17 : decode cX11_init 17 = .ok (.putfield 13, 3) := by decide +kernel
theorem dX11_init_20 : decode cX11_init 20 = .ok (.aload_n 0, 1) := by decide +kernel
theorem dX11_init_21 : decode cX11_init 21 = .ok (.bipush 120, 2) := by decide +kernel
theorem dX11_init_23 : decode cX11_init 23 = .ok (.newarray .int, 2) := by decide +kernel
theorem dX11_init_25 : decode cX11_init 25 = .ok (.putfield 16, 3) := by decide +kernel
theorem dX11_init_28 : decode cX11_init 28 = .ok (.aload_n 0, 1) := by decide +kernel
theorem dX11_init_29 : decode cX11_init 29 = .ok (.bipush 120, 2) := by decide +kernel
theorem dX11_init_31 : decode cX11_init 31 = .ok (.newarray .int, 2) := by decide +kernel
theorem dX11_init_33 : decode cX11_init 33 = .ok (.putfield 19, 3) := by decide +kernel
theorem dX11_init_36 : decode cX11_init 36 = .ok (.aload_n 0, 1) := by decide +kernel
theorem dX11_init_37 : decode cX11_init 37 = .ok (.bipush 48, 2) := by decide +kernel
theorem dX11_init_39 : decode cX11_init 39 = .ok (.newarray .int, 2) := by decide +kernel
theorem dX11_init_41 : decode cX11_init 41 = .ok (.putfield 22, 3) := by decide +kernel
theorem dX11_init_44 : decode cX11_init 44 = .ok (.aload_n 0, 1) := by decide +kernel
theorem dX11_init_45 : decode cX11_init 45 = .ok (.iconst 4, 1) := by decide +kernel
theorem dX11_init_46 : decode cX11_init 46 = .ok (.newarray .int, 2) := by decide +kernel
theorem dX11_init_48 : decode cX11_init 48 = .ok (.putfield 25, 3) := by decide +kernel
theorem dX11_init_51 : decode cX11_init 51 = .ok (.aload_n 0, 1) := by decide +kernel
theorem dX11_init_52 : decode cX11_init 52 = .ok (.bipush 64, 2) := by decide +kernel
theorem dX11_init_54 : decode cX11_init 54 = .ok (.newarray .int, 2) := by decide +kernel
theorem dX11_init_56 : decode cX11_init 56 = .ok (.putfield 28, 3) := by decide +kernel
theorem dX11_init_59 : decode cX11_init 59 = .ok (.aload_n 0, 1) := by decide +kernel
theorem dX11_init_60 : decode cX11_init 60 = .ok (.bipush 16, 2) := by decide +kernel
theorem dX11_init_62 : decode cX11_init 62 = .ok (.newarray .int, 2) := by decide +kernel
theorem dX11_init_64 : decode cX11_init 64 = .ok (.putfield 31, 3) := by decide +kernel
theorem dX11_init_67 : decode cX11_init 67 = .ok (.aload_n 0, 1) := by decide +kernel
theorem dX11_init_68 : decode cX11_init 68 = .ok (.bipush 16, 2) := by decide +kernel
theorem dX11_init_70 : decode cX11_init 70 = .ok (.newarray .int, 2) := by decide +kernel
theorem dX11_init_72 : decode cX11_init 72 = .ok (.putfield 34, 3) := by decide +kernel
theorem dX11_init_75 : decode cX11_init 75 = .ok (.aload_n 0, 1) := by decide +kernel
theorem dX11_init_76 : decode cX11_init 76 = .ok (.bipush 10, 2) := by decide +kernel
theorem dX11_init_78 : decode cX11_init 78 = .ok (.newarray .int, 2) := by decide +kernel
theorem dX11_init_80 : decode cX11_init 80 = .ok (.putfield 37, 3) := by decide +kernel
theorem dX11_init_83 : decode cX11_init 83 = .ok (.aload_n 0, 1) := by decide +kernel
theorem dX11_init_84 : decode cX11_init 84 = .ok (.sipush 10240, 3) := by decide +kernel
theorem dX11_init_87 : decode cX11_init 87 = .ok (.newarray .int, 2) := by decide +kernel
theorem dX11_init_89 : decode cX11_init 89 = .ok (.putfield 40, 3) := by decide +kernel
theorem dX11_init_92 : decode cX11_init 92 = .ok (.aload_n 0, 1) := by decide +kernel
theorem dX11_init_93 : decode cX11_init 93 = .ok (.sipush 10240, 3) := by decide +kernel
theorem dX11_init_96 : decode cX11_init 96 = .ok (.newarray .int, 2) := by decide +kernel
theorem dX11_init_98 : decode cX11_init 98 = .ok (.putfield 43, 3) := by decide +kernel
theorem dX11_init_101 : decode cX11_init 101 = .ok (.aload_n 0, 1) := by decide +kernel
theorem dX11_init_102 : decode cX11_init 102 = .ok (.getfield 13, 3) := by decide +kernel
theorem dX11_init_105 : decode cX11_init 105 = .ok (.iconst 0, 1) := by decide +kernel
theorem dX11_init_106 : decode cX11_init 106 = .ok (.iconst 1, 1) := by decide +kernel
theorem dX11_init_107 : decode cX11_init 107 = .ok (.iastore, 1) := by decide +kernel
theorem dX11_init_108 : decode cX11_init 108 = .ok (.aload_n 0, 1) := by decide +kernel
theorem dX11_init_109 : decode cX11_init 109 = .ok (.getfield 13, 3) := by decide +kernel
theorem dX11_init_112 : decode cX11_init 112 = .ok (.iconst 4, 1) := by decide +kernel
theorem dX11_init_113 : decode cX11_init 113 = .ok (.bipush 6, 2) := by decide +kernel
theorem dX11_init_115 : decode cX11_init 115 = .ok (.iastore, 1) := by decide +kernel
theorem dX11_init_116 : decode cX11_init 116 = .ok (.aload_n 0, 1) := by decide +kernel
theorem dX11_init_117 : decode cX11_init 117 = .ok (.getfield 13, 3) := by decide +kernel
theorem dX11_init_120 : decode cX11_init 120 = .ok (.iconst 5, 1) := by decide +kernel
theorem dX11_init_121 : decode cX11_init 121 = .ok (.iconst 2, 1) := by decide +kernel
theorem dX11_init_122 : decode cX11_init 122 = .ok (.iastore, 1) := by decide +kernel
theorem dX11_init_123 : decode cX11_init 123 = .ok (.aload_n 0, 1) := by decide +kernel
theorem dX11_init_124 : decode cX11_init 124 = .ok (.getfield 13, 3) := by decide +kernel
theorem dX11_init_127 : decode cX11_init 127 = .ok (.bipush 6, 2) := by decide +kernel
theorem dX11_init_129 : decode cX11_init 129 = .ok (.bipush 48, 2) := by decide +kernel
theorem dX11_init_131 : decode cX11_init 131 = .ok (.iastore, 1) := by decide +kernel
theorem dX11_init_132 : decode cX11_init 132 = .ok (.aload_n 0, 1) := by decide +kernel
theorem dX11_init_133 : decode cX11_init 133 = .ok (.getfield 13, 3) := by decide +kernel
theorem dX11_init_136 : decode cX11_init 136 = .ok (.bipush 7, 2) := by decide +kernel
theorem dX11_init_138 : decode cX11_init 138 = .ok (.iconst 1, 1) := by decide +kernel
theorem dX11_init_139 : decode cX11_init 139 = .ok (.iastore, 1) := by decide +kernel
theorem dX11_init_140 : decode cX11_init 140 = .ok (.return_, 1) := by decide +kernel
theorem dX11_refuse_0 : decode cX11_refuse 0 = .ok (.aload_n 0, 1) := by decide +kernel
theorem dX11_refuse_1 : decode cX11_refuse 1 = .ok (.getfield 7, 3) := by decide +kernel
theorem dX11_refuse_4 : decode cX11_refuse 4 = .ok (.iload_n 1, 1) := by decide +kernel
theorem dX11_refuse_5 : decode cX11_refuse 5 = .ok (.ineg, 1) := by decide +kernel
theorem dX11_refuse_6 : decode cX11_refuse 6 = .ok (.dup2, 1) := by decide +kernel
theorem dX11_refuse_7 : decode cX11_refuse 7 = .ok (.iaload, 1) := by decide +kernel
theorem dX11_refuse_8 : decode cX11_refuse 8 = .ok (.iconst 1, 1) := by decide +kernel
theorem dX11_refuse_9 : decode cX11_refuse 9 = .ok (.iadd, 1) := by decide +kernel
theorem dX11_refuse_10 : decode cX11_refuse 10 = .ok (.iastore, 1) := by decide +kernel
theorem dX11_refuse_11 : decode cX11_refuse 11 = .ok (.iload_n 1, 1) := by decide +kernel
theorem dX11_refuse_12 : decode cX11_refuse 12 = .ok (.ireturn, 1) := by decide +kernel
theorem dX11_isIn_0 : decode cX11_isIn 0 = .ok (.iload_n 0, 1) := by decide +kernel
theorem dX11_isIn_1 : decode cX11_isIn 1 = .ok (.ifCond .lt 12, 3) := by decide +kernel
theorem dX11_isIn_4 : decode cX11_isIn 4 = .ok (.iload_n 0, 1) := by decide +kernel
theorem dX11_isIn_5 : decode cX11_isIn 5 = .ok (.iload_n 1, 1) := by decide +kernel
theorem dX11_isIn_6 : decode cX11_isIn 6 = .ok (.if_icmp .ge 7, 3) := by decide +kernel
theorem dX11_isIn_9 : decode cX11_isIn 9 = .ok (.iconst 1, 1) := by decide +kernel
theorem dX11_isIn_10 : decode cX11_isIn 10 = .ok (.goto 4, 3) := by decide +kernel
theorem dX11_isIn_13 : decode cX11_isIn 13 = .ok (.iconst 0, 1) := by decide +kernel
theorem dX11_isIn_14 : decode cX11_isIn 14 = .ok (.ireturn, 1) := by decide +kernel
theorem dX11_within_0 : decode cX11_within 0 = .ok (.iload_n 0, 1) := by decide +kernel
theorem dX11_within_1 : decode cX11_within 1 = .ok (.iload_n 1, 1) := by decide +kernel
theorem dX11_within_2 : decode cX11_within 2 = .ok (.if_icmp .ge 8, 3) := by decide +kernel
theorem dX11_within_5 : decode cX11_within 5 = .ok (.bipush (-4), 2) := by decide +kernel
theorem dX11_within_7 : decode cX11_within 7 = .ok (.goto 14, 3) := by decide +kernel
theorem dX11_within_10 : decode cX11_within 10 = .ok (.iload_n 0, 1) := by decide +kernel
theorem dX11_within_11 : decode cX11_within 11 = .ok (.iload_n 2, 1) := by decide +kernel
theorem dX11_within_12 : decode cX11_within 12 = .ok (.if_icmp .le 8, 3) := by decide +kernel
theorem dX11_within_15 : decode cX11_within 15 = .ok (.bipush (-6), 2) := by decide +kernel
theorem dX11_within_17 : decode cX11_within 17 = .ok (.goto 4, 3) := by decide +kernel
theorem dX11_within_20 : decode cX11_within 20 = .ok (.iconst 0, 1) := by decide +kernel
theorem dX11_within_21 : decode cX11_within 21 = .ok (.ireturn, 1) := by decide +kernel
set_option maxRecDepth 20000 in
theorem ggX11_isPlace_X11_isIn : GoodIn wsX11_isPlace wsX11_isIn := goodIn_r _ [5] (by decide +kernel) (by decide +kernel)
set_option maxRecDepth 20000 in
theorem gX11_isPlace_X11_isIn : GoodIn wsX11_isPlace (va_wsS RX11 46 yX11_isIn wsX11_isIn) := goodIn_app (goodIn_of _ (by decide +kernel)) ggX11_isPlace_X11_isIn
theorem dX11_isPlace_0 : decode cX11_isPlace 0 = .ok (.iload_n 1, 1) := by decide +kernel
theorem dX11_isPlace_1 : decode cX11_isPlace 1 = .ok (.aload_n 0, 1) := by decide +kernel
theorem dX11_isPlace_2 : decode cX11_isPlace 2 = .ok (.getfield 13, 3) := by decide +kernel
theorem dX11_isPlace_5 : decode cX11_isPlace 5 = .ok (.iconst 0, 1) := by decide +kernel
theorem dX11_isPlace_6 : decode cX11_isPlace 6 = .ok (.iaload, 1) := by decide +kernel
theorem dX11_isPlace_7 : decode cX11_isPlace 7 = .ok (.invokestatic 46, 3) := by decide +kernel
theorem dX11_isPlace_10 : decode cX11_isPlace 10 = .ok (.ireturn, 1) := by decide +kernel
set_option maxRecDepth 20000 in
theorem ggX11_isRoom_X11_isPlace : GoodIn wsX11_isRoom wsX11_isPlace := goodIn_r _ [5, 6, 7, 8, 4, 9, 10, 11, 12, 13, 14, 15, 16, 17, 18, 19, 20, 21, 22, 23, 24, 25, 26, 27, 28] (by decide +kernel) (by decide +kernel)
set_option maxRecDepth 20000 in
theorem gX11_isRoom_X11_isPlace : GoodIn wsX11_isRoom (wsV RX11 50 RX11 yX11_isPlace wsX11_isPlace) := goodIn_app (goodIn_of _ (by decide +kernel)) ggX11_isRoom_X11_isPlace
theorem dX11_isRoom_0 : decode cX11_isRoom 0 = .ok (.iload_n 1, 1) := by decide +kernel
theorem dX11_isRoom_1 : decode cX11_isRoom 1 = .ok (.ifCond .le 15, 3) := by decide +kernel
theorem dX11_isRoom_4 : decode cX11_isRoom 4 = .ok (.aload_n 0, 1) := by decide +kernel
theorem dX11_isRoom_5 : decode cX11_isRoom 5 = .ok (.iload_n 1, 1) := by decide +kernel
theorem dX11_isRoom_6 : decode cX11_isRoom 6 = .ok (.invokevirtual 50, 3) := by decide +kernel
theorem dX11_isRoom_9 : decode cX11_isRoom 9 = .ok (.ifCond .eq 7, 3) := by decide +kernel
theorem dX11_isRoom_12 : decode cX11_isRoom 12 = .ok (.iconst 1, 1) := by decide +kernel
theorem dX11_isRoom_13 : decode cX11_isRoom 13 = .ok (.goto 4, 3) := by decide +kernel
theorem dX11_isRoom_16 : decode cX11_isRoom 16 = .ok (.iconst 0, 1) := by decide +kernel
theorem dX11_isRoom_17 : decode cX11_isRoom 17 = .ok (.ireturn, 1) := by decide +kernel
set_option maxRecDepth 20000 in
theorem ggX11_feed_X11_refuse : GoodIn wsX11_feed wsX11_refuse := goodIn_r _ [8, 9, 10, 11, 12, 13, 14, 15, 16, 17, 18, 19, 20, 21, 22, 23, 24, 25, 26, 27, 28] (by decide +kernel) (by decide +kernel)
set_option maxRecDepth 20000 in
theorem gX11_feed_X11_refuse : GoodIn wsX11_feed (wsV RX11 54 RX11 yX11_refuse wsX11_refuse) := goodIn_app (goodIn_of _ (by decide +kernel)) ggX11_feed_X11_refuse
theorem dX11_feed_0 : decode cX11_feed 0 = .ok (.iload_n 1, 1) := by decide +kernel
theorem dX11_feed_1 : decode cX11_feed 1 = .ok (.iconst 1, 1) := by decide +kernel
theorem dX11_feed_2 : decode cX11_feed 2 = .ok (.if_icmp .ge 10, 3) := by decide +kernel
theorem dX11_feed_5 : decode cX11_feed 5 = .ok (.aload_n 0, 1) := by decide +kernel
theorem dX11_feed_6 : decode cX11_feed 6 = .ok (.bipush (-4), 2) := by decide +kernel
theorem dX11_feed_8 : decode cX11_feed 8 = .ok (.invokevirtual 54, 3) := by decide +kernel
theorem dX11_feed_11 : decode cX11_feed 11 = .ok (.ireturn, 1) := by decide +kernel
theorem dX11_feed_12 : decode cX11_feed 12 = .ok (.iload_n 1, 1) := by decide +kernel
theorem dX11_feed_13 : decode cX11_feed 13 = .ok (.bipush 8, 2) := by decide +kernel
theorem dX11_feed_15 : decode cX11_feed 15 = .ok (.if_icmp .gt 14, 3) := by decide +kernel
theorem dX11_feed_18 : decode cX11_feed 18 = .ok (.aload_n 0, 1) := by decide +kernel
theorem dX11_feed_19 : decode cX11_feed 19 = .ok (.getfield 58, 3) := by decide +kernel
theorem dX11_feed_22 : decode cX11_feed 22 = .ok (.iload_n 1, 1) := by decide +kernel
theorem dX11_feed_23 : decode cX11_feed 23 = .ok (.iadd, 1) := by decide +kernel
theorem dX11_feed_24 : decode cX11_feed 24 = .ok (.bipush 48, 2) := by decide +kernel
theorem dX11_feed_26 : decode cX11_feed 26 = .ok (.if_icmp .le 10, 3) := by decide +kernel
theorem dX11_feed_29 : decode cX11_feed 29 = .ok (.aload_n 0, 1) := by decide +kernel
theorem dX11_feed_30 : decode cX11_feed 30 = .ok (.bipush (-6), 2) := by decide +kernel
theorem dX11_feed_32 : decode cX11_feed 32 = .ok (.invokevirtual 54, 3) := by decide +kernel
theorem dX11_feed_35 : decode cX11_feed 35 = .ok (.ireturn, 1) := by decide +kernel
theorem dX11_feed_36 : decode cX11_feed 36 = .ok (.iconst 0, 1) := by decide +kernel
theorem dX11_feed_37 : decode cX11_feed 37 = .ok (.istore 4, 2) := by decide +kernel
theorem dX11_feed_39 : decode cX11_feed 39 = .ok (.iload 4, 2) := by decide +kernel
theorem dX11_feed_41 : decode cX11_feed 41 = .ok (.iload_n 1, 1) := by decide +kernel
theorem dX11_feed_42 : decode cX11_feed 42 = .ok (.if_icmp .ge 40, 3) := by decide +kernel
theorem dX11_feed_45 : decode cX11_feed 45 = .ok (.aload_n 0, 1) := by decide +kernel
theorem dX11_feed_46 : decode cX11_feed 46 = .ok (.getfield 22, 3) := by decide +kernel
theorem dX11_feed_49 : decode cX11_feed 49 = .ok (.aload_n 0, 1) := by decide +kernel
theorem dX11_feed_50 : decode cX11_feed 50 = .ok (.getfield 58, 3) := by decide +kernel
theorem dX11_feed_53 : decode cX11_feed 53 = .ok (.lload_n 2, 1) := by decide +kernel
theorem dX11_feed_54 : decode cX11_feed 54 = .ok (.bipush 8, 2) := by decide +kernel
theorem dX11_feed_56 : decode cX11_feed 56 = .ok (.iload 4, 2) := by decide +kernel
theorem dX11_feed_58 : decode cX11_feed 58 = .ok (.imul, 1) := by decide +kernel
theorem dX11_feed_59 : decode cX11_feed 59 = .ok (.lshr, 1) := by decide +kernel
theorem dX11_feed_60 : decode cX11_feed 60 = .ok (.ldc2_w 62, 3) := by decide +kernel
theorem dX11_feed_63 : decode cX11_feed 63 = .ok (.land, 1) := by decide +kernel
theorem dX11_feed_64 : decode cX11_feed 64 = .ok (.l2i, 1) := by decide +kernel
theorem dX11_feed_65 : decode cX11_feed 65 = .ok (.iastore, 1) := by decide +kernel
theorem dX11_feed_66 : decode cX11_feed 66 = .ok (.aload_n 0, 1) := by decide +kernel
theorem dX11_feed_67 : decode cX11_feed 67 = .ok (.dup, 1) := by decide +kernel
theorem dX11_feed_68 : decode cX11_feed 68 = .ok (.getfield 58, 3) := by decide +kernel
theorem dX11_feed_71 : decode cX11_feed 71 = .ok (.iconst 1, 1) := by decide +kernel
theorem dX11_feed_72 : decode cX11_feed 72 = .ok (.iadd, 1) := by decide +kernel
theorem dX11_feed_73 : decode cX11_feed 73 = .ok (.putfield 58, 3) := by decide +kernel
theorem dX11_feed_76 : decode cX11_feed 76 = .ok (.iinc 4 1, 3) := by decide +kernel
theorem dX11_feed_79 : decode cX11_feed 79 = .ok (.goto (-40), 3) := by decide +kernel
theorem dX11_feed_82 : decode cX11_feed 82 = .ok (.aload_n 0, 1) := by decide +kernel
theorem dX11_feed_83 : decode cX11_feed 83 = .ok (.getfield 58, 3) := by decide +kernel
theorem dX11_feed_86 : decode cX11_feed 86 = .ok (.ireturn, 1) := by decide +kernel
theorem dX11_sign_0 : decode cX11_sign 0 = .ok (.aload_n 0, 1) := by decide +kernel
theorem dX11_sign_1 : decode cX11_sign 1 = .ok (.getfield 64, 3) := by decide +kernel
theorem dX11_sign_4 : decode cX11_sign 4 = .ok (.aload_n 0, 1) := by decide +kernel
theorem dX11_sign_5 : decode cX11_sign 5 = .ok (.getfield 58, 3) := by decide +kernel
theorem dX11_sign_8 : decode cX11_sign 8 = .ok (.if_icmp .lt 7, 3) := by decide +kernel
theorem dX11_sign_11 : decode cX11_sign 11 = .ok (.iconst (-1), 1) := by decide +kernel
theorem dX11_sign_12 : decode cX11_sign 12 = .ok (.goto 12, 3) := by decide +kernel
theorem dX11_sign_15 : decode cX11_sign 15 = .ok (.aload_n 0, 1) := by decide +kernel
theorem dX11_sign_16 : decode cX11_sign 16 = .ok (.getfield 22, 3) := by decide +kernel
theorem dX11_sign_19 : decode cX11_sign 19 = .ok (.aload_n 0, 1) := by decide +kernel
theorem dX11_sign_20 : decode cX11_sign 20 = .ok (.getfield 64, 3) := by decide +kernel
theorem dX11_sign_23 : decode cX11_sign 23 = .ok (.iaload, 1) := by decide +kernel
theorem dX11_sign_24 : decode cX11_sign 24 = .ok (.ireturn, 1) := by decide +kernel
set_option maxRecDepth 20000 in
theorem ggX11_isDigit_X11_sign : GoodIn wsX11_isDigit wsX11_sign := goodIn_r _ [5, 6, 7, 8, 9, 10, 11, 12, 13, 14, 15, 16, 17, 18, 19, 20, 21, 22, 23, 24, 25, 26, 27] (by decide +kernel) (by decide +kernel)
set_option maxRecDepth 20000 in
theorem gX11_isDigit_X11_sign : GoodIn wsX11_isDigit (wsV RX11 67 RX11 yX11_sign wsX11_sign) := goodIn_app (goodIn_of _ (by decide +kernel)) ggX11_isDigit_X11_sign
theorem dX11_isDigit_0 : decode cX11_isDigit 0 = .ok (.aload_n 0, 1) := by decide +kernel
theorem dX11_isDigit_1 : decode cX11_isDigit 1 = .ok (.invokevirtual 67, 3) := by decide +kernel
theorem dX11_isDigit_4 : decode cX11_isDigit 4 = .ok (.bipush 48, 2) := by decide +kernel
theorem dX11_isDigit_6 : decode cX11_isDigit 6 = .ok (.if_icmp .lt 16, 3) := by decide +kernel
theorem dX11_isDigit_9 : decode cX11_isDigit 9 = .ok (.aload_n 0, 1) := by decide +kernel
theorem dX11_isDigit_10 : decode cX11_isDigit 10 = .ok (.invokevirtual 67, 3) := by decide +kernel
theorem dX11_isDigit_13 : decode cX11_isDigit 13 = .ok (.bipush 57, 2) := by decide +kernel
theorem dX11_isDigit_15 : decode cX11_isDigit 15 = .ok (.if_icmp .gt 7, 3) := by decide +kernel
theorem dX11_isDigit_18 : decode cX11_isDigit 18 = .ok (.iconst 1, 1) := by decide +kernel
theorem dX11_isDigit_19 : decode cX11_isDigit 19 = .ok (.goto 4, 3) := by decide +kernel
theorem dX11_isDigit_22 : decode cX11_isDigit 22 = .ok (.iconst 0, 1) := by decide +kernel
theorem dX11_isDigit_23 : decode cX11_isDigit 23 = .ok (.ireturn, 1) := by decide +kernel
set_option maxRecDepth 20000 in
theorem ggX11_takes_X11_sign : GoodIn wsX11_takes wsX11_sign := goodIn_r _ [6, 1, 7, 8, 9, 10, 11, 12, 13, 14, 15, 16, 17, 18, 19, 20, 21, 22, 23, 24, 25, 26, 27] (by decide +kernel) (by decide +kernel)
set_option maxRecDepth 20000 in
theorem gX11_takes_X11_sign : GoodIn wsX11_takes (wsV RX11 67 RX11 yX11_sign wsX11_sign) := goodIn_app (goodIn_of _ (by decide +kernel)) ggX11_takes_X11_sign
theorem dX11_takes_0 : decode cX11_takes 0 = .ok (.aload_n 0, 1) := by decide +kernel
theorem dX11_takes_1 : decode cX11_takes 1 = .ok (.invokevirtual 67, 3) := by decide +kernel
theorem dX11_takes_4 : decode cX11_takes 4 = .ok (.iload_n 1, 1) := by decide +kernel
theorem dX11_takes_5 : decode cX11_takes 5 = .ok (.if_icmp .eq 5, 3) := by decide +kernel
theorem dX11_takes_8 : decode cX11_takes 8 = .ok (.iconst 0, 1) := by decide +kernel
theorem dX11_takes_9 : decode cX11_takes 9 = .ok (.ireturn, 1) := by decide +kernel
theorem dX11_takes_10 : decode cX11_takes 10 = .ok (.aload_n 0, 1) := by decide +kernel
theorem dX11_takes_11 : decode cX11_takes 11 = .ok (.dup, 1) := by decide +kernel
theorem dX11_takes_12 : decode cX11_takes 12 = .ok (.getfield 64, 3) := by decide +kernel
theorem dX11_takes_15 : decode cX11_takes 15 = .ok (.iconst 1, 1) := by decide +kernel
theorem dX11_takes_16 : decode cX11_takes 16 = .ok (.iadd, 1) := by decide +kernel
theorem dX11_takes_17 : decode cX11_takes 17 = .ok (.putfield 64, 3) := by decide +kernel
theorem dX11_takes_20 : decode cX11_takes 20 = .ok (.iconst 1, 1) := by decide +kernel
theorem dX11_takes_21 : decode cX11_takes 21 = .ok (.ireturn, 1) := by decide +kernel
set_option maxRecDepth 20000 in
theorem ggX11_readsDigit_X11_isDigit : GoodIn wsX11_readsDigit wsX11_isDigit := goodIn_r _ [7, 8, 9, 10, 6, 11, 2, 12, 13, 14, 15, 16, 17, 18, 19, 20, 21, 22, 23, 24, 25, 26, 27, 28, 29, 30, 31, 32] (by decide +kernel) (by decide +kernel)
set_option maxRecDepth 20000 in
theorem gX11_readsDigit_X11_isDigit : GoodIn wsX11_readsDigit (wsV RX11 71 RX11 yX11_isDigit wsX11_isDigit) := goodIn_app (goodIn_of _ (by decide +kernel)) ggX11_readsDigit_X11_isDigit
set_option maxRecDepth 20000 in
theorem ggX11_readsDigit_X11_sign : GoodIn wsX11_readsDigit wsX11_sign := goodIn_r _ [11, 2, 12, 13, 14, 15, 16, 17, 18, 19, 20, 21, 22, 23, 24, 25, 26, 27, 28, 29, 30, 31, 32] (by decide +kernel) (by decide +kernel)
set_option maxRecDepth 20000 in
theorem gX11_readsDigit_X11_sign : GoodIn wsX11_readsDigit (wsV RX11 67 RX11 yX11_sign wsX11_sign) := goodIn_app (goodIn_of _ (by decide +kernel)) ggX11_readsDigit_X11_sign
theorem dX11_readsDigit_0 : decode cX11_readsDigit 0 = .ok (.aload_n 0, 1) := by decide +kernel
theorem dX11_readsDigit_1 : decode cX11_readsDigit 1 = .ok (.invokevirtual 71, 3) := by decide +kernel
theorem dX11_readsDigit_4 : decode cX11_readsDigit 4 = .ok (.ifCond .ne 5, 3) := by decide +kernel
theorem dX11_readsDigit_7 : decode cX11_readsDigit 7 = .ok (.iconst 0, 1) := by decide +kernel
theorem dX11_readsDigit_8 : decode cX11_readsDigit 8 = .ok (.ireturn, 1) := by decide +kernel
theorem dX11_readsDigit_9 : decode cX11_readsDigit 9 = .ok (.aload_n 0, 1) := by decide +kernel
theorem dX11_readsDigit_10 : decode cX11_readsDigit 10 = .ok (.getfield 25, 3) := by decide +kernel
theorem dX11_readsDigit_13 : decode cX11_readsDigit 13 = .ok (.iload_n 1, 1) := by decide +kernel
theorem dX11_readsDigit_14 : decode cX11_readsDigit 14 = .ok (.aload_n 0, 1) := by decide +kernel
theorem dX11_readsDigit_15 : decode cX11_readsDigit 15 = .ok (.invokevirtual 67, 3) := by decide +kernel
theorem dX11_readsDigit_18 : decode cX11_readsDigit 18 = .ok (.bipush 48, 2) := by decide +kernel
theorem dX11_readsDigit_20 : decode cX11_readsDigit 20 = .ok (.isub, 1) := by decide +kernel
theorem dX11_readsDigit_21 : decode cX11_readsDigit 21 = .ok (.iastore, 1) := by decide +kernel
theorem dX11_readsDigit_22 : decode cX11_readsDigit 22 = .ok (.aload_n 0, 1) := by decide +kernel
theorem dX11_readsDigit_23 : decode cX11_readsDigit 23 = .ok (.dup, 1) := by decide +kernel
theorem dX11_readsDigit_24 : decode cX11_readsDigit 24 = .ok (.getfield 64, 3) := by decide +kernel
theorem dX11_readsDigit_27 : decode cX11_readsDigit 27 = .ok (.iconst 1, 1) := by decide +kernel
theorem dX11_readsDigit_28 : decode cX11_readsDigit 28 = .ok (.iadd, 1) := by decide +kernel
theorem dX11_readsDigit_29 : decode cX11_readsDigit 29 = .ok (.putfield 64, 3) := by decide +kernel
theorem dX11_readsDigit_32 : decode cX11_readsDigit 32 = .ok (.iconst 1, 1) := by decide +kernel
theorem dX11_readsDigit_33 : decode cX11_readsDigit 33 = .ok (.ireturn, 1) := by decide +kernel
set_option maxRecDepth 20000 in
theorem ggX11_readsHour_X11_readsDigit : GoodIn wsX11_readsHour wsX11_readsDigit := goodIn_r _ [7, 1, 2, 8, 9, 10, 6, 11, 12, 13, 14, 15, 16, 17, 18, 19, 20, 21, 22, 23, 24, 25, 26, 27, 28, 29, 30, 31, 32, 33, 34, 35, 36] (by decide +kernel) (by decide +kernel)
set_option maxRecDepth 20000 in
theorem gX11_readsHour_X11_readsDigit : GoodIn wsX11_readsHour (wsV RX11 75 RX11 yX11_readsDigit wsX11_readsDigit) := goodIn_app (goodIn_of _ (by decide +kernel)) ggX11_readsHour_X11_readsDigit
set_option maxRecDepth 20000 in
theorem ggX11_readsHour_X11_isDigit : GoodIn wsX11_readsHour wsX11_isDigit := goodIn_r _ [11, 12, 13, 14, 6, 15, 2, 16, 17, 18, 19, 20, 21, 22, 23, 24, 25, 26, 27, 28, 29, 30, 31, 32, 33, 34, 35, 36] (by decide +kernel) (by decide +kernel)
set_option maxRecDepth 20000 in
theorem gX11_readsHour_X11_isDigit : GoodIn wsX11_readsHour (wsV RX11 71 RX11 yX11_isDigit wsX11_isDigit) := goodIn_app (goodIn_of _ (by decide +kernel)) ggX11_readsHour_X11_isDigit
set_option maxRecDepth 20000 in
theorem ggX11_readsHour_X11_sign : GoodIn wsX11_readsHour wsX11_sign := goodIn_r _ [15, 2, 16, 17, 18, 19, 20, 21, 22, 23, 24, 25, 26, 27, 28, 29, 30, 31, 32, 33, 34, 35, 36] (by decide +kernel) (by decide +kernel)
set_option maxRecDepth 20000 in
theorem gX11_readsHour_X11_sign : GoodIn wsX11_readsHour (wsV RX11 67 RX11 yX11_sign wsX11_sign) := goodIn_app (goodIn_of _ (by decide +kernel)) ggX11_readsHour_X11_sign
theorem dX11_readsHour_0 : decode cX11_readsHour 0 = .ok (.aload_n 0, 1) := by decide +kernel
theorem dX11_readsHour_1 : decode cX11_readsHour 1 = .ok (.iload_n 1, 1) := by decide +kernel
theorem dX11_readsHour_2 : decode cX11_readsHour 2 = .ok (.invokevirtual 75, 3) := by decide +kernel
theorem dX11_readsHour_5 : decode cX11_readsHour 5 = .ok (.ifCond .ne 5, 3) := by decide +kernel
theorem dX11_readsHour_8 : decode cX11_readsHour 8 = .ok (.iconst 0, 1) := by decide +kernel
theorem dX11_readsHour_9 : decode cX11_readsHour 9 = .ok (.ireturn, 1) := by decide +kernel
theorem dX11_readsHour_10 : decode cX11_readsHour 10 = .ok (.aload_n 0, 1) := by decide +kernel
theorem dX11_readsHour_11 : decode cX11_readsHour 11 = .ok (.invokevirtual 71, 3) := by decide +kernel
theorem dX11_readsHour_14 : decode cX11_readsHour 14 = .ok (.ifCond .eq 36, 3) := by decide +kernel
theorem dX11_readsHour_17 : decode cX11_readsHour 17 = .ok (.aload_n 0, 1) := by decide +kernel
theorem dX11_readsHour_18 : decode cX11_readsHour 18 = .ok (.getfield 25, 3) := by decide +kernel
theorem dX11_readsHour_21 : decode cX11_readsHour 21 = .ok (.iload_n 1, 1) := by decide +kernel
theorem dX11_readsHour_22 : decode cX11_readsHour 22 = .ok (.bipush 10, 2) := by decide +kernel
theorem dX11_readsHour_24 : decode cX11_readsHour 24 = .ok (.aload_n 0, 1) := by decide +kernel
