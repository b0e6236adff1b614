theorem dX0_init_0 : decode cX0_init 0 = .ok (.aload_n 0, 1) := by decide +kernel
theorem dX0_init_1 : decode cX0_init 1 = .ok (.invokespecial 3, 3) := by decide +kernel
theorem dX0_init_4 : decode cX0_init 4 = .ok (.aload_n 0, 1) := by decide +kernel
theorem dX0_init_5 : decode cX0_init 5 = .ok (.bipush 25, 2) := by decide +kernel
theorem dX0_init_7 : decode cX0_init 7 = .ok (.newarray .int, 2) := by decide +kernel
theorem dX0_init_9 : decode cX0_init 9 = .ok (.putfield 11, 3) := by decide +kernel
theorem dX0_init_12 : decode cX0_init 12 = .ok (.return_, 1) := by decide +kernel
theorem dX0_become_0 : decode cX0_become 0 = .ok (.aload_n 1, 1) := by decide +kernel
theorem dX0_become_1 : decode cX0_become 1 = .ok (.getfield 11, 3) := by decide +kernel
theorem dX0_become_4 : decode cX0_become 4 = .ok (.iconst 0, 1) := by decide +kernel
theorem dX0_become_5 : decode cX0_become 5 = .ok (.aload_n 0, 1) := by decide +kernel
theorem dX0_become_6 : decode cX0_become 6 = .ok (.getfield 11, 3) := by decide +kernel
theorem dX0_become_9 : decode cX0_become 9 = .ok (.iconst 0, 1) := by decide +kernel
theorem dX0_become_10 : decode cX0_become 10 = .ok (.aload_n 0, 1) := by decide +kernel
theorem dX0_become_11 : decode cX0_become 11 = .ok (.getfield 11, 3) := by decide +kernel
theorem dX0_become_14 : decode cX0_become 14 = .ok (.arraylength, 1) := by decide +kernel
theorem dX0_become_15 : decode cX0_become 15 = .ok (.invokestatic 15, 3) := by decide +kernel
theorem dX0_become_18 : decode cX0_become 18 = .ok (.aload_n 0, 1) := by decide +kernel
theorem dX0_become_19 : decode cX0_become 19 = .ok (.aload_n 1, 1) := by decide +kernel
theorem dX0_become_20 : decode cX0_become 20 = .ok (.getfield 21, 3) := by decide +kernel
theorem dX0_become_23 : decode cX0_become 23 = .ok (.putfield 21, 3) := by decide +kernel
theorem dX0_become_26 : decode cX0_become 26 = .ok (.aload_n 0, 1) := by decide +kernel
theorem dX0_become_27 : decode cX0_become 27 = .ok (.aload_n 1, 1) := by decide +kernel
theorem dX0_become_28 : decode cX0_become 28 = .ok (.getfield 25, 3) := by decide +kernel
theorem dX0_become_31 : decode cX0_become 31 = .ok (.putfield 25, 3) := by decide +kernel
theorem dX0_become_34 : decode cX0_become 34 = .ok (.aload_n 0, 1) := by decide +kernel
theorem dX0_become_35 : decode cX0_become 35 = .ok (.aload_n 1, 1) := by decide +kernel
theorem dX0_become_36 : decode cX0_become 36 = .ok (.getfield 28, 3) := by decide +kernel
theorem dX0_become_39 : decode cX0_become 39 = .ok (.putfield 28, 3) := by decide +kernel
theorem dX0_become_42 : decode cX0_become 42 = .ok (.aload_n 0, 1) := by decide +kernel
theorem dX0_become_43 : decode cX0_become 43 = .ok (.aload_n 1, 1) := by decide +kernel
theorem dX0_become_44 : decode cX0_become 44 = .ok (.getfield 31, 3) := by decide +kernel
theorem dX0_become_47 : decode cX0_become 47 = .ok (.putfield 31, 3) := by decide +kernel
theorem dX0_become_50 : decode cX0_become 50 = .ok (.aload_n 0, 1) := by decide +kernel
theorem dX0_become_51 : decode cX0_become 51 = .ok (.aload_n 1, 1) := by decide +kernel
theorem dX0_become_52 : decode cX0_become 52 = .ok (.getfield 35, 3) := by decide +kernel
theorem dX0_become_55 : decode cX0_become 55 = .ok (.putfield 35, 3) := by decide +kernel
theorem dX0_become_58 : decode cX0_become 58 = .ok (.return_, 1) := by decide +kernel
theorem dX0_sign_0 : decode cX0_sign 0 = .ok (.iload_n 1, 1) := by decide +kernel
theorem dX0_sign_1 : decode cX0_sign 1 = .ok (.ifCond .lt 27, 3) := by decide +kernel
theorem dX0_sign_4 : decode cX0_sign 4 = .ok (.iload_n 1, 1) := by decide +kernel
theorem dX0_sign_5 : decode cX0_sign 5 = .ok (.aload_n 0, 1) := by decide +kernel
theorem dX0_sign_6 : decode cX0_sign 6 = .ok (.getfield 21, 3) := by decide +kernel
theorem dX0_sign_9 : decode cX0_sign 9 = .ok (.if_icmp .ge 19, 3) := by decide +kernel
theorem dX0_sign_12 : decode cX0_sign 12 = .ok (.iload_n 2, 1) := by decide +kernel
theorem dX0_sign_13 : decode cX0_sign 13 = .ok (.ifCond .lt 15, 3) := by decide +kernel
theorem dX0_sign_16 : decode cX0_sign 16 = .ok (.iload_n 2, 1) := by decide +kernel
theorem dX0_sign_17 : decode cX0_sign 17 = .ok (.aload_n 0, 1) := by decide +kernel
theorem dX0_sign_18 : decode cX0_sign 18 = .ok (.getfield 25, 3) := by decide +kernel
theorem dX0_sign_21 : decode cX0_sign 21 = .ok (.if_icmp .ge 7, 3) := by decide +kernel
theorem dX0_sign_24 : decode cX0_sign 24 = .ok (.iconst 1, 1) := by decide +kernel
theorem dX0_sign_25 : decode cX0_sign 25 = .ok (.goto 4, 3) := by decide +kernel
theorem dX0_sign_28 : decode cX0_sign 28 = .ok (.iconst 0, 1) := by decide +kernel
theorem dX0_sign_29 : decode cX0_sign 29 = .ok (.istore_n 3, 1) := by decide +kernel
theorem dX0_sign_30 : decode cX0_sign 30 = .ok (.iload_n 3, 1) := by decide +kernel
theorem dX0_sign_31 : decode cX0_sign 31 = .ok (.ifCond .eq 16, 3) := by decide +kernel
theorem dX0_sign_34 : decode cX0_sign 34 = .ok (.aload_n 0, 1) := by decide +kernel
theorem dX0_sign_35 : decode cX0_sign 35 = .ok (.getfield 11, 3) := by decide +kernel
theorem dX0_sign_38 : decode cX0_sign 38 = .ok (.iload_n 1, 1) := by decide +kernel
theorem dX0_sign_39 : decode cX0_sign 39 = .ok (.iconst 5, 1) := by decide +kernel
theorem dX0_sign_40 : decode cX0_sign 40 = .ok (.imul, 1) := by decide +kernel
theorem dX0_sign_41 : decode cX0_sign 41 = .ok (.iload_n 2, 1) := by decide +kernel
theorem dX0_sign_42 : decode cX0_sign 42 = .ok (.iadd, 1) := by decide +kernel
theorem dX0_sign_43 : decode cX0_sign 43 = .ok (.iaload, 1) := by decide +kernel
theorem dX0_sign_44 : decode cX0_sign 44 = .ok (.goto 4, 3) := by decide +kernel
theorem dX0_sign_47 : decode cX0_sign 47 = .ok (.iconst 0, 1) := by decide +kernel
theorem dX0_sign_48 : decode cX0_sign 48 = .ok (.ireturn, 1) := by decide +kernel
set_option maxRecDepth 20000 in
theorem ggX0_read_X8_size : GoodIn wsX0_read wsX8_size := goodIn_r _ [10, 11, 37, 38] (by decide +kernel) (by decide +kernel)
set_option maxRecDepth 20000 in
theorem gX0_read_X8_size : GoodIn wsX0_read (wsV RX0 38 RX8 yX8_size wsX8_size) := goodIn_app (goodIn_of _ (by decide +kernel)) ggX0_read_X8_size
set_option maxRecDepth 20000 in
theorem ggX0_read_X8_byteAt : GoodIn wsX0_read wsX8_byteAt := goodIn_r _ [15, 11, 16, 37, 38] (by decide +kernel) (by decide +kernel)
set_option maxRecDepth 20000 in
theorem gX0_read_X8_byteAt : GoodIn wsX0_read (wsV RX0 44 RX8 yX8_byteAt wsX8_byteAt) := goodIn_app (goodIn_of _ (by decide +kernel)) ggX0_read_X8_byteAt
set_option maxRecDepth 20000 in
theorem ggX0_read_X0_beginsRow : GoodIn wsX0_read wsX0_beginsRow := goodIn_r _ [21, 5, 2, 1, 31, 32, 33, 34, 35, 36] (by decide +kernel) (by decide +kernel)
set_option maxRecDepth 20000 in
theorem gX0_read_X0_beginsRow : GoodIn wsX0_read (wsV RX0 48 RX0 yX0_beginsRow wsX0_beginsRow) := goodIn_app (goodIn_of _ (by decide +kernel)) ggX0_read_X0_beginsRow
set_option maxRecDepth 20000 in
theorem ggX0_read_X0_put : GoodIn wsX0_read wsX0_put := goodIn_r _ [25, 5, 1, 2, 3, 4, 26, 27, 28, 29, 30, 31, 32, 33, 34, 35, 36] (by decide +kernel) (by decide +kernel)
set_option maxRecDepth 20000 in
theorem gX0_read_X0_put : GoodIn wsX0_read (wsV RX0 52 RX0 yX0_put wsX0_put) := goodIn_app (goodIn_of _ (by decide +kernel)) ggX0_read_X0_put
theorem dX0_read_0 : decode cX0_read 0 = .ok (.aload_n 0, 1) := by decide +kernel
theorem dX0_read_1 : decode cX0_read 1 = .ok (.iconst 1, 1) := by decide +kernel
theorem dX0_read_2 : decode cX0_read 2 = .ok (.putfield 21, 3) := by decide +kernel
theorem dX0_read_5 : decode cX0_read 5 = .ok (.aload_n 0, 1) := by decide +kernel
theorem dX0_read_6 : decode cX0_read 6 = .ok (.iconst 0, 1) := by decide +kernel
theorem dX0_read_7 : decode cX0_read 7 = .ok (.putfield 25, 3) := by decide +kernel
theorem dX0_read_10 : decode cX0_read 10 = .ok (.aload_n 0, 1) := by decide +kernel
theorem dX0_read_11 : decode cX0_read 11 = .ok (.iconst 0, 1) := by decide +kernel
theorem dX0_read_12 : decode cX0_read 12 = .ok (.putfield 28, 3) := by decide +kernel
theorem dX0_read_15 : decode cX0_read 15 = .ok (.aload_n 0, 1) := by decide +kernel
theorem dX0_read_16 : decode cX0_read 16 = .ok (.iconst 0, 1) := by decide +kernel
theorem dX0_read_17 : decode cX0_read 17 = .ok (.putfield 31, 3) := by decide +kernel
theorem dX0_read_20 : decode cX0_read 20 = .ok (.aload_n 0, 1) := by decide +kernel
theorem dX0_read_21 : decode cX0_read 21 = .ok (.iconst 0, 1) := by decide +kernel
theorem dX0_read_22 : decode cX0_read 22 = .ok (.putfield 35, 3) := by decide +kernel
theorem dX0_read_25 : decode cX0_read 25 = .ok (.iconst 0, 1) := by decide +kernel
theorem dX0_read_26 : decode cX0_read 26 = .ok (.istore_n 2, 1) := by decide +kernel
theorem dX0_read_27 : decode cX0_read 27 = .ok (.iload_n 2, 1) := by decide +kernel
theorem dX0_read_28 : decode cX0_read 28 = .ok (.aload_n 1, 1) := by decide +kernel
theorem dX0_read_29 : decode cX0_read 29 = .ok (.invokevirtual 38, 3) := by decide +kernel
theorem dX0_read_32 : decode cX0_read 32 = .ok (.if_icmp .ge 42, 3) := by decide +kernel
theorem dX0_read_35 : decode cX0_read 35 = .ok (.aload_n 1, 1) := by decide +kernel
theorem dX0_read_36 : decode cX0_read 36 = .ok (.iload_n 2, 1) := by decide +kernel
theorem dX0_read_37 : decode cX0_read 37 = .ok (.invokevirtual 44, 3) := by decide +kernel
theorem dX0_read_40 : decode cX0_read 40 = .ok (.istore_n 3, 1) := by decide +kernel
theorem dX0_read_41 : decode cX0_read 41 = .ok (.iload_n 3, 1) := by decide +kernel
theorem dX0_read_42 : decode cX0_read 42 = .ok (.bipush 47, 2) := by decide +kernel
theorem dX0_read_44 : decode cX0_read 44 = .ok (.if_icmp .ne 10, 3) := by decide +kernel
theorem dX0_read_47 : decode cX0_read 47 = .ok (.aload_n 0, 1) := by decide +kernel
theorem dX0_read_48 : decode cX0_read 48 = .ok (.invokevirtual 48, 3) := by decide +kernel
theorem dX0_read_51 : decode cX0_read 51 = .ok (.goto 8, 3) := by decide +kernel
theorem dX0_read_54 : decode cX0_read 54 = .ok (.aload_n 0, 1) := by decide +kernel
theorem dX0_read_55 : decode cX0_read 55 = .ok (.iload_n 3, 1) := by decide +kernel
theorem dX0_read_56 : decode cX0_read 56 = .ok (.invokevirtual 52, 3) := by decide +kernel
theorem dX0_read_59 : decode cX0_read 59 = .ok (.istore 4, 2) := by decide +kernel
theorem dX0_read_61 : decode cX0_read 61 = .ok (.iload 4, 2) := by decide +kernel
theorem dX0_read_63 : decode cX0_read 63 = .ok (.ifCond .ne 5, 3) := by decide +kernel
theorem dX0_read_66 : decode cX0_read 66 = .ok (.iload_n 2, 1) := by decide +kernel
theorem dX0_read_67 : decode cX0_read 67 = .ok (.ireturn, 1) := by decide +kernel
theorem dX0_read_68 : decode cX0_read 68 = .ok (.iinc 2 1, 3) := by decide +kernel
theorem dX0_read_71 : decode cX0_read 71 = .ok (.goto (-44), 3) := by decide +kernel
theorem dX0_read_74 : decode cX0_read 74 = .ok (.aload_n 0, 1) := by decide +kernel
theorem dX0_read_75 : decode cX0_read 75 = .ok (.getfield 31, 3) := by decide +kernel
theorem dX0_read_78 : decode cX0_read 78 = .ok (.ifCond .eq 19, 3) := by decide +kernel
theorem dX0_read_81 : decode cX0_read 81 = .ok (.aload_n 0, 1) := by decide +kernel
theorem dX0_read_82 : decode cX0_read 82 = .ok (.getfield 35, 3) := by decide +kernel
theorem dX0_read_85 : decode cX0_read 85 = .ok (.aload_n 0, 1) := by decide +kernel
theorem dX0_read_86 : decode cX0_read 86 = .ok (.getfield 25, 3) := by decide +kernel
theorem dX0_read_89 : decode cX0_read 89 = .ok (.if_icmp .ne 8, 3) := by decide +kernel
theorem dX0_read_92 : decode cX0_read 92 = .ok (.bipush (-9), 2) := by decide +kernel
theorem dX0_read_94 : decode cX0_read 94 = .ok (.goto 7, 3) := by decide +kernel
theorem dX0_read_97 : decode cX0_read 97 = .ok (.aload_n 1, 1) := by decide +kernel
theorem dX0_read_98 : decode cX0_read 98 = .ok (.invokevirtual 38, 3) := by decide +kernel
theorem dX0_read_101 : decode cX0_read 101 = .ok (.ireturn, 1) := by decide +kernel
theorem dX0_beginsRow_0 : decode cX0_beginsRow 0 = .ok (.aload_n 0, 1) := by decide +kernel
theorem dX0_beginsRow_1 : decode cX0_beginsRow 1 = .ok (.getfield 35, 3) := by decide +kernel
theorem dX0_beginsRow_4 : decode cX0_beginsRow 4 = .ok (.ifCond .eq 22, 3) := by decide +kernel
theorem dX0_beginsRow_7 : decode cX0_beginsRow 7 = .ok (.aload_n 0, 1) := by decide +kernel
theorem dX0_beginsRow_8 : decode cX0_beginsRow 8 = .ok (.getfield 35, 3) := by decide +kernel
theorem dX0_beginsRow_11 : decode cX0_beginsRow 11 = .ok (.aload_n 0, 1) := by decide +kernel
theorem dX0_beginsRow_12 : decode cX0_beginsRow 12 = .ok (.getfield 25, 3) := by decide +kernel
theorem dX0_beginsRow_15 : decode cX0_beginsRow 15 = .ok (.if_icmp .lt 11, 3) := by decide +kernel
theorem dX0_beginsRow_18 : decode cX0_beginsRow 18 = .ok (.aload_n 0, 1) := by decide +kernel
theorem dX0_beginsRow_19 : decode cX0_beginsRow 19 = .ok (.getfield 21, 3) := by decide +kernel
theorem dX0_beginsRow_22 : decode cX0_beginsRow 22 = .ok (.iconst 5, 1) := by decide +kernel
theorem dX0_beginsRow_23 : decode cX0_beginsRow 23 = .ok (.if_icmp .lt 5, 3) := by decide +kernel
theorem dX0_beginsRow_26 : decode cX0_beginsRow 26 = .ok (.iconst 0, 1) := by decide +kernel
theorem dX0_beginsRow_27 : decode cX0_beginsRow 27 = .ok (.ireturn, 1) := by decide +kernel
theorem dX0_beginsRow_28 : decode cX0_beginsRow 28 = .ok (.aload_n 0, 1) := by decide +kernel
theorem dX0_beginsRow_29 : decode cX0_beginsRow 29 = .ok (.dup, 1) := by decide +kernel
theorem dX0_beginsRow_30 : decode cX0_beginsRow 30 = .ok (.getfield 21, 3) := by decide +kernel
theorem dX0_beginsRow_33 : decode cX0_beginsRow 33 = .ok (.iconst 1, 1) := by decide +kernel
theorem dX0_beginsRow_34 : decode cX0_beginsRow 34 = .ok (.iadd, 1) := by decide +kernel
theorem dX0_beginsRow_35 : decode cX0_beginsRow 35 = .ok (.putfield 21, 3) := by decide +kernel
theorem dX0_beginsRow_38 : decode cX0_beginsRow 38 = .ok (.aload_n 0, 1) := by decide +kernel
theorem dX0_beginsRow_39 : decode cX0_beginsRow 39 = .ok (.iconst 0, 1) := by decide +kernel
theorem dX0_beginsRow_40 : decode cX0_beginsRow 40 = .ok (.putfield 35, 3) := by decide +kernel
theorem dX0_beginsRow_43 : decode cX0_beginsRow 43 = .ok (.iconst 1, 1) := by decide +kernel
theorem dX0_beginsRow_44 : decode cX0_beginsRow 44 = .ok (.ireturn, 1) := by decide +kernel
theorem dX0_put_0 : decode cX0_put 0 = .ok (.iload_n 1, 1) := by decide +kernel
theorem dX0_put_1 : decode cX0_put 1 = .ok (.bipush 46, 2) := by decide +kernel
theorem dX0_put_3 : decode cX0_put 3 = .ok (.if_icmp .eq 15, 3) := by decide +kernel
theorem dX0_put_6 : decode cX0_put 6 = .ok (.iload_n 1, 1) := by decide +kernel
theorem dX0_put_7 : decode cX0_put 7 = .ok (.bipush 35, 2) := by decide +kernel
theorem dX0_put_9 : decode cX0_put 9 = .ok (.if_icmp .eq 9, 3) := by decide +kernel
theorem dX0_put_12 : decode cX0_put 12 = .ok (.iload_n 1, 1) := by decide +kernel
theorem dX0_put_13 : decode cX0_put 13 = .ok (.bipush 100, 2) := by decide +kernel
theorem dX0_put_15 : decode cX0_put 15 = .ok (.if_icmp .ne 26, 3) := by decide +kernel
theorem dX0_put_18 : decode cX0_put 18 = .ok (.aload_n 0, 1) := by decide +kernel
theorem dX0_put_19 : decode cX0_put 19 = .ok (.getfield 35, 3) := by decide +kernel
theorem dX0_put_22 : decode cX0_put 22 = .ok (.aload_n 0, 1) := by decide +kernel
theorem dX0_put_23 : decode cX0_put 23 = .ok (.getfield 21, 3) := by decide +kernel
theorem dX0_put_26 : decode cX0_put 26 = .ok (.iconst 1, 1) := by decide +kernel
theorem dX0_put_27 : decode cX0_put 27 = .ok (.if_icmp .ne 7, 3) := by decide +kernel
theorem dX0_put_30 : decode cX0_put 30 = .ok (.iconst 5, 1) := by decide +kernel
theorem dX0_put_31 : decode cX0_put 31 = .ok (.goto 7, 3) := by decide +kernel
theorem dX0_put_34 : decode cX0_put 34 = .ok (.aload_n 0, 1) := by decide +kernel
theorem dX0_put_35 : decode cX0_put 35 = .ok (.getfield 25, 3) := by decide +kernel
theorem dX0_put_38 : decode cX0_put 38 = .ok (.if_icmp .lt 5, 3) := by decide +kernel
theorem dX0_put_41 : decode cX0_put 41 = .ok (.iconst 0, 1) := by decide +kernel
theorem dX0_put_42 : decode cX0_put 42 = .ok (.ireturn, 1) := by decide +kernel
theorem dX0_put_43 : decode cX0_put 43 = .ok (.iload_n 1, 1) := by decide +kernel
theorem dX0_put_44 : decode cX0_put 44 = .ok (.bipush 35, 2) := by decide +kernel
theorem dX0_put_46 : decode cX0_put 46 = .ok (.if_icmp .eq 12, 3) := by decide +kernel
theorem dX0_put_49 : decode cX0_put 49 = .ok (.aload_n 0, 1) := by decide +kernel
theorem dX0_put_50 : decode cX0_put 50 = .ok (.getfield 28, 3) := by decide +kernel
theorem dX0_put_53 : decode cX0_put 53 = .ok (.bipush 10, 2) := by decide +kernel
theorem dX0_put_55 : decode cX0_put 55 = .ok (.if_icmp .ge 16, 3) := by decide +kernel
theorem dX0_put_58 : decode cX0_put 58 = .ok (.iload_n 1, 1) := by decide +kernel
theorem dX0_put_59 : decode cX0_put 59 = .ok (.bipush 100, 2) := by decide +kernel
theorem dX0_put_61 : decode cX0_put 61 = .ok (.if_icmp .ne 12, 3) := by decide +kernel
theorem dX0_put_64 : decode cX0_put 64 = .ok (.aload_n 0, 1) := by decide +kernel
theorem dX0_put_65 : decode cX0_put 65 = .ok (.getfield 31, 3) := by decide +kernel
theorem dX0_put_68 : decode cX0_put 68 = .ok (.ifCond .eq 5, 3) := by decide +kernel
theorem dX0_put_71 : decode cX0_put 71 = .ok (.iconst 0, 1) := by decide +kernel
theorem dX0_put_72 : decode cX0_put 72 = .ok (.ireturn, 1) := by decide +kernel
theorem dX0_put_73 : decode cX0_put 73 = .ok (.aload_n 0, 1) := by decide +kernel
theorem dX0_put_74 : decode cX0_put 74 = .ok (.getfield 11, 3) := by decide +kernel
theorem dX0_put_77 : decode cX0_put 77 = .ok (.aload_n 0, 1) := by decide +kernel
theorem dX0_put_78 : decode cX0_put 78 = .ok (.getfield 21, 3) := by decide +kernel
theorem dX0_put_81 : decode cX0_put 81 = .ok (.iconst 1, 1) := by decide +kernel
theorem dX0_put_82 : decode cX0_put 82 = .ok (.isub, 1) := by decide +kernel
theorem dX0_put_83 : decode cX0_put 83 = .ok (.iconst 5, 1) := by decide +kernel
theorem dX0_put_84 : decode cX0_put 84 = .ok (.imul, 1) := by decide +kernel
theorem dX0_put_85 : decode cX0_put 85 = .ok (.aload_n 0, 1) := by decide +kernel
theorem dX0_put_86 : decode cX0_put 86 = .ok (.getfield 35, 3) := by decide +kernel
theorem dX0_put_89 : decode cX0_put 89 = .ok (.iadd, 1) := by decide +kernel
theorem dX0_put_90 : decode cX0_put 90 = .ok (.iload_n 1, 1) := by decide +kernel
theorem dX0_put_91 : decode cX0_put 91 = .ok (.bipush 35, 2) := by decide +kernel
theorem dX0_put_93 : decode cX0_put 93 = .ok (.if_icmp .ne 7, 3) := by decide +kernel
theorem dX0_put_96 : decode cX0_put 96 = .ok (.iconst 0, 1) := by decide +kernel
theorem dX0_put_97 : decode cX0_put 97 = .ok (.goto 14, 3) := by decide +kernel
theorem dX0_put_100 : decode cX0_put 100 = .ok (.iload_n 1, 1) := by decide +kernel
theorem dX0_put_101 : decode cX0_put 101 = .ok (.bipush 46, 2) := by decide +kernel
theorem dX0_put_103 : decode cX0_put 103 = .ok (.if_icmp .ne 7, 3) := by decide +kernel
theorem dX0_put_106 : decode cX0_put 106 = .ok (.iconst 1, 1) := by decide +kernel
theorem dX0_put_107 : decode cX0_put 107 = .ok (.goto 4, 3) := by decide +kernel
theorem dX0_put_110 : decode cX0_put 110 = .ok (.iconst 2, 1) := by decide +kernel
theorem dX0_put_111 : decode cX0_put 111 = .ok (.iastore, 1) := by decide +kernel
theorem dX0_put_112 : decode cX0_put 112 = .ok (.aload_n 0, 1) := by decide +kernel
theorem dX0_put_113 : decode cX0_put 113 = .ok (.dup, 1) := by decide +kernel
theorem dX0_put_114 : decode cX0_put 114 = .ok (.getfield 28, 3) := by decide +kernel
theorem dX0_put_117 : decode cX0_put 117 = .ok (.iload_n 1, 1) := by decide +kernel
theorem dX0_put_118 : decode cX0_put 118 = .ok (.bipush 35, 2) := by decide +kernel
theorem dX0_put_120 : decode cX0_put 120 = .ok (.if_icmp .ne 7, 3) := by decide +kernel
theorem dX0_put_123 : decode cX0_put 123 = .ok (.iconst 0, 1) := by decide +kernel
theorem dX0_put_124 : decode cX0_put 124 = .ok (.goto 4, 3) := by decide +kernel
theorem dX0_put_127 : decode cX0_put 127 = .ok (.iconst 1, 1) := by decide +kernel
theorem dX0_put_128 : decode cX0_put 128 = .ok (.iadd, 1) := by decide +kernel
theorem dX0_put_129 : decode cX0_put 129 = .ok (.putfield 28, 3) := by decide +kernel
theorem dX0_put_132 : decode cX0_put 132 = .ok (.aload_n 0, 1) := by decide +kernel
theorem dX0_put_133 : decode cX0_put 133 = .ok (.aload_n 0, 1) := by decide +kernel
theorem dX0_put_134 : decode cX0_put 134 = .ok (.getfield 31, 3) := by decide +kernel
theorem dX0_put_137 : decode cX0_put 137 = .ok (.ifCond .ne 9, 3) := by decide +kernel
theorem dX0_put_140 : decode cX0_put 140 = .ok (.iload_n 1, 1) := by decide +kernel
theorem dX0_put_141 : decode cX0_put 141 = .ok (.bipush 100, 2) := by decide +kernel
theorem dX0_put_143 : decode cX0_put 143 = .ok (.if_icmp .ne 7, 3) := by decide +kernel
theorem dX0_put_146 : decode cX0_put 146 = .ok (.iconst 1, 1) := by decide +kernel
theorem dX0_put_147 : decode cX0_put 147 = .ok (.goto 4, 3) := by decide +kernel
theorem dX0_put_150 : decode cX0_put 150 = .ok (.iconst 0, 1) := by decide +kernel
theorem dX0_put_151 : decode cX0_put 151 = .ok (.putfield 31, 3) := by decide +kernel
theorem dX0_put_154 : decode cX0_put 154 = .ok (.aload_n 0, 1) := by decide +kernel
theorem dX0_put_155 : decode cX0_put 155 = .ok (.dup, 1) := by decide +kernel
theorem dX0_put_156 : decode cX0_put 156 = .ok (.getfield 35, 3) := by decide +kernel
theorem dX0_put_159 : decode cX0_put 159 = .ok (.iconst 1, 1) := by decide +kernel
theorem dX0_put_160 : decode cX0_put 160 = .ok (.iadd, 1) := by decide +kernel
theorem dX0_put_161 : decode cX0_put 161 = .ok (.putfield 35, 3) := by decide +kernel
theorem dX0_put_164 : decode cX0_put 164 = .ok (.aload_n 0, 1) := by decide +kernel
theorem dX0_put_165 : decode cX0_put 165 = .ok (.aload_n 0, 1) := by decide +kernel
theorem dX0_put_166 : decode cX0_put 166 = .ok (.getfield 25, 3) := by decide +kernel
theorem dX0_put_169 : decode cX0_put 169 = .ok (.aload_n 0, 1) := by decide +kernel
theorem dX0_put_170 : decode cX0_put 170 = .ok (.getfield 35, 3) := by decide +kernel
theorem dX0_put_173 : decode cX0_put 173 = .ok (.invokestatic 56, 3) := by decide +kernel
theorem dX0_put_176 : decode cX0_put 176 = .ok (.putfield 25, 3) := by decide +kernel
theorem dX0_put_179 : decode cX0_put 179 = .ok (.iconst 1, 1) := by decide +kernel
theorem dX0_put_180 : decode cX0_put 180 = .ok (.ireturn, 1) := by decide +kernel
theorem dX1_init_0 : decode cX1_init 0 = .ok (.aload_n 0, 1) := by decide +kernel
theorem dX1_init_1 : decode cX1_init 1 = .ok (.invokespecial 3, 3) := by decide +kernel
theorem dX1_init_4 : decode cX1_init 4 = .ok (.aload_n 0, 1) := by decide +kernel
theorem dX1_init_5 : decode cX1_init 5 = .ok (.bipush 6, 2) := by decide +kernel
theorem dX1_init_7 : decode cX1_init 7 = .ok (.newarray .int, 2) := by decide +kernel
theorem dX1_init_9 : decode cX1_init 9 = .ok (.putfield 9, 3) := by decide +kernel
theorem dX1_init_12 : decode cX1_init 12 = .ok (.aload_n 0, 1) := by decide +kernel
theorem dX1_init_13 : decode cX1_init 13 = .ok (.bipush 6, 2) := by decide +kernel
theorem dX1_init_15 : decode cX1_init 15 = .ok (.newarray .int, 2) := by decide +kernel
theorem dX1_init_17 : decode cX1_init 17 = .ok (.putfield 15, 3) := by decide +kernel
theorem dX1_init_20 : decode cX1_init 20 = .ok (.aload_n 0, 1) := by decide +kernel
theorem dX1_init_21 : decode cX1_init 21 = .ok (.bipush 6, 2) := by decide +kernel
theorem dX1_init_23 : decode cX1_init 23 = .ok (.newarray .int, 2) := by decide +kernel
theorem dX1_init_25 : decode cX1_init 25 = .ok (.putfield 18, 3) := by decide +kernel
theorem dX1_init_28 : decode cX1_init 28 = .ok (.aload_n 0, 1) := by decide +kernel
theorem dX1_init_29 : decode cX1_init 29 = .ok (.bipush 32, 2) := by decide +kernel
theorem dX1_init_31 : decode cX1_init 31 = .ok (.newarray .int, 2) := by decide +kernel
theorem dX1_init_33 : decode cX1_init 33 = .ok (.putfield 21, 3) := by decide +kernel
theorem dX1_init_36 : decode cX1_init 36 = .ok (.return_, 1) := by decide +kernel
theorem dX1_become_0 : decode cX1_become 0 = .ok (.aload_n 0, 1) := by decide +kernel
theorem dX1_become_1 : decode cX1_become 1 = .ok (.aload_n 1, 1) := by decide +kernel
theorem dX1_become_2 : decode cX1_become 2 = .ok (.getfield 24, 3) := by decide +kernel
theorem dX1_become_5 : decode cX1_become 5 = .ok (.putfield 24, 3) := by decide +kernel
theorem dX1_become_8 : decode cX1_become 8 = .ok (.aload_n 0, 1) := by decide +kernel
theorem dX1_become_9 : decode cX1_become 9 = .ok (.aload_n 1, 1) := by decide +kernel
theorem dX1_become_10 : decode cX1_become 10 = .ok (.getfield 28, 3) := by decide +kernel
theorem dX1_become_13 : decode cX1_become 13 = .ok (.putfield 28, 3) := by decide +kernel
theorem dX1_become_16 : decode cX1_become 16 = .ok (.aload_n 0, 1) := by decide +kernel
theorem dX1_become_17 : decode cX1_become 17 = .ok (.aload_n 1, 1) := by decide +kernel
theorem dX1_become_18 : decode cX1_become 18 = .ok (.getfield 31, 3) := by decide +kernel
theorem dX1_become_21 : decode cX1_become 21 = .ok (.putfield 31, 3) := by decide +kernel
theorem dX1_become_24 : decode cX1_become 24 = .ok (.aload_n 1, 1) := by decide +kernel
theorem dX1_become_25 : decode cX1_become 25 = .ok (.getfield 9, 3) := by decide +kernel
theorem dX1_become_28 : decode cX1_become 28 = .ok (.iconst 0, 1) := by decide +kernel
theorem dX1_become_29 : decode cX1_become 29 = .ok (.aload_n 0, 1) := by decide +kernel
theorem dX1_become_30 : decode cX1_become 30 = .ok (.getfield 9, 3) := by decide +kernel
theorem dX1_become_33 : decode cX1_become 33 = .ok (.iconst 0, 1) := by decide +kernel
theorem dX1_become_34 : decode cX1_become 34 = .ok (.bipush 6, 2) := by decide +kernel
theorem dX1_become_36 : decode cX1_become 36 = .ok (.invokestatic 34, 3) := by decide +kernel
theorem dX1_become_39 : decode cX1_become 39 = .ok (.aload_n 1, 1) := by decide +kernel
theorem dX1_become_40 : decode cX1_become 40 = .ok (.getfield 15, 3) := by decide +kernel
theorem dX1_become_43 : decode cX1_become 43 = .ok (.iconst 0, 1) := by decide +kernel
theorem dX1_become_44 : decode cX1_become 44 = .ok (.aload_n 0, 1) := by decide +kernel
theorem dX1_become_45 : decode cX1_become 45 = .ok (.getfield 15, 3) := by decide +kernel
theorem dX1_become_48 : decode cX1_become 48 = .ok (.iconst 0, 1) := by decide +kernel
theorem dX1_become_49 : decode cX1_become 49 = .ok (.bipush 6, 2) := by decide +kernel
theorem dX1_become_51 : decode cX1_become 51 = .ok (.invokestatic 34, 3) := by decide +kernel
theorem dX1_become_54 : decode cX1_become 54 = .ok (.aload_n 1, 1) := by decide +kernel
theorem dX1_become_55 : decode cX1_become 55 = .ok (.getfield 18, 3) := by decide +kernel
theorem dX1_become_58 : decode cX1_become 58 = .ok (.iconst 0, 1) := by decide +kernel
theorem dX1_become_59 : decode cX1_become 59 = .ok (.aload_n 0, 1) := by decide +kernel
theorem dX1_become_60 : decode cX1_become 60 = .ok (.getfield 18, 3) := by decide +kernel
theorem dX1_become_63 : decode cX1_become 63 = .ok (.iconst 0, 1) := by decide +kernel
theorem dX1_become_64 : decode cX1_become 64 = .ok (.bipush 6, 2) := by decide +kernel
theorem dX1_become_66 : decode cX1_become 66 = .ok (.invokestatic 34, 3) := by decide +kernel
theorem dX1_become_69 : decode cX1_become 69 = .ok (.aload_n 1, 1) := by decide +kernel
theorem dX1_become_70 : decode cX1_become 70 = .ok (.getfield 21, 3) := by decide +kernel
theorem dX1_become_73 : decode cX1_become 73 = .ok (.iconst 0, 1) := by decide +kernel
theorem dX1_become_74 : decode cX1_become 74 = .ok (.aload_n 0, 1) := by decide +kernel
theorem dX1_become_75 : decode cX1_become 75 = .ok (.getfield 21, 3) := by decide +kernel
theorem dX1_become_78 : decode cX1_become 78 = .ok (.iconst 0, 1) := by decide +kernel
theorem dX1_become_79 : decode cX1_become 79 = .ok (.aload_n 0, 1) := by decide +kernel
theorem dX1_become_80 : decode cX1_become 80 = .ok (.getfield 21, 3) := by decide +kernel
theorem dX1_become_83 : decode cX1_become 83 = .ok (.arraylength, 1) := by decide +kernel
theorem dX1_become_84 : decode cX1_become 84 = .ok (.invokestatic 34, 3) := by decide +kernel
theorem dX1_become_87 : decode cX1_become 87 = .ok (.return_, 1) := by decide +kernel
theorem dX1_hasPlace_0 : decode cX1_hasPlace 0 = .ok (.iload_n 1, 1) := by decide +kernel
theorem dX1_hasPlace_1 : decode cX1_hasPlace 1 = .ok (.ifCond .lt 15, 3) := by decide +kernel
theorem dX1_hasPlace_4 : decode cX1_hasPlace 4 = .ok (.iload_n 1, 1) := by decide +kernel
theorem dX1_hasPlace_5 : decode cX1_hasPlace 5 = .ok (.aload_n 0, 1) := by decide +kernel
theorem dX1_hasPlace_6 : decode cX1_hasPlace 6 = .ok (.getfield 24, 3) := by decide +kernel
theorem dX1_hasPlace_9 : decode cX1_hasPlace 9 = .ok (.if_icmp .gt 7, 3) := by decide +kernel
theorem dX1_hasPlace_12 : decode cX1_hasPlace 12 = .ok (.iconst 1, 1) := by decide +kernel
theorem dX1_hasPlace_13 : decode cX1_hasPlace 13 = .ok (.goto 4, 3) := by decide +kernel
theorem dX1_hasPlace_16 : decode cX1_hasPlace 16 = .ok (.iconst 0, 1) := by decide +kernel
theorem dX1_hasPlace_17 : decode cX1_hasPlace 17 = .ok (.ireturn, 1) := by decide +kernel
theorem dX1_hasRoom_0 : decode cX1_hasRoom 0 = .ok (.iload_n 1, 1) := by decide +kernel
theorem dX1_hasRoom_1 : decode cX1_hasRoom 1 = .ok (.ifCond .le 15, 3) := by decide +kernel
theorem dX1_hasRoom_4 : decode cX1_hasRoom 4 = .ok (.iload_n 1, 1) := by decide +kernel
theorem dX1_hasRoom_5 : decode cX1_hasRoom 5 = .ok (.aload_n 0, 1) := by decide +kernel
theorem dX1_hasRoom_6 : decode cX1_hasRoom 6 = .ok (.getfield 24, 3) := by decide +kernel
theorem dX1_hasRoom_9 : decode cX1_hasRoom 9 = .ok (.if_icmp .gt 7, 3) := by decide +kernel
theorem dX1_hasRoom_12 : decode cX1_hasRoom 12 = .ok (.iconst 1, 1) := by decide +kernel
theorem dX1_hasRoom_13 : decode cX1_hasRoom 13 = .ok (.goto 4, 3) := by decide +kernel
theorem dX1_hasRoom_16 : decode cX1_hasRoom 16 = .ok (.iconst 0, 1) := by decide +kernel
theorem dX1_hasRoom_17 : decode cX1_hasRoom 17 = .ok (.ireturn, 1) := by decide +kernel
theorem dX1_everyPlace_0 : decode cX1_everyPlace 0 = .ok (.iconst 1, 1) := by decide +kernel
theorem dX1_everyPlace_1 : decode cX1_everyPlace 1 = .ok (.aload_n 0, 1) := by decide +kernel
theorem dX1_everyPlace_2 : decode cX1_everyPlace 2 = .ok (.getfield 24, 3) := by decide +kernel
theorem dX1_everyPlace_5 : decode cX1_everyPlace 5 = .ok (.iconst 1, 1) := by decide +kernel
theorem dX1_everyPlace_6 : decode cX1_everyPlace 6 = .ok (.iadd, 1) := by decide +kernel
theorem dX1_everyPlace_7 : decode cX1_everyPlace 7 = .ok (.ishl, 1) := by decide +kernel
theorem dX1_everyPlace_8 : decode cX1_everyPlace 8 = .ok (.iconst 1, 1) := by decide +kernel
theorem dX1_everyPlace_9 : decode cX1_everyPlace 9 = .ok (.isub, 1) := by decide +kernel
theorem dX1_everyPlace_10 : decode cX1_everyPlace 10 = .ok (.ireturn, 1) := by decide +kernel
set_option maxRecDepth 20000 in
theorem ggX1_everyRoom_X1_everyPlace : GoodIn wsX1_everyRoom wsX1_everyPlace := goodIn_r _ [5, 6, 7, 8, 9, 10, 11, 12, 13] (by decide +kernel) (by decide +kernel)
set_option maxRecDepth 20000 in
theorem gX1_everyRoom_X1_everyPlace : GoodIn wsX1_everyRoom (wsV RX1 40 RX1 yX1_everyPlace wsX1_everyPlace) := goodIn_app (goodIn_of _ (by decide +kernel)) ggX1_everyRoom_X1_everyPlace
theorem dX1_everyRoom_0 : decode cX1_everyRoom 0 = .ok (.aload_n 0, 1) := by decide +kernel
theorem dX1_everyRoom_1 : decode cX1_everyRoom 1 = .ok (.invokevirtual 40, 3) := by decide +kernel
theorem dX1_everyRoom_4 : decode cX1_everyRoom 4 = .ok (.bipush (-2), 2) := by decide +kernel
theorem dX1_everyRoom_6 : decode cX1_everyRoom 6 = .ok (.iand, 1) := by decide +kernel
theorem dX1_everyRoom_7 : decode cX1_everyRoom 7 = .ok (.ireturn, 1) := by decide +kernel
theorem dX1_joined_0 : decode cX1_joined 0 = .ok (.aload_n 0, 1) := by decide +kernel
theorem dX1_joined_1 : decode cX1_joined 1 = .ok (.getfield 18, 3) := by decide +kernel
theorem dX1_joined_4 : decode cX1_joined 4 = .ok (.iload_n 1, 1) := by decide +kernel
theorem dX1_joined_5 : decode cX1_joined 5 = .ok (.iaload, 1) := by decide +kernel
theorem dX1_joined_6 : decode cX1_joined 6 = .ok (.iload_n 2, 1) := by decide +kernel
theorem dX1_joined_7 : decode cX1_joined 7 = .ok (.ishr, 1) := by decide +kernel
theorem dX1_joined_8 : decode cX1_joined 8 = .ok (.iconst 1, 1) := by decide +kernel
theorem dX1_joined_9 : decode cX1_joined 9 = .ok (.iand, 1) := by decide +kernel
theorem dX1_joined_10 : decode cX1_joined 10 = .ok (.ifCond .eq 7, 3) := by decide +kernel
theorem dX1_joined_13 : decode cX1_joined 13 = .ok (.iconst 1, 1) := by decide +kernel
theorem dX1_joined_14 : decode cX1_joined 14 = .ok (.goto 4, 3) := by decide +kernel
theorem dX1_joined_17 : decode cX1_joined 17 = .ok (.iconst 0, 1) := by decide +kernel
theorem dX1_joined_18 : decode cX1_joined 18 = .ok (.ireturn, 1) := by decide +kernel
theorem dX1_needPart_0 : decode cX1_needPart 0 = .ok (.aload_n 0, 1) := by decide +kernel
theorem dX1_needPart_1 : decode cX1_needPart 1 = .ok (.getfield 21, 3) := by decide +kernel
theorem dX1_needPart_4 : decode cX1_needPart 4 = .ok (.iload_n 1, 1) := by decide +kernel
theorem dX1_needPart_5 : decode cX1_needPart 5 = .ok (.iconst 4, 1) := by decide +kernel
theorem dX1_needPart_6 : decode cX1_needPart 6 = .ok (.imul, 1) := by decide +kernel
theorem dX1_needPart_7 : decode cX1_needPart 7 = .ok (.iload_n 2, 1) := by decide +kernel
theorem dX1_needPart_8 : decode cX1_needPart 8 = .ok (.iadd, 1) := by decide +kernel
theorem dX1_needPart_9 : decode cX1_needPart 9 = .ok (.iaload, 1) := by decide +kernel
theorem dX1_needPart_10 : decode cX1_needPart 10 = .ok (.ireturn, 1) := by decide +kernel
theorem dX1_coatsInAll_0 : decode cX1_coatsInAll 0 = .ok (.iconst 0, 1) := by decide +kernel
theorem dX1_coatsInAll_1 : decode cX1_coatsInAll 1 = .ok (.istore_n 1, 1) := by decide +kernel
theorem dX1_coatsInAll_2 : decode cX1_coatsInAll 2 = .ok (.iconst 1, 1) := by decide +kernel
theorem dX1_coatsInAll_3 : decode cX1_coatsInAll 3 = .ok (.istore_n 2, 1) := by decide +kernel
theorem dX1_coatsInAll_4 : decode cX1_coatsInAll 4 = .ok (.iload_n 2, 1) := by decide +kernel
theorem dX1_coatsInAll_5 : decode cX1_coatsInAll 5 = .ok (.aload_n 0, 1) := by decide +kernel
theorem dX1_coatsInAll_6 : decode cX1_coatsInAll 6 = .ok (.getfield 24, 3) := by decide +kernel
theorem dX1_coatsInAll_9 : decode cX1_coatsInAll 9 = .ok (.if_icmp .gt 18, 3) := by decide +kernel
theorem dX1_coatsInAll_12 : decode cX1_coatsInAll 12 = .ok (.iload_n 1, 1) := by decide +kernel
theorem dX1_coatsInAll_13 : decode cX1_coatsInAll 13 = .ok (.aload_n 0, 1) := by decide +kernel
theorem dX1_coatsInAll_14 : decode cX1_coatsInAll 14 = .ok (.getfield 15, 3) := by decide +kernel
theorem dX1_coatsInAll_17 : decode cX1_coatsInAll 17 = .ok (.iload_n 2, 1) := by decide +kernel
theorem dX1_coatsInAll_18 : decode cX1_coatsInAll 18 = .ok (.iaload, 1) := by decide +kernel
theorem dX1_coatsInAll_19 : decode cX1_coatsInAll 19 = .ok (.iadd, 1) := by decide +kernel
theorem dX1_coatsInAll_20 : decode cX1_coatsInAll 20 = .ok (.istore_n 1, 1) := by decide +kernel
theorem dX1_coatsInAll_21 : decode cX1_coatsInAll 21 = .ok (.iinc 2 1, 3) := by decide +kernel
theorem dX1_coatsInAll_24 : decode cX1_coatsInAll 24 = .ok (.goto (-20), 3) := by decide +kernel
theorem dX1_coatsInAll_27 : decode cX1_coatsInAll 27 = .ok (.iload_n 1, 1) := by decide +kernel
theorem dX1_coatsInAll_28 : decode cX1_coatsInAll 28 = .ok (.ireturn, 1) := by decide +kernel
theorem dX1_addRoom_0 : decode cX1_addRoom 0 = .ok (.iload_n 1, 1) := by decide +kernel
theorem dX1_addRoom_1 : decode cX1_addRoom 1 = .ok (.iconst 1, 1) := by decide +kernel
theorem dX1_addRoom_2 : decode cX1_addRoom 2 = .ok (.if_icmp .lt 19, 3) := by decide +kernel
theorem dX1_addRoom_5 : decode cX1_addRoom 5 = .ok (.iload_n 1, 1) := by decide +kernel
theorem dX1_addRoom_6 : decode cX1_addRoom 6 = .ok (.bipush 9, 2) := by decide +kernel
theorem dX1_addRoom_8 : decode cX1_addRoom 8 = .ok (.if_icmp .gt 13, 3) := by decide +kernel
theorem dX1_addRoom_11 : decode cX1_addRoom 11 = .ok (.iload_n 2, 1) := by decide +kernel
theorem dX1_addRoom_12 : decode cX1_addRoom 12 = .ok (.iconst 1, 1) := by decide +kernel
theorem dX1_addRoom_13 : decode cX1_addRoom 13 = .ok (.if_icmp .lt 8, 3) := by decide +kernel
theorem dX1_addRoom_16 : decode cX1_addRoom 16 = .ok (.iload_n 2, 1) := by decide +kernel
theorem dX1_addRoom_17 : decode cX1_addRoom 17 = .ok (.iconst 2, 1) := by decide +kernel
theorem dX1_addRoom_18 : decode cX1_addRoom 18 = .ok (.if_icmp .le 5, 3) := by decide +kernel
theorem dX1_addRoom_21 : decode cX1_addRoom 21 = .ok (.iconst 0, 1) := by decide +kernel
theorem dX1_addRoom_22 : decode cX1_addRoom 22 = .ok (.ireturn, 1) := by decide +kernel
theorem dX1_addRoom_23 : decode cX1_addRoom 23 = .ok (.aload_n 0, 1) := by decide +kernel
theorem dX1_addRoom_24 : decode cX1_addRoom 24 = .ok (.getfield 24, 3) := by decide +kernel
theorem dX1_addRoom_27 : decode cX1_addRoom 27 = .ok (.iconst 5, 1) := by decide +kernel
theorem dX1_addRoom_28 : decode cX1_addRoom 28 = .ok (.if_icmp .lt 5, 3) := by decide +kernel
theorem dX1_addRoom_31 : decode cX1_addRoom 31 = .ok (.iconst 0, 1) := by decide +kernel
theorem dX1_addRoom_32 : decode cX1_addRoom 32 = .ok (.ireturn, 1) := by decide +kernel
theorem dX1_addRoom_33 : decode cX1_addRoom 33 = .ok (.aload_n 0, 1) := by decide +kernel
theorem dX1_addRoom_34 : decode cX1_addRoom 34 = .ok (.dup, 1) := by decide +kernel
theorem dX1_addRoom_35 : decode cX1_addRoom 35 = .ok (.getfield 24, 3) := by decide +kernel
theorem dX1_addRoom_38 : decode cX1_addRoom 38 = .ok (.iconst 1, 1) := by decide +kernel
theorem dX1_addRoom_39 : decode cX1_addRoom 39 = .ok (.iadd, 1) := by decide +kernel
theorem dX1_addRoom_40 : decode cX1_addRoom 40 = .ok (.putfield 24, 3) := by decide +kernel
theorem dX1_addRoom_43 : decode cX1_addRoom 43 = .ok (.aload_n 0, 1) := by decide +kernel
theorem dX1_addRoom_44 : decode cX1_addRoom 44 = .ok (.getfield 9, 3) := by decide +kernel
theorem dX1_addRoom_47 : decode cX1_addRoom 47 = .ok (.aload_n 0, 1) := by decide +kernel
theorem dX1_addRoom_48 : decode cX1_addRoom 48 = .ok (.getfield 24, 3) := by decide +kernel
theorem dX1_addRoom_51 : decode cX1_addRoom 51 = .ok (.iload_n 1, 1) := by decide +kernel
theorem dX1_addRoom_52 : decode cX1_addRoom 52 = .ok (.iastore, 1) := by decide +kernel
theorem dX1_addRoom_53 : decode cX1_addRoom 53 = .ok (.aload_n 0, 1) := by decide +kernel
theorem dX1_addRoom_54 : decode cX1_addRoom 54 = .ok (.getfield 15, 3) := by decide +kernel
theorem dX1_addRoom_57 : decode cX1_addRoom 57 = .ok (.aload_n 0, 1) := by decide +kernel
theorem dX1_addRoom_58 : decode cX1_addRoom 58 = .ok (.getfield 24, 3) := by decide +kernel
theorem dX1_addRoom_61 : decode cX1_addRoom 61 = .ok (.iload_n 2, 1) := by decide +kernel
theorem dX1_addRoom_62 : decode cX1_addRoom 62 = .ok (.iastore, 1) := by decide +kernel
theorem dX1_addRoom_63 : decode cX1_addRoom 63 = .ok (.iconst 1, 1) := by decide +kernel
theorem dX1_addRoom_64 : decode cX1_addRoom 64 = .ok (.ireturn, 1) := by decide +kernel
set_option maxRecDepth 20000 in
theorem ggX1_addDoor_X1_areTwoPlaces : GoodIn wsX1_addDoor wsX1_areTwoPlaces := goodIn_r _ [7, 8, 9, 10, 6, 11, 12, 17, 18, 19, 20, 21, 22, 23] (by decide +kernel) (by decide +kernel)
set_option maxRecDepth 20000 in
theorem gX1_addDoor_X1_areTwoPlaces : GoodIn wsX1_addDoor (wsV RX1 44 RX1 yX1_areTwoPlaces wsX1_areTwoPlaces) := goodIn_app (goodIn_of _ (by decide +kernel)) ggX1_addDoor_X1_areTwoPlaces
set_option maxRecDepth 20000 in
theorem ggX1_addDoor_X1_joined : GoodIn wsX1_addDoor wsX1_joined := goodIn_r _ [16, 2, 17, 18, 19, 20, 21, 22, 23] (by decide +kernel) (by decide +kernel)
set_option maxRecDepth 20000 in
theorem gX1_addDoor_X1_joined : GoodIn wsX1_addDoor (wsV RX1 48 RX1 yX1_joined wsX1_joined) := goodIn_app (goodIn_of _ (by decide +kernel)) ggX1_addDoor_X1_joined
theorem dX1_addDoor_0 : decode cX1_addDoor 0 = .ok (.aload_n 0, 1) := by decide +kernel
theorem dX1_addDoor_1 : decode cX1_addDoor 1 = .ok (.iload_n 1, 1) := by decide +kernel
theorem dX1_addDoor_2 : decode cX1_addDoor 2 = .ok (.iload_n 2, 1) := by decide +kernel
theorem dX1_addDoor_3 : decode cX1_addDoor 3 = .ok (.invokevirtual 44, 3) := by decide +kernel
theorem dX1_addDoor_6 : decode cX1_addDoor 6 = .ok (.ifCond .eq 21, 3) := by decide +kernel
theorem dX1_addDoor_9 : decode cX1_addDoor 9 = .ok (.aload_n 0, 1) := by decide +kernel
theorem dX1_addDoor_10 : decode cX1_addDoor 10 = .ok (.iload_n 1, 1) := by decide +kernel
theorem dX1_addDoor_11 : decode cX1_addDoor 11 = .ok (.iload_n 2, 1) := by decide +kernel
theorem dX1_addDoor_12 : decode cX1_addDoor 12 = .ok (.invokevirtual 48, 3) := by decide +kernel
theorem dX1_addDoor_15 : decode cX1_addDoor 15 = .ok (.ifCond .ne 12, 3) := by decide +kernel
theorem dX1_addDoor_18 : decode cX1_addDoor 18 = .ok (.aload_n 0, 1) := by decide +kernel
theorem dX1_addDoor_19 : decode cX1_addDoor 19 = .ok (.getfield 28, 3) := by decide +kernel
theorem dX1_addDoor_22 : decode cX1_addDoor 22 = .ok (.bipush 12, 2) := by decide +kernel
theorem dX1_addDoor_24 : decode cX1_addDoor 24 = .ok (.if_icmp .lt 5, 3) := by decide +kernel
theorem dX1_addDoor_27 : decode cX1_addDoor 27 = .ok (.iconst 0, 1) := by decide +kernel
theorem dX1_addDoor_28 : decode cX1_addDoor 28 = .ok (.ireturn, 1) := by decide +kernel
theorem dX1_addDoor_29 : decode cX1_addDoor 29 = .ok (.aload_n 0, 1) := by decide +kernel
theorem dX1_addDoor_30 : decode cX1_addDoor 30 = .ok (.dup, 1) := by decide +kernel
theorem dX1_addDoor_31 : decode cX1_addDoor 31 = .ok (.getfield 28, 3) := by decide +kernel
theorem dX1_addDoor_34 : decode cX1_addDoor 34 = .ok (.iconst 1, 1) := by decide +kernel
theorem dX1_addDoor_35 : decode cX1_addDoor 35 = .ok (.iadd, 1) := by decide +kernel
theorem dX1_addDoor_36 : decode cX1_addDoor 36 = .ok (.putfield 28, 3) := by decide +kernel
theorem dX1_addDoor_39 : decode cX1_addDoor 39 = .ok (.aload_n 0, 1) := by decide +kernel
theorem dX1_addDoor_40 : decode cX1_addDoor 40 = .ok (.getfield 18, 3) := by decide +kernel
theorem dX1_addDoor_43 : decode cX1_addDoor 43 = .ok (.iload_n 1, 1) := by decide +kernel
theorem dX1_addDoor_44 : decode cX1_addDoor 44 = .ok (.dup2, 1) := by decide +kernel
theorem dX1_addDoor_45 : decode cX1_addDoor 45 = .ok (.iaload, 1) := by decide +kernel
theorem dX1_addDoor_46 : decode cX1_addDoor 46 = .ok (.iconst 1, 1) := by decide +kernel
theorem dX1_addDoor_47 : decode cX1_addDoor 47 = .ok (.iload_n 2, 1) := by decide +kernel
theorem dX1_addDoor_48 : decode cX1_addDoor 48 = .ok (.ishl, 1) := by decide +kernel
theorem dX1_addDoor_49 : decode cX1_addDoor 49 = .ok (.ior, 1) := by decide +kernel
theorem dX1_addDoor_50 : decode cX1_addDoor 50 = .ok (.iastore, 1) := by decide +kernel
theorem dX1_addDoor_51 : decode cX1_addDoor 51 = .ok (.aload_n 0, 1) := by decide +kernel
theorem dX1_addDoor_52 : decode cX1_addDoor 52 = .ok (.getfield 18, 3) := by decide +kernel
theorem dX1_addDoor_55 : decode cX1_addDoor 55 = .ok (.iload_n 2, 1) := by decide +kernel
theorem dX1_addDoor_56 : decode cX1_addDoor 56 = .ok (.dup2, 1) := by decide +kernel
theorem dX1_addDoor_57 : decode cX1_addDoor 57 = .ok (.iaload, 1) := by decide +kernel
theorem dX1_addDoor_58 : decode cX1_addDoor 58 = .ok (.iconst 1, 1) := by decide +kernel
theorem dX1_addDoor_59 : decode cX1_addDoor 59 = .ok (.iload_n 1, 1) := by decide +kernel
theorem dX1_addDoor_60 : decode cX1_addDoor 60 = .ok (.ishl, 1) := by decide +kernel
theorem dX1_addDoor_61 : decode cX1_addDoor 61 = .ok (.ior, 1) := by decide +kernel
theorem dX1_addDoor_62 : decode cX1_addDoor 62 = .ok (.iastore, 1) := by decide +kernel
theorem dX1_addDoor_63 : decode cX1_addDoor 63 = .ok (.iconst 1, 1) := by decide +kernel
theorem dX1_addDoor_64 : decode cX1_addDoor 64 = .ok (.ireturn, 1) := by decide +kernel
set_option maxRecDepth 20000 in
theorem ggX1_addNeed_X1_areTwoPlaces : GoodIn wsX1_addNeed wsX1_areTwoPlaces := goodIn_r _ [7, 8, 9, 10, 6, 11, 12, 13, 14, 15, 16, 17, 18, 19] (by decide +kernel) (by decide +kernel)
set_option maxRecDepth 20000 in
theorem gX1_addNeed_X1_areTwoPlaces : GoodIn wsX1_addNeed (wsV RX1 44 RX1 yX1_areTwoPlaces wsX1_areTwoPlaces) := goodIn_app (goodIn_of _ (by decide +kernel)) ggX1_addNeed_X1_areTwoPlaces
theorem dX1_addNeed_0 : decode cX1_addNeed 0 = .ok (.aload_n 0, 1) := by decide +kernel
theorem dX1_addNeed_1 : decode cX1_addNeed 1 = .ok (.iload_n 1, 1) := by decide +kernel
theorem dX1_addNeed_2 : decode cX1_addNeed 2 = .ok (.iload_n 2, 1) := by decide +kernel
theorem dX1_addNeed_3 : decode cX1_addNeed 3 = .ok (.invokevirtual 44, 3) := by decide +kernel
theorem dX1_addNeed_6 : decode cX1_addNeed 6 = .ok (.ifCond .eq 18, 3) := by decide +kernel
theorem dX1_addNeed_9 : decode cX1_addNeed 9 = .ok (.iload_n 3, 1) := by decide +kernel
theorem dX1_addNeed_10 : decode cX1_addNeed 10 = .ok (.iload 4, 2) := by decide +kernel
theorem dX1_addNeed_12 : decode cX1_addNeed 12 = .ok (.if_icmp .gt 12, 3) := by decide +kernel
theorem dX1_addNeed_15 : decode cX1_addNeed 15 = .ok (.aload_n 0, 1) := by decide +kernel
theorem dX1_addNeed_16 : decode cX1_addNeed 16 = .ok (.getfield 31, 3) := by decide +kernel
theorem dX1_addNeed_19 : decode cX1_addNeed 19 = .ok (.bipush 8, 2) := by decide +kernel
theorem dX1_addNeed_21 : decode cX1_addNeed 21 = .ok (.if_icmp .lt 5, 3) := by decide +kernel
theorem dX1_addNeed_24 : decode cX1_addNeed 24 = .ok (.iconst 0, 1) := by decide +kernel
theorem dX1_addNeed_25 : decode cX1_addNeed 25 = .ok (.ireturn, 1) := by decide +kernel
theorem dX1_addNeed_26 : decode cX1_addNeed 26 = .ok (.aload_n 0, 1) := by decide +kernel
theorem dX1_addNeed_27 : decode cX1_addNeed 27 = .ok (.getfield 31, 3) := by decide +kernel
theorem dX1_addNeed_30 : decode cX1_addNeed 30 = .ok (.iconst 4, 1) := by decide +kernel
theorem dX1_addNeed_31 : decode cX1_addNeed 31 = .ok (.imul, 1) := by decide +kernel
theorem dX1_addNeed_32 : decode cX1_addNeed 32 = .ok (.istore 5, 2) := by decide +kernel
theorem dX1_addNeed_34 : decode cX1_addNeed 34 = .ok (.aload_n 0, 1) := by decide +kernel
theorem dX1_addNeed_35 : decode cX1_addNeed 35 = .ok (.getfield 21, 3) := by decide +kernel
theorem dX1_addNeed_38 : decode cX1_addNeed 38 = .ok (.iload 5, 2) := by decide +kernel
theorem dX1_addNeed_40 : decode cX1_addNeed 40 = .ok (.iload_n 1, 1) := by decide +kernel
theorem dX1_addNeed_41 : decode cX1_addNeed 41 = .ok (.iastore, 1) := by decide +kernel
theorem dX1_addNeed_42 : decode cX1_addNeed 42 = .ok (.aload_n 0, 1) := by decide +kernel
theorem dX1_addNeed_43 : decode cX1_addNeed 43 = .ok (.getfield 21, 3) := by decide +kernel
theorem dX1_addNeed_46 : decode cX1_addNeed 46 = .ok (.iload 5, 2) := by decide +kernel
theorem dX1_addNeed_48 : decode cX1_addNeed 48 = .ok (.iconst 1, 1) := by decide +kernel
theorem dX1_addNeed_49 : decode cX1_addNeed 49 = .ok (.iadd, 1) := by decide +kernel
theorem dX1_addNeed_50 : decode cX1_addNeed 50 = .ok (.iload_n 2, 1) := by decide +kernel
theorem dX1_addNeed_51 : decode cX1_addNeed 51 = .ok (.iastore, 1) := by decide +kernel
theorem dX1_addNeed_52 : decode cX1_addNeed 52 = .ok (.aload_n 0, 1) := by decide +kernel
theorem dX1_addNeed_53 : decode cX1_addNeed 53 = .ok (.getfield 21, 3) := by decide +kernel
theorem dX1_addNeed_56 : decode cX1_addNeed 56 = .ok (.iload 5, 2) := by decide +kernel
theorem dX1_addNeed_58 : decode cX1_addNeed 58 = .ok (.iconst 2, 1) := by decide +kernel
theorem dX1_addNeed_59 : decode cX1_addNeed 59 = .ok (.iadd, 1) := by decide +kernel
theorem dX1_addNeed_60 : decode cX1_addNeed 60 = .ok (.iload_n 3, 1) := by decide +kernel
theorem dX1_addNeed_61 : decode cX1_addNeed 61 = .ok (.iastore, 1) := by decide +kernel
theorem dX1_addNeed_62 : decode cX1_addNeed 62 = .ok (.aload_n 0, 1) := by decide +kernel
theorem dX1_addNeed_63 : decode cX1_addNeed 63 = .ok (.getfield 21, 3) := by decide +kernel
theorem dX1_addNeed_66 : decode cX1_addNeed 66 = .ok (.iload 5, 2) := by decide +kernel
theorem dX1_addNeed_68 : decode cX1_addNeed 68 = .ok (.iconst 3, 1) := by decide +kernel
theorem dX1_addNeed_69 : decode cX1_addNeed 69 = .ok (.iadd, 1) := by decide +kernel
theorem dX1_addNeed_70 : decode cX1_addNeed 70 = .ok (.iload 4, 2) := by decide +kernel
theorem dX1_addNeed_72 : decode cX1_addNeed 72 = .ok (.iastore, 1) := by decide +kernel
theorem dX1_addNeed_73 : decode cX1_addNeed 73 = .ok (.aload_n 0, 1) := by decide +kernel
theorem dX1_addNeed_74 : decode cX1_addNeed 74 = .ok (.dup, 1) := by decide +kernel
theorem dX1_addNeed_75 : decode cX1_addNeed 75 = .ok (.getfield 31, 3) := by decide +kernel
theorem dX1_addNeed_78 : decode cX1_addNeed 78 = .ok (.iconst 1, 1) := by decide +kernel
theorem dX1_addNeed_79 : decode cX1_addNeed 79 = .ok (.iadd, 1) := by decide +kernel
theorem dX1_addNeed_80 : decode cX1_addNeed 80 = .ok (.putfield 31, 3) := by decide +kernel
theorem dX1_addNeed_83 : decode cX1_addNeed 83 = .ok (.iconst 1, 1) := by decide +kernel
theorem dX1_addNeed_84 : decode cX1_addNeed 84 = .ok (.ireturn, 1) := by decide +kernel
set_option maxRecDepth 20000 in
theorem ggX1_areTwoPlaces_X1_hasPlace : GoodIn wsX1_areTwoPlaces wsX1_hasPlace := goodIn_r _ [5, 6, 7, 8, 9, 10, 11, 12, 13] (by decide +kernel) (by decide +kernel)
set_option maxRecDepth 20000 in
theorem gX1_areTwoPlaces_X1_hasPlace : GoodIn wsX1_areTwoPlaces (wsV RX1 51 RX1 yX1_hasPlace wsX1_hasPlace) := goodIn_app (goodIn_of _ (by decide +kernel)) ggX1_areTwoPlaces_X1_hasPlace
theorem dX1_areTwoPlaces_0 : decode cX1_areTwoPlaces 0 = .ok (.aload_n 0, 1) := by decide +kernel
theorem dX1_areTwoPlaces_1 : decode cX1_areTwoPlaces 1 = .ok (.iload_n 1, 1) := by decide +kernel
theorem dX1_areTwoPlaces_2 : decode cX1_areTwoPlaces 2 = .ok (.invokevirtual 51, 3) := by decide +kernel
theorem dX1_areTwoPlaces_5 : decode cX1_areTwoPlaces 5 = .ok (.ifCond .eq 20, 3) := by decide +kernel
theorem dX1_areTwoPlaces_8 : decode cX1_areTwoPlaces 8 = .ok (.aload_n 0, 1) := by decide +kernel
theorem dX1_areTwoPlaces_9 : decode cX1_areTwoPlaces 9 = .ok (.iload_n 2, 1) := by decide +kernel
theorem dX1_areTwoPlaces_10 : decode cX1_areTwoPlaces 10 = .ok (.invokevirtual 51, 3) := by decide +kernel
theorem dX1_areTwoPlaces_13 : decode cX1_areTwoPlaces 13 = .ok (.ifCond .eq 12, 3) := by decide +kernel
theorem dX1_areTwoPlaces_16 : decode cX1_areTwoPlaces 16 = .ok (.iload_n 1, 1) := by decide +kernel
theorem dX1_areTwoPlaces_17 : decode cX1_areTwoPlaces 17 = .ok (.iload_n 2, 1) := by decide +kernel
theorem dX1_areTwoPlaces_18 : decode cX1_areTwoPlaces 18 = .ok (.if_icmp .eq 7, 3) := by decide +kernel
theorem dX1_areTwoPlaces_21 : decode cX1_areTwoPlaces 21 = .ok (.iconst 1, 1) := by decide +kernel
theorem dX1_areTwoPlaces_22 : decode cX1_areTwoPlaces 22 = .ok (.goto 4, 3) := by decide +kernel
theorem dX1_areTwoPlaces_25 : decode cX1_areTwoPlaces 25 = .ok (.iconst 0, 1) := by decide +kernel
theorem dX1_areTwoPlaces_26 : decode cX1_areTwoPlaces 26 = .ok (.ireturn, 1) := by decide +kernel
theorem dX1_leastOpenBeside_0 : decode cX1_leastOpenBeside 0 = .ok (.aload_n 0, 1) := by decide +kernel
theorem dX1_leastOpenBeside_1 : decode cX1_leastOpenBeside 1 = .ok (.getfield 18, 3) := by decide +kernel
theorem dX1_leastOpenBeside_4 : decode cX1_leastOpenBeside 4 = .ok (.iload_n 1, 1) := by decide +kernel
theorem dX1_leastOpenBeside_5 : decode cX1_leastOpenBeside 5 = .ok (.iaload, 1) := by decide +kernel
theorem dX1_leastOpenBeside_6 : decode cX1_leastOpenBeside 6 = .ok (.iload_n 2, 1) := by decide +kernel
theorem dX1_leastOpenBeside_7 : decode cX1_leastOpenBeside 7 = .ok (.iconst (-1), 1) := by decide +kernel
theorem dX1_leastOpenBeside_8 : decode cX1_leastOpenBeside 8 = .ok (.ixor, 1) := by decide +kernel
theorem dX1_leastOpenBeside_9 : decode cX1_leastOpenBeside 9 = .ok (.iand, 1) := by decide +kernel
theorem dX1_leastOpenBeside_10 : decode cX1_leastOpenBeside 10 = .ok (.istore_n 3, 1) := by decide +kernel
theorem dX1_leastOpenBeside_11 : decode cX1_leastOpenBeside 11 = .ok (.iconst 0, 1) := by decide +kernel
theorem dX1_leastOpenBeside_12 : decode cX1_leastOpenBeside 12 = .ok (.istore 4, 2) := by decide +kernel
theorem dX1_leastOpenBeside_14 : decode cX1_leastOpenBeside 14 = .ok (.iload 4, 2) := by decide +kernel
theorem dX1_leastOpenBeside_16 : decode cX1_leastOpenBeside 16 = .ok (.aload_n 0, 1) := by decide +kernel
theorem dX1_leastOpenBeside_17 : decode cX1_leastOpenBeside 17 = .ok (.getfield 24, 3) := by decide +kernel
theorem dX1_leastOpenBeside_20 : decode cX1_leastOpenBeside 20 = .ok (.if_icmp .gt 21, 3) := by decide +kernel
theorem dX1_leastOpenBeside_23 : decode cX1_leastOpenBeside 23 = .ok (.iload_n 3, 1) := by decide +kernel
theorem dX1_leastOpenBeside_24 : decode cX1_leastOpenBeside 24 = .ok (.iload 4, 2) := by decide +kernel
theorem dX1_leastOpenBeside_26 : decode cX1_leastOpenBeside 26 = .ok (.ishr, 1) := by decide +kernel
theorem dX1_leastOpenBeside_27 : decode cX1_leastOpenBeside 27 = .ok (.iconst 1, 1) := by decide +kernel
theorem dX1_leastOpenBeside_28 : decode cX1_leastOpenBeside 28 = .ok (.iand, 1) := by decide +kernel
theorem dX1_leastOpenBeside_29 : decode cX1_leastOpenBeside 29 = .ok (.ifCond .eq 6, 3) := by decide +kernel
theorem dX1_leastOpenBeside_32 : decode cX1_leastOpenBeside 32 = .ok (.iload 4, 2) := by decide +kernel
theorem dX1_leastOpenBeside_34 : decode cX1_leastOpenBeside 34 = .ok (.ireturn, 1) := by decide +kernel
theorem dX1_leastOpenBeside_35 : decode cX1_leastOpenBeside 35 = .ok (.iinc 4 1, 3) := by decide +kernel
theorem dX1_leastOpenBeside_38 : decode cX1_leastOpenBeside 38 = .ok (.goto (-24), 3) := by decide +kernel
theorem dX1_leastOpenBeside_41 : decode cX1_leastOpenBeside 41 = .ok (.bipush (-9), 2) := by decide +kernel
theorem dX1_leastOpenBeside_43 : decode cX1_leastOpenBeside 43 = .ok (.ireturn, 1) := by decide +kernel
set_option maxRecDepth 20000 in
theorem ggX1_doorsBetween_X1_everyPlace : GoodIn wsX1_doorsBetween wsX1_everyPlace := goodIn_r _ [5, 6, 12, 13, 14, 15, 16, 17, 18] (by decide +kernel) (by decide +kernel)
set_option maxRecDepth 20000 in
theorem gX1_doorsBetween_X1_everyPlace : GoodIn wsX1_doorsBetween (wsV RX1 40 RX1 yX1_everyPlace wsX1_everyPlace) := goodIn_app (goodIn_of _ (by decide +kernel)) ggX1_doorsBetween_X1_everyPlace
set_option maxRecDepth 20000 in
theorem ggX1_doorsBetween_X1_besideAny : GoodIn wsX1_doorsBetween wsX1_besideAny := goodIn_r _ [10, 6, 11, 12, 13, 14, 15, 16, 17, 18] (by decide +kernel) (by decide +kernel)
set_option maxRecDepth 20000 in
theorem gX1_doorsBetween_X1_besideAny : GoodIn wsX1_doorsBetween (wsV RX1 55 RX1 yX1_besideAny wsX1_besideAny) := goodIn_app (goodIn_of _ (by decide +kernel)) ggX1_doorsBetween_X1_besideAny
theorem dX1_doorsBetween_0 : decode cX1_doorsBetween 0 = .ok (.aload_n 0, 1) := by decide +kernel
theorem dX1_doorsBetween_1 : decode cX1_doorsBetween 1 = .ok (.invokevirtual 40, 3) := by decide +kernel
theorem dX1_doorsBetween_4 : decode cX1_doorsBetween 4 = .ok (.iload_n 3, 1) := by decide +kernel
theorem dX1_doorsBetween_5 : decode cX1_doorsBetween 5 = .ok (.iconst (-1), 1) := by decide +kernel
theorem dX1_doorsBetween_6 : decode cX1_doorsBetween 6 = .ok (.ixor, 1) := by decide +kernel
theorem dX1_doorsBetween_7 : decode cX1_doorsBetween 7 = .ok (.iand, 1) := by decide +kernel
theorem dX1_doorsBetween_8 : decode cX1_doorsBetween 8 = .ok (.istore 4, 2) := by decide +kernel
theorem dX1_doorsBetween_10 : decode cX1_doorsBetween 10 = .ok (.iconst 1, 1) := by decide +kernel
theorem dX1_doorsBetween_11 : decode cX1_doorsBetween 11 = .ok (.iload_n 1, 1) := by decide +kernel
theorem dX1_doorsBetween_12 : decode cX1_doorsBetween 12 = .ok (.ishl, 1) := by decide +kernel
theorem dX1_doorsBetween_13 : decode cX1_doorsBetween 13 = .ok (.iload 4, 2) := by decide +kernel
theorem dX1_doorsBetween_15 : decode cX1_doorsBetween 15 = .ok (.iand, 1) := by decide +kernel
theorem dX1_doorsBetween_16 : decode cX1_doorsBetween 16 = .ok (.istore 5, 2) := by decide +kernel
theorem dX1_doorsBetween_18 : decode cX1_doorsBetween 18 = .ok (.iconst 0, 1) := by decide +kernel
theorem dX1_doorsBetween_19 : decode cX1_doorsBetween 19 = .ok (.istore 6, 2) := by decide +kernel
theorem dX1_doorsBetween_21 : decode cX1_doorsBetween 21 = .ok (.iload 6, 2) := by decide +kernel
theorem dX1_doorsBetween_23 : decode cX1_doorsBetween 23 = .ok (.bipush 6, 2) := by decide +kernel
theorem dX1_doorsBetween_25 : decode cX1_doorsBetween 25 = .ok (.if_icmp .ge 35, 3) := by decide +kernel
theorem dX1_doorsBetween_28 : decode cX1_doorsBetween 28 = .ok (.iload 5, 2) := by decide +kernel
theorem dX1_doorsBetween_30 : decode cX1_doorsBetween 30 = .ok (.iload_n 2, 1) := by decide +kernel
theorem dX1_doorsBetween_31 : decode cX1_doorsBetween 31 = .ok (.ishr, 1) := by decide +kernel
theorem dX1_doorsBetween_32 : decode cX1_doorsBetween 32 = .ok (.iconst 1, 1) := by decide +kernel
theorem dX1_doorsBetween_33 : decode cX1_doorsBetween 33 = .ok (.iand, 1) := by decide +kernel
theorem dX1_doorsBetween_34 : decode cX1_doorsBetween 34 = .ok (.ifCond .eq 6, 3) := by decide +kernel
theorem dX1_doorsBetween_37 : decode cX1_doorsBetween 37 = .ok (.iload 6, 2) := by decide +kernel
theorem dX1_doorsBetween_39 : decode cX1_doorsBetween 39 = .ok (.ireturn, 1) := by decide +kernel
theorem dX1_doorsBetween_40 : decode cX1_doorsBetween 40 = .ok (.iload 5, 2) := by decide +kernel
theorem dX1_doorsBetween_42 : decode cX1_doorsBetween 42 = .ok (.aload_n 0, 1) := by decide +kernel
theorem dX1_doorsBetween_43 : decode cX1_doorsBetween 43 = .ok (.iload 5, 2) := by decide +kernel
theorem dX1_doorsBetween_45 : decode cX1_doorsBetween 45 = .ok (.invokevirtual 55, 3) := by decide +kernel
theorem dX1_doorsBetween_48 : decode cX1_doorsBetween 48 = .ok (.ior, 1) := by decide +kernel
theorem dX1_doorsBetween_49 : decode cX1_doorsBetween 49 = .ok (.iload 4, 2) := by decide +kernel
theorem dX1_doorsBetween_51 : decode cX1_doorsBetween 51 = .ok (.iand, 1) := by decide +kernel
theorem dX1_doorsBetween_52 : decode cX1_doorsBetween 52 = .ok (.istore 5, 2) := by decide +kernel
theorem dX1_doorsBetween_54 : decode cX1_doorsBetween 54 = .ok (.iinc 6 1, 3) := by decide +kernel
theorem dX1_doorsBetween_57 : decode cX1_doorsBetween 57 = .ok (.goto (-36), 3) := by decide +kernel
theorem dX1_doorsBetween_60 : decode cX1_doorsBetween 60 = .ok (.bipush (-9), 2) := by decide +kernel
theorem dX1_doorsBetween_62 : decode cX1_doorsBetween 62 = .ok (.ireturn, 1) := by decide +kernel
theorem dX1_besideAny_0 : decode cX1_besideAny 0 = .ok (.iconst 0, 1) := by decide +kernel
theorem dX1_besideAny_1 : decode cX1_besideAny 1 = .ok (.istore_n 2, 1) := by decide +kernel
theorem dX1_besideAny_2 : decode cX1_besideAny 2 = .ok (.iconst 0, 1) := by decide +kernel
theorem dX1_besideAny_3 : decode cX1_besideAny 3 = .ok (.istore_n 3, 1) := by decide +kernel
theorem dX1_besideAny_4 : decode cX1_besideAny 4 = .ok (.iload_n 3, 1) := by decide +kernel
theorem dX1_besideAny_5 : decode cX1_besideAny 5 = .ok (.aload_n 0, 1) := by decide +kernel
theorem dX1_besideAny_6 : decode cX1_besideAny 6 = .ok (.getfield 24, 3) := by decide +kernel
theorem dX1_besideAny_9 : decode cX1_besideAny 9 = .ok (.if_icmp .gt 26, 3) := by decide +kernel
theorem dX1_besideAny_12 : decode cX1_besideAny 12 = .ok (.iload_n 1, 1) := by decide +kernel
theorem dX1_besideAny_13 : decode cX1_besideAny 13 = .ok (.iload_n 3, 1) := by decide +kernel
theorem dX1_besideAny_14 : decode cX1_besideAny 14 = .ok (.ishr, 1) := by decide +kernel
theorem dX1_besideAny_15 : decode cX1_besideAny 15 = .ok (.iconst 1, 1) := by decide +kernel
theorem dX1_besideAny_16 : decode cX1_besideAny 16 = .ok (.iand, 1) := by decide +kernel
theorem dX1_besideAny_17 : decode cX1_besideAny 17 = .ok (.ifCond .eq 12, 3) := by decide +kernel
theorem dX1_besideAny_20 : decode cX1_besideAny 20 = .ok (.iload_n 2, 1) := by decide +kernel
theorem dX1_besideAny_21 : decode cX1_besideAny 21 = .ok (.aload_n 0, 1) := by decide +kernel
theorem dX1_besideAny_22 : decode cX1_besideAny 22 = .ok (.getfield 18, 3) := by decide +kernel
theorem dX1_besideAny_25 : decode cX1_besideAny 25 = .ok (.iload_n 3, 1) := by decide +kernel
theorem dX1_besideAny_26 : decode cX1_besideAny 26 = .ok (.iaload, 1) := by decide +kernel
theorem dX1_besideAny_27 : decode cX1_besideAny 27 = .ok (.ior, 1) := by decide +kernel
theorem dX1_besideAny_28 : decode cX1_besideAny 28 = .ok (.istore_n 2, 1) := by decide +kernel
theorem dX1_besideAny_29 : decode cX1_besideAny 29 = .ok (.iinc 3 1, 3) := by decide +kernel
theorem dX1_besideAny_32 : decode cX1_besideAny 32 = .ok (.goto (-28), 3) := by decide +kernel
theorem dX1_besideAny_35 : decode cX1_besideAny 35 = .ok (.iload_n 2, 1) := by decide +kernel
theorem dX1_besideAny_36 : decode cX1_besideAny 36 = .ok (.ireturn, 1) := by decide +kernel
theorem dX2_init_0 : decode cX2_init 0 = .ok (.aload_n 0, 1) := by decide +kernel
theorem dX2_init_1 : decode cX2_init 1 = .ok (.invokespecial 3, 3) := by decide +kernel
theorem dX2_init_4 : decode cX2_init 4 = .ok (.aload_n 0, 1) := by decide +kernel
theorem dX2_init_5 : decode cX2_init 5 = .ok (.iconst 4, 1) := by decide +kernel
theorem dX2_init_6 : decode cX2_init 6 = .ok (.newarray .int, 2) := by decide +kernel
theorem dX2_init_8 : decode cX2_init 8 = .ok (.putfield 11, 3) := by decide +kernel
theorem dX2_init_11 : decode cX2_init 11 = .ok (.aload_n 0, 1) := by decide +kernel
theorem dX2_init_12 : decode cX2_init 12 = .ok (.aload_n 1, 1) := by decide +kernel
theorem dX2_init_13 : decode cX2_init 13 = .ok (.putfield 17, 3) := by decide +kernel
theorem dX2_init_16 : decode cX2_init 16 = .ok (.return_, 1) := by decide +kernel
set_option maxRecDepth 20000 in
theorem ggX2_read_X2_firstStrayByte : GoodIn wsX2_read wsX2_firstStrayByte := goodIn_r _ [5, 6, 7, 8, 9, 10, 11, 12, 13, 14, 15, 16, 4, 17, 18, 19, 20, 21, 22, 23, 24, 25, 26, 27, 28, 29, 30, 31, 32, 33, 34, 35, 36, 37, 38, 39, 80, 81, 82, 83, 84] (by decide +kernel) (by decide +kernel)
set_option maxRecDepth 20000 in
theorem gX2_read_X2_firstStrayByte : GoodIn wsX2_read (wsV RX2 21 RX2 yX2_firstStrayByte wsX2_firstStrayByte) := goodIn_app (goodIn_of _ (by decide +kernel)) ggX2_read_X2_firstStrayByte
set_option maxRecDepth 20000 in
theorem ggX2_read_X2_takeStatements : GoodIn wsX2_read wsX2_takeStatements := goodIn_r _ [43, 6, 7, 8, 9, 10, 11, 12, 13, 14, 15, 16, 4, 17, 18, 19, 20, 21, 22, 23, 24, 25, 26, 27, 28, 29, 30, 31, 32, 33, 34, 35, 36, 37, 38, 39, 44, 45, 46, 47, 48, 49, 50, 51, 52, 53, 54, 55, 56, 57, 58, 59, 60, 61, 62, 63, 64, 65, 66, 67, 68, 69, 70, 71, 72, 73, 74, 75, 76, 77, 78, 79, 80, 81, 82, 83, 84, 85, 86, 87, 88, 89, 90, 91] (by decide +kernel) (by decide +kernel)
set_option maxRecDepth 20000 in
theorem gX2_read_X2_takeStatements : GoodIn wsX2_read (wsV RX2 25 RX2 yX2_takeStatements wsX2_takeStatements) := goodIn_app (goodIn_of _ (by decide +kernel)) ggX2_read_X2_takeStatements
theorem dX2_read_0 : decode cX2_read 0 = .ok (.aload_n 0, 1) := by decide +kernel
theorem dX2_read_1 : decode cX2_read 1 = .ok (.invokevirtual 21, 3) := by decide +kernel
theorem dX2_read_4 : decode cX2_read 4 = .ok (.istore_n 2, 1) := by decide +kernel
theorem dX2_read_5 : decode cX2_read 5 = .ok (.iload_n 2, 1) := by decide +kernel
theorem dX2_read_6 : decode cX2_read 6 = .ok (.bipush (-9), 2) := by decide +kernel
theorem dX2_read_8 : decode cX2_read 8 = .ok (.if_icmp .ne 11, 3) := by decide +kernel
theorem dX2_read_11 : decode cX2_read 11 = .ok (.aload_n 0, 1) := by decide +kernel
theorem dX2_read_12 : decode cX2_read 12 = .ok (.aload_n 1, 1) := by decide +kernel
theorem dX2_read_13 : decode cX2_read 13 = .ok (.invokevirtual 25, 3) := by decide +kernel
theorem dX2_read_16 : decode cX2_read 16 = .ok (.goto 8, 3) := by decide +kernel
theorem dX2_read_19 : decode cX2_read 19 = .ok (.sipush (-1000), 3) := by decide +kernel
theorem dX2_read_22 : decode cX2_read 22 = .ok (.iload_n 2, 1) := by decide +kernel
theorem dX2_read_23 : decode cX2_read 23 = .ok (.isub, 1) := by decide +kernel
theorem dX2_read_24 : decode cX2_read 24 = .ok (.ireturn, 1) := by decide +kernel
set_option maxRecDepth 20000 in
theorem ggX2_firstStrayByte_X8_size : GoodIn wsX2_firstStrayByte wsX8_size := goodIn_r _ [7, 8, 39, 40] (by decide +kernel) (by decide +kernel)
set_option maxRecDepth 20000 in
theorem gX2_firstStrayByte_X8_size : GoodIn wsX2_firstStrayByte (wsV RX2 35 RX8 yX8_size wsX8_size) := goodIn_app (goodIn_of _ (by decide +kernel)) ggX2_firstStrayByte_X8_size
set_option maxRecDepth 20000 in
theorem ggX2_firstStrayByte_X2_readStatement : GoodIn wsX2_firstStrayByte wsX2_readStatement := goodIn_r _ [13, 14, 15, 16, 12, 17, 2, 1, 18, 19, 20, 6, 21, 8, 22, 23, 24, 25, 26, 27, 28, 29, 30, 31, 32, 33, 34, 35, 36, 37, 38, 39, 40] (by decide +kernel) (by decide +kernel)
set_option maxRecDepth 20000 in
theorem gX2_firstStrayByte_X2_readStatement : GoodIn wsX2_firstStrayByte (wsV RX2 38 RX2 yX2_readStatement wsX2_readStatement) := goodIn_app (goodIn_of _ (by decide +kernel)) ggX2_firstStrayByte_X2_readStatement
theorem dX2_firstStrayByte_0 : decode cX2_firstStrayByte 0 = .ok (.aload_n 0, 1) := by decide +kernel
theorem dX2_firstStrayByte_1 : decode cX2_firstStrayByte 1 = .ok (.iconst 0, 1) := by decide +kernel
theorem dX2_firstStrayByte_2 : decode cX2_firstStrayByte 2 = .ok (.putfield 29, 3) := by decide +kernel
theorem dX2_firstStrayByte_5 : decode cX2_firstStrayByte 5 = .ok (.iconst 0, 1) := by decide +kernel
theorem dX2_firstStrayByte_6 : decode cX2_firstStrayByte 6 = .ok (.istore_n 1, 1) := by decide +kernel
theorem dX2_firstStrayByte_7 : decode cX2_firstStrayByte 7 = .ok (.iload_n 1, 1) := by decide +kernel
theorem dX2_firstStrayByte_8 : decode cX2_firstStrayByte 8 = .ok (.bipush 48, 2) := by decide +kernel
theorem dX2_firstStrayByte_10 : decode cX2_firstStrayByte 10 = .ok (.if_icmp .ge 35, 3) := by decide +kernel
theorem dX2_firstStrayByte_13 : decode cX2_firstStrayByte 13 = .ok (.aload_n 0, 1) := by decide +kernel
theorem dX2_firstStrayByte_14 : decode cX2_firstStrayByte 14 = .ok (.getfield 29, 3) := by decide +kernel
theorem dX2_firstStrayByte_17 : decode cX2_firstStrayByte 17 = .ok (.aload_n 0, 1) := by decide +kernel
theorem dX2_firstStrayByte_18 : decode cX2_firstStrayByte 18 = .ok (.getfield 17, 3) := by decide +kernel
theorem dX2_firstStrayByte_21 : decode cX2_firstStrayByte 21 = .ok (.invokevirtual 35, 3) := by decide +kernel
theorem dX2_firstStrayByte_24 : decode cX2_firstStrayByte 24 = .ok (.if_icmp .ge 21, 3) := by decide +kernel
theorem dX2_firstStrayByte_27 : decode cX2_firstStrayByte 27 = .ok (.aload_n 0, 1) := by decide +kernel
theorem dX2_firstStrayByte_28 : decode cX2_firstStrayByte 28 = .ok (.invokevirtual 38, 3) := by decide +kernel
theorem dX2_firstStrayByte_31 : decode cX2_firstStrayByte 31 = .ok (.ifCond .ne 8, 3) := by decide +kernel
theorem dX2_firstStrayByte_34 : decode cX2_firstStrayByte 34 = .ok (.aload_n 0, 1) := by decide +kernel
theorem dX2_firstStrayByte_35 : decode cX2_firstStrayByte 35 = .ok (.getfield 29, 3) := by decide +kernel
theorem dX2_firstStrayByte_38 : decode cX2_firstStrayByte 38 = .ok (.ireturn, 1) := by decide +kernel
theorem dX2_firstStrayByte_39 : decode cX2_firstStrayByte 39 = .ok (.iinc 1 1, 3) := by decide +kernel
theorem dX2_firstStrayByte_42 : decode cX2_firstStrayByte 42 = .ok (.goto (-35), 3) := by decide +kernel
theorem dX2_firstStrayByte_45 : decode cX2_firstStrayByte 45 = .ok (.iload_n 1, 1) := by decide +kernel
theorem dX2_firstStrayByte_46 : decode cX2_firstStrayByte 46 = .ok (.ifCond .ne 10, 3) := by decide +kernel
theorem dX2_firstStrayByte_49 : decode cX2_firstStrayByte 49 = .ok (.aload_n 0, 1) := by decide +kernel
theorem dX2_firstStrayByte_50 : decode cX2_firstStrayByte 50 = .ok (.getfield 29, 3) := by decide +kernel
theorem dX2_firstStrayByte_53 : decode cX2_firstStrayByte 53 = .ok (.goto 5, 3) := by decide +kernel
theorem dX2_firstStrayByte_56 : decode cX2_firstStrayByte 56 = .ok (.bipush (-9), 2) := by decide +kernel
theorem dX2_firstStrayByte_58 : decode cX2_firstStrayByte 58 = .ok (.ireturn, 1) := by decide +kernel
set_option maxRecDepth 20000 in
theorem ggX2_takeStatements_X8_size : GoodIn wsX2_takeStatements wsX8_size := goodIn_r _ [7, 8, 75, 76] (by decide +kernel) (by decide +kernel)
set_option maxRecDepth 20000 in
theorem gX2_takeStatements_X8_size : GoodIn wsX2_takeStatements (wsV RX2 35 RX8 yX8_size wsX8_size) := goodIn_app (goodIn_of _ (by decide +kernel)) ggX2_takeStatements_X8_size
set_option maxRecDepth 20000 in
theorem ggX2_takeStatements_X2_readStatement : GoodIn wsX2_takeStatements wsX2_readStatement := goodIn_r _ [13, 14, 15, 16, 12, 17, 2, 1, 18, 19, 20, 6, 21, 8, 22, 23, 24, 25, 26, 27, 28, 29, 30, 31, 32, 33, 34, 35, 72, 73, 74, 75, 76] (by decide +kernel) (by decide +kernel)
set_option maxRecDepth 20000 in
theorem gX2_takeStatements_X2_readStatement : GoodIn wsX2_takeStatements (wsV RX2 38 RX2 yX2_readStatement wsX2_readStatement) := goodIn_app (goodIn_of _ (by decide +kernel)) ggX2_takeStatements_X2_readStatement
set_option maxRecDepth 20000 in
theorem ggX2_takeStatements_X8_byteAt : GoodIn wsX2_takeStatements wsX8_byteAt := goodIn_r _ [21, 8, 22, 75, 76] (by decide +kernel) (by decide +kernel)
set_option maxRecDepth 20000 in
theorem gX2_takeStatements_X8_byteAt : GoodIn wsX2_takeStatements (wsV RX2 42 RX8 yX8_byteAt wsX8_byteAt) := goodIn_app (goodIn_of _ (by decide +kernel)) ggX2_takeStatements_X8_byteAt
set_option maxRecDepth 20000 in
theorem ggX2_takeStatements_X2_joins : GoodIn wsX2_takeStatements wsX2_joins := goodIn_r _ [39, 27, 40, 41, 42, 43, 44, 45, 46, 47, 48, 49, 50, 51, 52, 53, 54, 55, 56, 57, 58, 59, 60, 61, 62, 63, 64, 65, 66, 67, 68, 69, 70, 71, 72, 73, 74, 77, 78, 79, 80, 81, 82, 83] (by decide +kernel) (by decide +kernel)
set_option maxRecDepth 20000 in
theorem gX2_takeStatements_X2_joins : GoodIn wsX2_takeStatements (wsV RX2 46 RX2 yX2_joins wsX2_joins) := goodIn_app (goodIn_of _ (by decide +kernel)) ggX2_takeStatements_X2_joins
theorem dX2_takeStatements_0 : decode cX2_takeStatements 0 = .ok (.aload_n 0, 1) := by decide +kernel
theorem dX2_takeStatements_1 : decode cX2_takeStatements 1 = .ok (.iconst 0, 1) := by decide +kernel
theorem dX2_takeStatements_2 : decode cX2_takeStatements 2 = .ok (.putfield 29, 3) := by decide +kernel
theorem dX2_takeStatements_5 : decode cX2_takeStatements 5 = .ok (.iconst 0, 1) := by decide +kernel
theorem dX2_takeStatements_6 : decode cX2_takeStatements 6 = .ok (.istore_n 2, 1) := by decide +kernel
theorem dX2_takeStatements_7 : decode cX2_takeStatements 7 = .ok (.iload_n 2, 1) := by decide +kernel
theorem dX2_takeStatements_8 : decode cX2_takeStatements 8 = .ok (.bipush 48, 2) := by decide +kernel
theorem dX2_takeStatements_10 : decode cX2_takeStatements 10 = .ok (.if_icmp .ge 57, 3) := by decide +kernel
theorem dX2_takeStatements_13 : decode cX2_takeStatements 13 = .ok (.aload_n 0, 1) := by decide +kernel
theorem dX2_takeStatements_14 : decode cX2_takeStatements 14 = .ok (.getfield 29, 3) := by decide +kernel
theorem dX2_takeStatements_17 : decode cX2_takeStatements 17 = .ok (.aload_n 0, 1) := by decide +kernel
theorem dX2_takeStatements_18 : decode cX2_takeStatements 18 = .ok (.getfield 17, 3) := by decide +kernel
theorem dX2_takeStatements_21 : decode cX2_takeStatements 21 = .ok (.invokevirtual 35, 3) := by decide +kernel
theorem dX2_takeStatements_24 : decode cX2_takeStatements 24 = .ok (.if_icmp .ge 43, 3) := by decide +kernel
theorem dX2_takeStatements_27 : decode cX2_takeStatements 27 = .ok (.aload_n 0, 1) := by decide +kernel
theorem dX2_takeStatements_28 : decode cX2_takeStatements 28 = .ok (.getfield 29, 3) := by decide +kernel
theorem dX2_takeStatements_31 : decode cX2_takeStatements 31 = .ok (.istore_n 3, 1) := by decide +kernel
theorem dX2_takeStatements_32 : decode cX2_takeStatements 32 = .ok (.aload_n 0, 1) := by decide +kernel
theorem dX2_takeStatements_33 : decode cX2_takeStatements 33 = .ok (.invokevirtual 38, 3) := by decide +kernel
theorem dX2_takeStatements_36 : decode cX2_takeStatements 36 = .ok (.ifCond .eq 19, 3) := by decide +kernel
theorem dX2_takeStatements_39 : decode cX2_takeStatements 39 = .ok (.aload_n 0, 1) := by decide +kernel
theorem dX2_takeStatements_40 : decode cX2_takeStatements 40 = .ok (.aload_n 1, 1) := by decide +kernel
theorem dX2_takeStatements_41 : decode cX2_takeStatements 41 = .ok (.aload_n 0, 1) := by decide +kernel
theorem dX2_takeStatements_42 : decode cX2_takeStatements 42 = .ok (.getfield 17, 3) := by decide +kernel
theorem dX2_takeStatements_45 : decode cX2_takeStatements 45 = .ok (.iload_n 3, 1) := by decide +kernel
theorem dX2_takeStatements_46 : decode cX2_takeStatements 46 = .ok (.invokevirtual 42, 3) := by decide +kernel
theorem dX2_takeStatements_49 : decode cX2_takeStatements 49 = .ok (.invokevirtual 46, 3) := by decide +kernel
theorem dX2_takeStatements_52 : decode cX2_takeStatements 52 = .ok (.ifCond .ne 9, 3) := by decide +kernel
theorem dX2_takeStatements_55 : decode cX2_takeStatements 55 = .ok (.sipush (-2000), 3) := by decide +kernel
theorem dX2_takeStatements_58 : decode cX2_takeStatements 58 = .ok (.iload_n 3, 1) := by decide +kernel
theorem dX2_takeStatements_59 : decode cX2_takeStatements 59 = .ok (.isub, 1) := by decide +kernel
theorem dX2_takeStatements_60 : decode cX2_takeStatements 60 = .ok (.ireturn, 1) := by decide +kernel
theorem dX2_takeStatements_61 : decode cX2_takeStatements 61 = .ok (.iinc 2 1, 3) := by decide +kernel
theorem dX2_takeStatements_64 : decode cX2_takeStatements 64 = .ok (.goto (-57), 3) := by decide +kernel
theorem dX2_takeStatements_67 : decode cX2_takeStatements 67 = .ok (.iload_n 2, 1) := by decide +kernel
theorem dX2_takeStatements_68 : decode cX2_takeStatements 68 = .ok (.ireturn, 1) := by decide +kernel
set_option maxRecDepth 20000 in
theorem ggX2_joins_X1_addRoom : GoodIn wsX2_joins wsX1_addRoom := goodIn_r _ [6, 7, 8, 9, 37, 38, 39, 40, 41, 42, 43] (by decide +kernel) (by decide +kernel)
set_option maxRecDepth 20000 in
theorem gX2_joins_X1_addRoom : GoodIn wsX2_joins (wsV RX2 50 RX1 yX1_addRoom wsX1_addRoom) := goodIn_app (goodIn_of _ (by decide +kernel)) ggX2_joins_X1_addRoom
set_option maxRecDepth 20000 in
theorem ggX2_joins_X1_addDoor : GoodIn wsX2_joins wsX1_addDoor := goodIn_r _ [13, 14, 15, 16, 17, 18, 5, 19, 20, 21, 22, 23, 7, 24, 25, 26, 27, 37, 38, 39, 40, 41, 42, 43] (by decide +kernel) (by decide +kernel)
set_option maxRecDepth 20000 in
theorem gX2_joins_X1_addDoor : GoodIn wsX2_joins (wsV RX2 54 RX1 yX1_addDoor wsX1_addDoor) := goodIn_app (goodIn_of _ (by decide +kernel)) ggX2_joins_X1_addDoor
set_option maxRecDepth 20000 in
theorem ggX2_joins_X1_addNeed : GoodIn wsX2_joins wsX1_addNeed := goodIn_r _ [31, 32, 33, 16, 17, 18, 5, 19, 20, 21, 22, 23, 7, 37, 38, 39, 40, 41, 42, 43] (by decide +kernel) (by decide +kernel)
set_option maxRecDepth 20000 in
theorem gX2_joins_X1_addNeed : GoodIn wsX2_joins (wsV RX2 57 RX1 yX1_addNeed wsX1_addNeed) := goodIn_app (goodIn_of _ (by decide +kernel)) ggX2_joins_X1_addNeed
theorem dX2_joins_0 : decode cX2_joins 0 = .ok (.iload_n 2, 1) := by decide +kernel
theorem dX2_joins_1 : decode cX2_joins 1 = .ok (.lookupswitch 98 #[(100, 52), (110, 69), (114, 35)], 35) := by decide +kernel
theorem dX2_joins_36 : decode cX2_joins 36 = .ok (.aload_n 1, 1) := by decide +kernel
theorem dX2_joins_37 : decode cX2_joins 37 = .ok (.aload_n 0, 1) := by decide +kernel
theorem dX2_joins_38 : decode cX2_joins 38 = .ok (.getfield 11, 3) := by decide +kernel
theorem dX2_joins_41 : decode cX2_joins 41 = .ok (.iconst 0, 1) := by decide +kernel
theorem dX2_joins_42 : decode cX2_joins 42 = .ok (.iaload, 1) := by decide +kernel
theorem dX2_joins_43 : decode cX2_joins 43 = .ok (.aload_n 0, 1) := by decide +kernel
theorem dX2_joins_44 : decode cX2_joins 44 = .ok (.getfield 11, 3) := by decide +kernel
theorem dX2_joins_47 : decode cX2_joins 47 = .ok (.iconst 1, 1) := by decide +kernel
theorem dX2_joins_48 : decode cX2_joins 48 = .ok (.iaload, 1) := by decide +kernel
theorem dX2_joins_49 : decode cX2_joins 49 = .ok (.invokevirtual 50, 3) := by decide +kernel
theorem dX2_joins_52 : decode cX2_joins 52 = .ok (.ireturn, 1) := by decide +kernel
theorem dX2_joins_53 : decode cX2_joins 53 = .ok (.aload_n 1, 1) := by decide +kernel
theorem dX2_joins_54 : decode cX2_joins 54 = .ok (.aload_n 0, 1) := by decide +kernel
theorem dX2_joins_55 : decode cX2_joins 55 = .ok (.getfield 11, 3) := by decide +kernel
theorem dX2_joins_58 : decode cX2_joins 58 = .ok (.iconst 0, 1) := by decide +kernel
theorem dX2_joins_59 : decode cX2_joins 59 = .ok (.iaload, 1) := by decide +kernel
theorem dX2_joins_60 : decode cX2_joins 60 = .ok (.aload_n 0, 1) := by decide +kernel
theorem dX2_joins_61 : decode cX2_joins 61 = .ok (.getfield 11, 3) := by decide +kernel
theorem dX2_joins_64 : decode cX2_joins 64 = .ok (.iconst 1, 1) := by decide +kernel
theorem dX2_joins_65 : decode cX2_joins 65 = .ok (.iaload, 1) := by decide +kernel
theorem dX2_joins_66 : decode cX2_joins 66 = .ok (.invokevirtual 54, 3) := by decide +kernel
theorem dX2_joins_69 : decode cX2_joins 69 = .ok (.ireturn, 1) := by decide +kernel
theorem dX2_joins_70 : decode cX2_joins 70 = .ok (.aload_n 1, 1) := by decide +kernel
theorem dX2_joins_71 : decode cX2_joins 71 = .ok (.aload_n 0, 1) := by decide +kernel
theorem dX2_joins_72 : decode cX2_joins 72 = .ok (.getfield 11, 3) := by decide +kernel
theorem dX2_joins_75 : decode cX2_joins 75 = .ok (.iconst 0, 1) := by decide +kernel
theorem dX2_joins_76 : decode cX2_joins 76 = .ok (.iaload, 1) := by decide +kernel
theorem dX2_joins_77 : decode cX2_joins 77 = .ok (.aload_n 0, 1) := by decide +kernel
theorem dX2_joins_78 : decode cX2_joins 78 = .ok (.getfield 11, 3) := by decide +kernel
theorem dX2_joins_81 : decode cX2_joins 81 = .ok (.iconst 1, 1) := by decide +kernel
theorem dX2_joins_82 : decode cX2_joins 82 = .ok (.iaload, 1) := by decide +kernel
theorem dX2_joins_83 : decode cX2_joins 83 = .ok (.aload_n 0, 1) := by decide +kernel
theorem dX2_joins_84 : decode cX2_joins 84 = .ok (.getfield 11, 3) := by decide +kernel
theorem dX2_joins_87 : decode cX2_joins 87 = .ok (.iconst 2, 1) := by decide +kernel
theorem dX2_joins_88 : decode cX2_joins 88 = .ok (.iaload, 1) := by decide +kernel
theorem dX2_joins_89 : decode cX2_joins 89 = .ok (.aload_n 0, 1) := by decide +kernel
theorem dX2_joins_90 : decode cX2_joins 90 = .ok (.getfield 11, 3) := by decide +kernel
theorem dX2_joins_93 : decode cX2_joins 93 = .ok (.iconst 3, 1) := by decide +kernel
theorem dX2_joins_94 : decode cX2_joins 94 = .ok (.iaload, 1) := by decide +kernel
theorem dX2_joins_95 : decode cX2_joins 95 = .ok (.invokevirtual 57, 3) := by decide +kernel
theorem dX2_joins_98 : decode cX2_joins 98 = .ok (.ireturn, 1) := by decide +kernel
theorem dX2_joins_99 : decode cX2_joins 99 = .ok (.iconst 0, 1) := by decide +kernel
theorem dX2_joins_100 : decode cX2_joins 100 = .ok (.ireturn, 1) := by decide +kernel
set_option maxRecDepth 20000 in
theorem ggX2_readStatement_X2_reads : GoodIn wsX2_readStatement wsX2_reads := goodIn_r _ [5, 6, 7, 8, 9, 10, 11, 12, 13, 14, 28, 29, 30, 31, 32] (by decide +kernel) (by decide +kernel)
set_option maxRecDepth 20000 in
theorem gX2_readStatement_X2_reads : GoodIn wsX2_readStatement (wsV RX2 61 RX2 yX2_reads wsX2_reads) := goodIn_app (goodIn_of _ (by decide +kernel)) ggX2_readStatement_X2_reads
set_option maxRecDepth 20000 in
theorem ggX2_readStatement_X2_readsDigit : GoodIn wsX2_readStatement wsX2_readsDigit := goodIn_r _ [18, 19, 7, 20, 21, 22, 4, 23, 6, 8, 9, 10, 11, 12, 13, 14, 28, 29, 30, 31, 32] (by decide +kernel) (by decide +kernel)
set_option maxRecDepth 20000 in
theorem gX2_readStatement_X2_readsDigit : GoodIn wsX2_readStatement (wsV RX2 65 RX2 yX2_readsDigit wsX2_readsDigit) := goodIn_app (goodIn_of _ (by decide +kernel)) ggX2_readStatement_X2_readsDigit
set_option maxRecDepth 20000 in
theorem ggX2_readStatement_X2_readsHour : GoodIn wsX2_readStatement wsX2_readsHour := goodIn_r _ [27, 19, 7, 15, 16, 17, 4, 18, 20, 21, 22, 23, 6, 8, 9, 10, 11, 12, 13, 14, 28, 29, 30, 31, 32] (by decide +kernel) (by decide +kernel)
set_option maxRecDepth 20000 in
theorem gX2_readStatement_X2_readsHour : GoodIn wsX2_readStatement (wsV RX2 69 RX2 yX2_readsHour wsX2_readsHour) := goodIn_app (goodIn_of _ (by decide +kernel)) ggX2_readStatement_X2_readsHour
theorem dX2_readStatement_0 : decode cX2_readStatement 0 = .ok (.aload_n 0, 1) := by decide +kernel
theorem dX2_readStatement_1 : decode cX2_readStatement 1 = .ok (.bipush 114, 2) := by decide +kernel
theorem dX2_readStatement_3 : decode cX2_readStatement 3 = .ok (.invokevirtual 61, 3) := by decide +kernel
theorem dX2_readStatement_6 : decode cX2_readStatement 6 = .ok (.ifCond .eq 43, 3) := by decide +kernel
theorem dX2_readStatement_9 : decode cX2_readStatement 9 = .ok (.aload_n 0, 1) := by decide +kernel
theorem dX2_readStatement_10 : decode cX2_readStatement 10 = .ok (.iconst 0, 1) := by decide +kernel
theorem dX2_readStatement_11 : decode cX2_readStatement 11 = .ok (.invokevirtual 65, 3) := by decide +kernel
theorem dX2_readStatement_14 : decode cX2_readStatement 14 = .ok (.ifCond .eq 33, 3) := by decide +kernel
theorem dX2_readStatement_17 : decode cX2_readStatement 17 = .ok (.aload_n 0, 1) := by decide +kernel
theorem dX2_readStatement_18 : decode cX2_readStatement 18 = .ok (.bipush 42, 2) := by decide +kernel
theorem dX2_readStatement_20 : decode cX2_readStatement 20 = .ok (.invokevirtual 61, 3) := by decide +kernel
theorem dX2_readStatement_23 : decode cX2_readStatement 23 = .ok (.ifCond .eq 24, 3) := by decide +kernel
theorem dX2_readStatement_26 : decode cX2_readStatement 26 = .ok (.aload_n 0, 1) := by decide +kernel
theorem dX2_readStatement_27 : decode cX2_readStatement 27 = .ok (.iconst 1, 1) := by decide +kernel
theorem dX2_readStatement_28 : decode cX2_readStatement 28 = .ok (.invokevirtual 65, 3) := by decide +kernel
theorem dX2_readStatement_31 : decode cX2_readStatement 31 = .ok (.ifCond .eq 16, 3) := by decide +kernel
theorem dX2_readStatement_34 : decode cX2_readStatement 34 = .ok (.aload_n 0, 1) := by decide +kernel
theorem dX2_readStatement_35 : decode cX2_readStatement 35 = .ok (.bipush 59, 2) := by decide +kernel
theorem dX2_readStatement_37 : decode cX2_readStatement 37 = .ok (.invokevirtual 61, 3) := by decide +kernel
theorem dX2_readStatement_40 : decode cX2_readStatement 40 = .ok (.ifCond .eq 7, 3) := by decide +kernel
theorem dX2_readStatement_43 : decode cX2_readStatement 43 = .ok (.iconst 1, 1) := by decide +kernel
theorem dX2_readStatement_44 : decode cX2_readStatement 44 = .ok (.goto 4, 3) := by decide +kernel
theorem dX2_readStatement_47 : decode cX2_readStatement 47 = .ok (.iconst 0, 1) := by decide +kernel
theorem dX2_readStatement_48 : decode cX2_readStatement 48 = .ok (.ireturn, 1) := by decide +kernel
theorem dX2_readStatement_49 : decode cX2_readStatement 49 = .ok (.aload_n 0, 1) := by decide +kernel
theorem dX2_readStatement_50 : decode cX2_readStatement 50 = .ok (.bipush 100, 2) := by decide +kernel
theorem dX2_readStatement_52 : decode cX2_readStatement 52 = .ok (.invokevirtual 61, 3) := by decide +kernel
theorem dX2_readStatement_55 : decode cX2_readStatement 55 = .ok (.ifCond .eq 34, 3) := by decide +kernel
theorem dX2_readStatement_58 : decode cX2_readStatement 58 = .ok (.aload_n 0, 1) := by decide +kernel
theorem dX2_readStatement_59 : decode cX2_readStatement 59 = .ok (.iconst 0, 1) := by decide +kernel
theorem dX2_readStatement_60 : decode cX2_readStatement 60 = .ok (.invokevirtual 65, 3) := by decide +kernel
theorem dX2_readStatement_63 : decode cX2_readStatement 63 = .ok (.ifCond .eq 24, 3) := by decide +kernel
theorem dX2_readStatement_66 : decode cX2_readStatement 66 = .ok (.aload_n 0, 1) := by decide +kernel
theorem dX2_readStatement_67 : decode cX2_readStatement 67 = .ok (.iconst 1, 1) := by decide +kernel
theorem dX2_readStatement_68 : decode cX2_readStatement 68 = .ok (.invokevirtual 65, 3) := by decide +kernel
theorem dX2_readStatement_71 : decode cX2_readStatement 71 = .ok (.ifCond .eq 16, 3) := by decide +kernel
theorem dX2_readStatement_74 : decode cX2_readStatement 74 = .ok (.aload_n 0, 1) := by decide +kernel
theorem dX2_readStatement_75 : decode cX2_readStatement 75 = .ok (.bipush 59, 2) := by decide +kernel
theorem dX2_readStatement_77 : decode cX2_readStatement 77 = .ok (.invokevirtual 61, 3) := by decide +kernel
theorem dX2_readStatement_80 : decode cX2_readStatement 80 = .ok (.ifCond .eq 7, 3) := by decide +kernel
theorem dX2_readStatement_83 : decode cX2_readStatement 83 = .ok (.iconst 1, 1) := by decide +kernel
theorem dX2_readStatement_84 : decode cX2_readStatement 84 = .ok (.goto 4, 3) := by decide +kernel
theorem dX2_readStatement_87 : decode cX2_readStatement 87 = .ok (.iconst 0, 1) := by decide +kernel
theorem dX2_readStatement_88 : decode cX2_readStatement 88 = .ok (.ireturn, 1) := by decide +kernel
theorem dX2_readStatement_89 : decode cX2_readStatement 89 = .ok (.aload_n 0, 1) := by decide +kernel
theorem dX2_readStatement_90 : decode cX2_readStatement 90 = .ok (.bipush 110, 2) := by decide +kernel
theorem dX2_readStatement_92 : decode cX2_readStatement 92 = .ok (.invokevirtual 61, 3) := by decide +kernel
theorem dX2_readStatement_95 : decode cX2_readStatement 95 = .ok (.ifCond .eq 66, 3) := by decide +kernel
theorem dX2_readStatement_98 : decode cX2_readStatement 98 = .ok (.aload_n 0, 1) := by decide +kernel
theorem dX2_readStatement_99 : decode cX2_readStatement 99 = .ok (.iconst 0, 1) := by decide +kernel
theorem dX2_readStatement_100 : decode cX2_readStatement 100 = .ok (.invokevirtual 65, 3) := by decide +kernel
theorem dX2_readStatement_103 : decode cX2_readStatement 103 = .ok (.ifCond .eq 58, 3) := by decide +kernel
theorem dX2_readStatement_106 : decode cX2_readStatement 106 = .ok (.aload_n 0, 1) := by decide +kernel
theorem dX2_readStatement_107 : decode cX2_readStatement 107 = .ok (.iconst 1, 1) := by decide +kernel
theorem dX2_readStatement_108 : decode cX2_readStatement 108 = .ok (.invokevirtual 65, 3) := by decide +kernel
theorem dX2_readStatement_111 : decode cX2_readStatement 111 = .ok (.ifCond .eq 50, 3) := by decide +kernel
theorem dX2_readStatement_114 : decode cX2_readStatement 114 = .ok (.aload_n 0, 1) := by decide +kernel
theorem dX2_readStatement_115 : decode cX2_readStatement 115 = .ok (.bipush 64, 2) := by decide +kernel
theorem dX2_readStatement_117 : decode cX2_readStatement 117 = .ok (.invokevirtual 61, 3) := by decide +kernel
theorem dX2_readStatement_120 : decode cX2_readStatement 120 = .ok (.ifCond .eq 41, 3) := by decide +kernel
theorem dX2_readStatement_123 : decode cX2_readStatement 123 = .ok (.aload_n 0, 1) := by decide +kernel
theorem dX2_readStatement_124 : decode cX2_readStatement 124 = .ok (.iconst 2, 1) := by decide +kernel
theorem dX2_readStatement_125 : decode cX2_readStatement 125 = .ok (.invokevirtual 69, 3) := by decide +kernel
theorem dX2_readStatement_128 : decode cX2_readStatement 128 = .ok (.ifCond .eq 33, 3) := by decide +kernel
theorem dX2_readStatement_131 : decode cX2_readStatement 131 = .ok (.aload_n 0, 1) := by decide +kernel
theorem dX2_readStatement_132 : decode cX2_readStatement 132 = .ok (.bipush 45, 2) := by decide +kernel
theorem dX2_readStatement_134 : decode cX2_readStatement 134 = .ok (.invokevirtual 61, 3) := by decide +kernel
theorem dX2_readStatement_137 : decode cX2_readStatement 137 = .ok (.ifCond .eq 24, 3) := by decide +kernel
theorem dX2_readStatement_140 : decode cX2_readStatement 140 = .ok (.aload_n 0, 1) := by decide +kernel
theorem dX2_readStatement_141 : decode cX2_readStatement 141 = .ok (.iconst 3, 1) := by decide +kernel
theorem dX2_readStatement_142 : decode cX2_readStatement 142 = .ok (.invokevirtual 69, 3) := by decide +kernel
theorem dX2_readStatement_145 : decode cX2_readStatement 145 = .ok (.ifCond .eq 16, 3) := by decide +kernel
theorem dX2_readStatement_148 : decode cX2_readStatement 148 = .ok (.aload_n 0, 1) := by decide +kernel
theorem dX2_readStatement_149 : decode cX2_readStatement 149 = .ok (.bipush 59, 2) := by decide +kernel
theorem dX2_readStatement_151 : decode cX2_readStatement 151 = .ok (.invokevirtual 61, 3) := by decide +kernel
theorem dX2_readStatement_154 : decode cX2_readStatement 154 = .ok (.ifCond .eq 7, 3) := by decide +kernel
theorem dX2_readStatement_157 : decode cX2_readStatement 157 = .ok (.iconst 1, 1) := by decide +kernel
theorem dX2_readStatement_158 : decode cX2_readStatement 158 = .ok (.goto 4, 3) := by decide +kernel
theorem dX2_readStatement_161 : decode cX2_readStatement 161 = .ok (.iconst 0, 1) := by decide +kernel
theorem dX2_readStatement_162 : decode cX2_readStatement 162 = .ok (.ireturn, 1) := by decide +kernel
set_option maxRecDepth 20000 in
theorem ggX2_reads_X8_byteAt : GoodIn wsX2_reads wsX8_byteAt := goodIn_r _ [7, 8, 9, 13, 14] (by decide +kernel) (by decide +kernel)
set_option maxRecDepth 20000 in
theorem gX2_reads_X8_byteAt : GoodIn wsX2_reads (wsV RX2 42 RX8 yX8_byteAt wsX8_byteAt) := goodIn_app (goodIn_of _ (by decide +kernel)) ggX2_reads_X8_byteAt
theorem dX2_reads_0 : decode cX2_reads 0 = .ok (.aload_n 0, 1) := by decide +kernel
theorem dX2_reads_1 : decode cX2_reads 1 = .ok (.getfield 17, 3) := by decide +kernel
theorem dX2_reads_4 : decode cX2_reads 4 = .ok (.aload_n 0, 1) := by decide +kernel
theorem dX2_reads_5 : decode cX2_reads 5 = .ok (.getfield 29, 3) := by decide +kernel
theorem dX2_reads_8 : decode cX2_reads 8 = .ok (.invokevirtual 42, 3) := by decide +kernel
theorem dX2_reads_11 : decode cX2_reads 11 = .ok (.iload_n 1, 1) := by decide +kernel
theorem dX2_reads_12 : decode cX2_reads 12 = .ok (.if_icmp .eq 5, 3) := by decide +kernel
theorem dX2_reads_15 : decode cX2_reads 15 = .ok (.iconst 0, 1) := by decide +kernel
theorem dX2_reads_16 : decode cX2_reads 16 = .ok (.ireturn, 1) := by decide +kernel
theorem dX2_reads_17 : decode cX2_reads 17 = .ok (.aload_n 0, 1) := by decide +kernel
theorem dX2_reads_18 : decode cX2_reads 18 = .ok (.dup, 1) := by decide +kernel
theorem dX2_reads_19 : decode cX2_reads 19 = .ok (.getfield 29, 3) := by decide +kernel
theorem dX2_reads_22 : decode cX2_reads 22 = .ok (.iconst 1, 1) := by decide +kernel
theorem dX2_reads_23 : decode cX2_reads 23 = .ok (.iadd, 1) := by decide +kernel
theorem dX2_reads_24 : decode cX2_reads 24 = .ok (.putfield 29, 3) := by decide +kernel
theorem dX2_reads_27 : decode cX2_reads 27 = .ok (.iconst 1, 1) := by decide +kernel
theorem dX2_reads_28 : decode cX2_reads 28 = .ok (.ireturn, 1) := by decide +kernel
set_option maxRecDepth 20000 in
theorem ggX2_readsDigit_X2_digitHere : GoodIn wsX2_readsDigit wsX2_digitHere := goodIn_r _ [7, 8, 2, 9, 10, 11, 12, 13, 14, 15, 16, 17, 18, 19, 20] (by decide +kernel) (by decide +kernel)
set_option maxRecDepth 20000 in
theorem gX2_readsDigit_X2_digitHere : GoodIn wsX2_readsDigit (wsV RX2 72 RX2 yX2_digitHere wsX2_digitHere) := goodIn_app (goodIn_of _ (by decide +kernel)) ggX2_readsDigit_X2_digitHere
theorem dX2_readsDigit_0 : decode cX2_readsDigit 0 = .ok (.aload_n 0, 1) := by decide +kernel
theorem dX2_readsDigit_1 : decode cX2_readsDigit 1 = .ok (.invokevirtual 72, 3) := by decide +kernel
theorem dX2_readsDigit_4 : decode cX2_readsDigit 4 = .ok (.istore_n 2, 1) := by decide +kernel
theorem dX2_readsDigit_5 : decode cX2_readsDigit 5 = .ok (.iload_n 2, 1) := by decide +kernel
theorem dX2_readsDigit_6 : decode cX2_readsDigit 6 = .ok (.bipush (-9), 2) := by decide +kernel
theorem dX2_readsDigit_8 : decode cX2_readsDigit 8 = .ok (.if_icmp .ne 5, 3) := by decide +kernel
theorem dX2_readsDigit_11 : decode cX2_readsDigit 11 = .ok (.iconst 0, 1) := by decide +kernel
theorem dX2_readsDigit_12 : decode cX2_readsDigit 12 = .ok (.ireturn, 1) := by decide +kernel
theorem dX2_readsDigit_13 : decode cX2_readsDigit 13 = .ok (.aload_n 0, 1) := by decide +kernel
theorem dX2_readsDigit_14 : decode cX2_readsDigit 14 = .ok (.getfield 11, 3) := by decide +kernel
theorem dX2_readsDigit_17 : decode cX2_readsDigit 17 = .ok (.iload_n 1, 1) := by decide +kernel
theorem dX2_readsDigit_18 : decode cX2_readsDigit 18 = .ok (.iload_n 2, 1) := by decide +kernel
theorem dX2_readsDigit_19 : decode cX2_readsDigit 19 = .ok (.iastore, 1) := by decide +kernel
theorem dX2_readsDigit_20 : decode cX2_readsDigit 20 = .ok (.aload_n 0, 1) := by decide +kernel
theorem dX2_readsDigit_21 : decode cX2_readsDigit 21 = .ok (.dup, 1) := by decide +kernel
theorem dX2_readsDigit_22 : decode cX2_readsDigit 22 = .ok (.getfield 29, 3) := by decide +kernel
theorem dX2_readsDigit_25 : decode cX2_readsDigit 25 = .ok (.iconst 1, 1) := by decide +kernel
theorem dX2_readsDigit_26 : decode cX2_readsDigit 26 = .ok (.iadd, 1) := by decide +kernel
theorem dX2_readsDigit_27 : decode cX2_readsDigit 27 = .ok (.putfield 29, 3) := by decide +kernel
theorem dX2_readsDigit_30 : decode cX2_readsDigit 30 = .ok (.iconst 1, 1) := by decide +kernel
theorem dX2_readsDigit_31 : decode cX2_readsDigit 31 = .ok (.ireturn, 1) := by decide +kernel
set_option maxRecDepth 20000 in
theorem ggX2_readsHour_X2_readsDigit : GoodIn wsX2_readsHour wsX2_readsDigit := goodIn_r _ [7, 1, 2, 8, 9, 10, 6, 11, 12, 13, 14, 15, 16, 17, 18, 19, 20, 21, 22, 23, 24] (by decide +kernel) (by decide +kernel)
set_option maxRecDepth 20000 in
theorem gX2_readsHour_X2_readsDigit : GoodIn wsX2_readsHour (wsV RX2 65 RX2 yX2_readsDigit wsX2_readsDigit) := goodIn_app (goodIn_of _ (by decide +kernel)) ggX2_readsHour_X2_readsDigit
set_option maxRecDepth 20000 in
theorem ggX2_readsHour_X2_digitHere : GoodIn wsX2_readsHour wsX2_digitHere := goodIn_r _ [11, 12, 2, 13, 14, 15, 16, 17, 18, 19, 20, 21, 22, 23, 24] (by decide +kernel) (by decide +kernel)
set_option maxRecDepth 20000 in
theorem gX2_readsHour_X2_digitHere : GoodIn wsX2_readsHour (wsV RX2 72 RX2 yX2_digitHere wsX2_digitHere) := goodIn_app (goodIn_of _ (by decide +kernel)) ggX2_readsHour_X2_digitHere
theorem dX2_readsHour_0 : decode cX2_readsHour 0 = .ok (.aload_n 0, 1) := by decide +kernel
theorem dX2_readsHour_1 : decode cX2_readsHour 1 = .ok (.iload_n 1, 1) := by decide +kernel
theorem dX2_readsHour_2 : decode cX2_readsHour 2 = .ok (.invokevirtual 65, 3) := by decide +kernel
theorem dX2_readsHour_5 : decode cX2_readsHour 5 = .ok (.ifCond .ne 5, 3) := by decide +kernel
theorem dX2_readsHour_8 : decode cX2_readsHour 8 = .ok (.iconst 0, 1) := by decide +kernel
theorem dX2_readsHour_9 : decode cX2_readsHour 9 = .ok (.ireturn, 1) := by decide +kernel
theorem dX2_readsHour_10 : decode cX2_readsHour 10 = .ok (.aload_n 0, 1) := by decide +kernel
theorem dX2_readsHour_11 : decode cX2_readsHour 11 = .ok (.invokevirtual 72, 3) := by decide +kernel
theorem dX2_readsHour_14 : decode cX2_readsHour 14 = .ok (.istore_n 2, 1) := by decide +kernel
theorem dX2_readsHour_15 : decode cX2_readsHour 15 = .ok (.iload_n 2, 1) := by decide +kernel
theorem dX2_readsHour_16 : decode cX2_readsHour 16 = .ok (.bipush (-9), 2) := by decide +kernel
theorem dX2_readsHour_18 : decode cX2_readsHour 18 = .ok (.if_icmp .eq 30, 3) := by decide +kernel
theorem dX2_readsHour_21 : decode cX2_readsHour 21 = .ok (.aload_n 0, 1) := by decide +kernel
theorem dX2_readsHour_22 : decode cX2_readsHour 22 = .ok (.getfield 11, 3) := by decide +kernel
theorem dX2_readsHour_25 : decode cX2_readsHour 25 = .ok (.iload_n 1, 1) := by decide +kernel
theorem dX2_readsHour_26 : decode cX2_readsHour 26 = .ok (.aload_n 0, 1) := by decide +kernel
theorem dX2_readsHour_27 : decode cX2_readsHour 27 = .ok (.getfield 11, 3) := by decide +kernel
theorem dX2_readsHour_30 : decode cX2_readsHour 30 = .ok (.iload_n 1, 1) := by decide +kernel
theorem dX2_readsHour_31 : decode cX2_readsHour 31 = .ok (.iaload, 1) := by decide +kernel
theorem dX2_readsHour_32 : decode cX2_readsHour 32 = .ok (.bipush 10, 2) := by decide +kernel
theorem dX2_readsHour_34 : decode cX2_readsHour 34 = .ok (.imul, 1) := by decide +kernel
theorem dX2_readsHour_35 : decode cX2_readsHour 35 = .ok (.iload_n 2, 1) := by decide +kernel
theorem dX2_readsHour_36 : decode cX2_readsHour 36 = .ok (.iadd, 1) := by decide +kernel
theorem dX2_readsHour_37 : decode cX2_readsHour 37 = .ok (.iastore, 1) := by decide +kernel
theorem dX2_readsHour_38 : decode cX2_readsHour 38 = .ok (.aload_n 0, 1) := by decide +kernel
theorem dX2_readsHour_39 : decode cX2_readsHour 39 = .ok (.dup, 1) := by decide +kernel
theorem dX2_readsHour_40 : decode cX2_readsHour 40 = .ok (.getfield 29, 3) := by decide +kernel
theorem dX2_readsHour_43 : decode cX2_readsHour 43 = .ok (.iconst 1, 1) := by decide +kernel
theorem dX2_readsHour_44 : decode cX2_readsHour 44 = .ok (.iadd, 1) := by decide +kernel
theorem dX2_readsHour_45 : decode cX2_readsHour 45 = .ok (.putfield 29, 3) := by decide +kernel
theorem dX2_readsHour_48 : decode cX2_readsHour 48 = .ok (.iconst 1, 1) := by decide +kernel
theorem dX2_readsHour_49 : decode cX2_readsHour 49 = .ok (.ireturn, 1) := by decide +kernel
set_option maxRecDepth 20000 in
theorem ggX2_digitHere_X8_byteAt : GoodIn wsX2_digitHere wsX8_byteAt := goodIn_r _ [7, 8, 9, 13, 14] (by decide +kernel) (by decide +kernel)
set_option maxRecDepth 20000 in
theorem gX2_digitHere_X8_byteAt : GoodIn wsX2_digitHere (wsV RX2 42 RX8 yX8_byteAt wsX8_byteAt) := goodIn_app (goodIn_of _ (by decide +kernel)) ggX2_digitHere_X8_byteAt
theorem dX2_digitHere_0 : decode cX2_digitHere 0 = .ok (.aload_n 0, 1) := by decide +kernel
theorem dX2_digitHere_1 : decode cX2_digitHere 1 = .ok (.getfield 17, 3) := by decide +kernel
theorem dX2_digitHere_4 : decode cX2_digitHere 4 = .ok (.aload_n 0, 1) := by decide +kernel
theorem dX2_digitHere_5 : decode cX2_digitHere 5 = .ok (.getfield 29, 3) := by decide +kernel
theorem dX2_digitHere_8 : decode cX2_digitHere 8 = .ok (.invokevirtual 42, 3) := by decide +kernel
theorem dX2_digitHere_11 : decode cX2_digitHere 11 = .ok (.istore_n 1, 1) := by decide +kernel
theorem dX2_digitHere_12 : decode cX2_digitHere 12 = .ok (.iload_n 1, 1) := by decide +kernel
theorem dX2_digitHere_13 : decode cX2_digitHere 13 = .ok (.bipush 48, 2) := by decide +kernel
theorem dX2_digitHere_15 : decode cX2_digitHere 15 = .ok (.if_icmp .lt 16, 3) := by decide +kernel
theorem dX2_digitHere_18 : decode cX2_digitHere 18 = .ok (.iload_n 1, 1) := by decide +kernel
theorem dX2_digitHere_19 : decode cX2_digitHere 19 = .ok (.bipush 57, 2) := by decide +kernel
theorem dX2_digitHere_21 : decode cX2_digitHere 21 = .ok (.if_icmp .gt 10, 3) := by decide +kernel
theorem dX2_digitHere_24 : decode cX2_digitHere 24 = .ok (.iload_n 1, 1) := by decide +kernel
theorem dX2_digitHere_25 : decode cX2_digitHere 25 = .ok (.bipush 48, 2) := by decide +kernel
theorem dX2_digitHere_27 : decode cX2_digitHere 27 = .ok (.isub, 1) := by decide +kernel
theorem dX2_digitHere_28 : decode cX2_digitHere 28 = .ok (.goto 5, 3) := by decide +kernel
theorem dX2_digitHere_31 : decode cX2_digitHere 31 = .ok (.bipush (-9), 2) := by decide +kernel
theorem dX2_digitHere_33 : decode cX2_digitHere 33 = .ok (.ireturn, 1) := by decide +kernel
theorem dX3_init_0 : decode cX3_init 0 = .ok (.aload_n 0, 1) := by decide +kernel
theorem dX3_init_1 : decode cX3_init 1 = .ok (.invokespecial 3, 3) := by decide +kernel
theorem dX3_init_4 : decode cX3_init 4 = .ok (.aload_n 0, 1) := by decide +kernel
theorem dX3_init_5 : decode cX3_init 5 = .ok (.aload_n 1, 1) := by decide +kernel
theorem dX3_init_6 : decode cX3_init 6 = .ok (.putfield 9, 3) := by decide +kernel
theorem dX3_init_9 : decode cX3_init 9 = .ok (.aload_n 0, 1) := by decide +kernel
theorem dX3_init_10 : decode cX3_init 10 = .ok (.aload_n 2, 1) := by decide +kernel
theorem dX3_init_11 : decode cX3_init 11 = .ok (.putfield 15, 3) := by decide +kernel
theorem dX3_init_14 : decode cX3_init 14 = .ok (.return_, 1) := by decide +kernel
set_option maxRecDepth 20000 in
theorem ggX3_placeBehind_X3_placeOutside : GoodIn wsX3_placeBehind wsX3_placeOutside := goodIn_r _ [6, 1, 7, 8, 9, 10, 11, 12, 13, 14, 15, 16, 17, 18, 19, 20, 21, 22, 23, 24, 25, 26, 27, 28, 29, 30, 31, 32, 33, 34, 35, 36, 37, 38, 39, 40, 41, 42, 43, 44, 45, 46, 47, 48, 49, 50, 51, 52, 53] (by decide +kernel) (by decide +kernel)
set_option maxRecDepth 20000 in
theorem gX3_placeBehind_X3_placeOutside : GoodIn wsX3_placeBehind (wsV RX3 31 RX3 yX3_placeOutside wsX3_placeOutside) := goodIn_app (goodIn_of _ (by decide +kernel)) ggX3_placeBehind_X3_placeOutside
theorem dX3_placeBehind_0 : decode cX3_placeBehind 0 = .ok (.iload_n 1, 1) := by decide +kernel
theorem dX3_placeBehind_1 : decode cX3_placeBehind 1 = .ok (.iconst 1, 1) := by decide +kernel
theorem dX3_placeBehind_2 : decode cX3_placeBehind 2 = .ok (.if_icmp .lt 17, 3) := by decide +kernel
theorem dX3_placeBehind_5 : decode cX3_placeBehind 5 = .ok (.iload_n 1, 1) := by decide +kernel
theorem dX3_placeBehind_6 : decode cX3_placeBehind 6 = .ok (.aload_n 0, 1) := by decide +kernel
theorem dX3_placeBehind_7 : decode cX3_placeBehind 7 = .ok (.getfield 9, 3) := by decide +kernel
theorem dX3_placeBehind_10 : decode cX3_placeBehind 10 = .ok (.getfield 19, 3) := by decide +kernel
theorem dX3_placeBehind_13 : decode cX3_placeBehind 13 = .ok (.getfield 25, 3) := by decide +kernel
theorem dX3_placeBehind_16 : decode cX3_placeBehind 16 = .ok (.if_icmp .le 5, 3) := by decide +kernel
theorem dX3_placeBehind_19 : decode cX3_placeBehind 19 = .ok (.iconst 0, 1) := by decide +kernel
theorem dX3_placeBehind_20 : decode cX3_placeBehind 20 = .ok (.ireturn, 1) := by decide +kernel
theorem dX3_placeBehind_21 : decode cX3_placeBehind 21 = .ok (.aload_n 0, 1) := by decide +kernel
theorem dX3_placeBehind_22 : decode cX3_placeBehind 22 = .ok (.iload_n 1, 1) := by decide +kernel
theorem dX3_placeBehind_23 : decode cX3_placeBehind 23 = .ok (.iconst 1, 1) := by decide +kernel
theorem dX3_placeBehind_24 : decode cX3_placeBehind 24 = .ok (.isub, 1) := by decide +kernel
theorem dX3_placeBehind_25 : decode cX3_placeBehind 25 = .ok (.invokevirtual 31, 3) := by decide +kernel
theorem dX3_placeBehind_28 : decode cX3_placeBehind 28 = .ok (.istore_n 2, 1) := by decide +kernel
theorem dX3_placeBehind_29 : decode cX3_placeBehind 29 = .ok (.iload_n 2, 1) := by decide +kernel
theorem dX3_placeBehind_30 : decode cX3_placeBehind 30 = .ok (.bipush (-9), 2) := by decide +kernel
theorem dX3_placeBehind_32 : decode cX3_placeBehind 32 = .ok (.if_icmp .ne 20, 3) := by decide +kernel
theorem dX3_placeBehind_35 : decode cX3_placeBehind 35 = .ok (.aload_n 0, 1) := by decide +kernel
theorem dX3_placeBehind_36 : decode cX3_placeBehind 36 = .ok (.getfield 9, 3) := by decide +kernel
theorem dX3_placeBehind_39 : decode cX3_placeBehind 39 = .ok (.getfield 19, 3) := by decide +kernel
theorem dX3_placeBehind_42 : decode cX3_placeBehind 42 = .ok (.getfield 35, 3) := by decide +kernel
theorem dX3_placeBehind_45 : decode cX3_placeBehind 45 = .ok (.iload_n 1, 1) := by decide +kernel
theorem dX3_placeBehind_46 : decode cX3_placeBehind 46 = .ok (.iconst 1, 1) := by decide +kernel
theorem dX3_placeBehind_47 : decode cX3_placeBehind 47 = .ok (.isub, 1) := by decide +kernel
theorem dX3_placeBehind_48 : decode cX3_placeBehind 48 = .ok (.iaload, 1) := by decide +kernel
theorem dX3_placeBehind_49 : decode cX3_placeBehind 49 = .ok (.goto 4, 3) := by decide +kernel
theorem dX3_placeBehind_52 : decode cX3_placeBehind 52 = .ok (.iload_n 2, 1) := by decide +kernel
theorem dX3_placeBehind_53 : decode cX3_placeBehind 53 = .ok (.ireturn, 1) := by decide +kernel
set_option maxRecDepth 20000 in
theorem ggX3_placeOutside_X6_doneHour : GoodIn wsX3_placeOutside wsX6_doneHour := goodIn_r _ [6, 7, 8, 9, 10, 5, 11, 12, 13, 34, 35, 36, 37, 38, 39, 40, 41, 42, 43, 44, 45, 46, 47, 48] (by decide +kernel) (by decide +kernel)
set_option maxRecDepth 20000 in
theorem gX3_placeOutside_X6_doneHour : GoodIn wsX3_placeOutside (wsV RX3 39 RX6 yX6_doneHour wsX6_doneHour) := goodIn_app (goodIn_of _ (by decide +kernel)) ggX3_placeOutside_X6_doneHour
set_option maxRecDepth 20000 in
theorem ggX3_placeOutside_X6_shutBy : GoodIn wsX3_placeOutside wsX6_shutBy := goodIn_r _ [17, 7, 18, 19, 20, 21, 5, 22, 12, 8, 9, 10, 11, 13, 34, 35, 36, 37, 38, 39, 40, 41, 42, 43, 44, 45, 46, 47, 48] (by decide +kernel) (by decide +kernel)
set_option maxRecDepth 20000 in
theorem gX3_placeOutside_X6_shutBy : GoodIn wsX3_placeOutside (wsV RX3 42 RX6 yX6_shutBy wsX6_shutBy) := goodIn_app (goodIn_of _ (by decide +kernel)) ggX3_placeOutside_X6_shutBy
set_option maxRecDepth 20000 in
theorem ggX3_placeOutside_X1_leastOpenBeside : GoodIn wsX3_placeOutside wsX1_leastOpenBeside := goodIn_r _ [27, 28, 29, 42, 43, 44, 45, 46, 47, 48] (by decide +kernel) (by decide +kernel)
set_option maxRecDepth 20000 in
theorem gX3_placeOutside_X1_leastOpenBeside : GoodIn wsX3_placeOutside (wsV RX3 50 RX1 yX1_leastOpenBeside wsX1_leastOpenBeside) := goodIn_app (goodIn_of _ (by decide +kernel)) ggX3_placeOutside_X1_leastOpenBeside
theorem dX3_placeOutside_0 : decode cX3_placeOutside 0 = .ok (.aload_n 0, 1) := by decide +kernel
theorem dX3_placeOutside_1 : decode cX3_placeOutside 1 = .ok (.getfield 9, 3) := by decide +kernel
theorem dX3_placeOutside_4 : decode cX3_placeOutside 4 = .ok (.iload_n 1, 1) := by decide +kernel
theorem dX3_placeOutside_5 : decode cX3_placeOutside 5 = .ok (.iconst 1, 1) := by decide +kernel
theorem dX3_placeOutside_6 : decode cX3_placeOutside 6 = .ok (.iadd, 1) := by decide +kernel
theorem dX3_placeOutside_7 : decode cX3_placeOutside 7 = .ok (.aload_n 0, 1) := by decide +kernel
theorem dX3_placeOutside_8 : decode cX3_placeOutside 8 = .ok (.getfield 9, 3) := by decide +kernel
theorem dX3_placeOutside_11 : decode cX3_placeOutside 11 = .ok (.iload_n 1, 1) := by decide +kernel
theorem dX3_placeOutside_12 : decode cX3_placeOutside 12 = .ok (.invokevirtual 39, 3) := by decide +kernel
theorem dX3_placeOutside_15 : decode cX3_placeOutside 15 = .ok (.invokevirtual 42, 3) := by decide +kernel
theorem dX3_placeOutside_18 : decode cX3_placeOutside 18 = .ok (.istore_n 2, 1) := by decide +kernel
theorem dX3_placeOutside_19 : decode cX3_placeOutside 19 = .ok (.aload_n 0, 1) := by decide +kernel
theorem dX3_placeOutside_20 : decode cX3_placeOutside 20 = .ok (.getfield 9, 3) := by decide +kernel
theorem dX3_placeOutside_23 : decode cX3_placeOutside 23 = .ok (.getfield 46, 3) := by decide +kernel
theorem dX3_placeOutside_26 : decode cX3_placeOutside 26 = .ok (.aload_n 0, 1) := by decide +kernel
theorem dX3_placeOutside_27 : decode cX3_placeOutside 27 = .ok (.getfield 9, 3) := by decide +kernel
theorem dX3_placeOutside_30 : decode cX3_placeOutside 30 = .ok (.getfield 19, 3) := by decide +kernel
theorem dX3_placeOutside_33 : decode cX3_placeOutside 33 = .ok (.getfield 35, 3) := by decide +kernel
theorem dX3_placeOutside_36 : decode cX3_placeOutside 36 = .ok (.iload_n 1, 1) := by decide +kernel
theorem dX3_placeOutside_37 : decode cX3_placeOutside 37 = .ok (.iaload, 1) := by decide +kernel
theorem dX3_placeOutside_38 : decode cX3_placeOutside 38 = .ok (.iload_n 2, 1) := by decide +kernel
theorem dX3_placeOutside_39 : decode cX3_placeOutside 39 = .ok (.invokevirtual 50, 3) := by decide +kernel
theorem dX3_placeOutside_42 : decode cX3_placeOutside 42 = .ok (.ireturn, 1) := by decide +kernel
set_option maxRecDepth 20000 in
theorem ggX3_look_X3_lookAtPainter : GoodIn wsX3_look wsX3_lookAtPainter := goodIn_r _ [8, 3, 9, 10, 11, 12, 7, 13, 14, 15, 16, 17, 18, 19, 20, 21, 22, 23, 24, 25, 26, 27, 28, 29, 30, 31, 32, 33, 34, 35, 36, 37, 38, 39, 40, 41, 42, 43, 44, 45, 46, 47, 48, 49, 50, 51, 52, 53, 54, 55, 2, 1, 85, 86, 87, 88, 89, 90, 91, 92, 93, 94, 95, 96, 97, 98, 99, 100, 101, 102, 103, 104, 105] (by decide +kernel) (by decide +kernel)
set_option maxRecDepth 20000 in
theorem gX3_look_X3_lookAtPainter : GoodIn wsX3_look (wsV RX3 61 RX3 yX3_lookAtPainter wsX3_lookAtPainter) := goodIn_app (goodIn_of _ (by decide +kernel)) ggX3_look_X3_lookAtPainter
set_option maxRecDepth 20000 in
theorem ggX3_look_X3_lookAtCoatsAhead : GoodIn wsX3_look wsX3_lookAtCoatsAhead := goodIn_r _ [59, 3, 60, 61, 62, 21, 63, 28, 24, 25, 26, 27, 29, 52, 53, 54, 7, 55, 2, 1, 18, 19, 20, 22, 23, 85, 86, 87, 88, 89, 90, 91, 92, 93, 94, 95, 96, 97, 98, 99, 100, 101, 102, 103] (by decide +kernel) (by decide +kernel)
set_option maxRecDepth 20000 in
theorem gX3_look_X3_lookAtCoatsAhead : GoodIn wsX3_look (wsV RX3 65 RX3 yX3_lookAtCoatsAhead wsX3_lookAtCoatsAhead) := goodIn_app (goodIn_of _ (by decide +kernel)) ggX3_look_X3_lookAtCoatsAhead
set_option maxRecDepth 20000 in
theorem ggX3_look_X3_lookAtNeeds : GoodIn wsX3_look wsX3_lookAtNeeds := goodIn_r _ [67, 9, 3, 30, 31, 32, 21, 33, 23, 34, 35, 36, 37, 38, 28, 24, 25, 26, 27, 29, 68, 69, 70, 49, 71, 72, 73, 74, 7, 75, 76, 77, 78, 42, 79, 80, 52, 53, 54, 55, 2, 1, 85, 86, 87, 88, 89, 90, 91, 92, 93, 94, 95, 96, 97, 98, 99, 100, 101, 102, 103, 104, 105] (by decide +kernel) (by decide +kernel)
set_option maxRecDepth 20000 in
theorem gX3_look_X3_lookAtNeeds : GoodIn wsX3_look (wsV RX3 68 RX3 yX3_lookAtNeeds wsX3_lookAtNeeds) := goodIn_app (goodIn_of _ (by decide +kernel)) ggX3_look_X3_lookAtNeeds
set_option maxRecDepth 20000 in
theorem ggX3_look_X3_lookAtCoatsLacking : GoodIn wsX3_look wsX3_lookAtCoatsLacking := goodIn_r _ [84, 3, 52, 53, 54, 7, 55, 2, 1, 85, 86, 87, 88, 89, 90, 91, 92, 93, 97, 98, 99, 100, 101, 102, 103, 94, 95, 96] (by decide +kernel) (by decide +kernel)
set_option maxRecDepth 20000 in
theorem gX3_look_X3_lookAtCoatsLacking : GoodIn wsX3_look (wsV RX3 71 RX3 yX3_lookAtCoatsLacking wsX3_lookAtCoatsLacking) := goodIn_app (goodIn_of _ (by decide +kernel)) ggX3_look_X3_lookAtCoatsLacking
theorem dX3_look_0 : decode cX3_look 0 = .ok (.aload_n 0, 1) := by decide +kernel
theorem dX3_look_1 : decode cX3_look 1 = .ok (.bipush (-9), 2) := by decide +kernel
theorem dX3_look_3 : decode cX3_look 3 = .ok (.putfield 55, 3) := by decide +kernel
theorem dX3_look_6 : decode cX3_look 6 = .ok (.aload_n 0, 1) := by decide +kernel
theorem dX3_look_7 : decode cX3_look 7 = .ok (.bipush (-9), 2) := by decide +kernel
theorem dX3_look_9 : decode cX3_look 9 = .ok (.putfield 58, 3) := by decide +kernel
theorem dX3_look_12 : decode cX3_look 12 = .ok (.iconst 0, 1) := by decide +kernel
theorem dX3_look_13 : decode cX3_look 13 = .ok (.istore_n 1, 1) := by decide +kernel
theorem dX3_look_14 : decode cX3_look 14 = .ok (.iload_n 1, 1) := by decide +kernel
theorem dX3_look_15 : decode cX3_look 15 = .ok (.aload_n 0, 1) := by decide +kernel
theorem dX3_look_16 : decode cX3_look 16 = .ok (.getfield 9, 3) := by decide +kernel
theorem dX3_look_19 : decode cX3_look 19 = .ok (.getfield 19, 3) := by decide +kernel
theorem dX3_look_22 : decode cX3_look 22 = .ok (.getfield 25, 3) := by decide +kernel
theorem dX3_look_25 : decode cX3_look 25 = .ok (.if_icmp .ge 19, 3) := by decide +kernel
theorem dX3_look_28 : decode cX3_look 28 = .ok (.aload_n 0, 1) := by decide +kernel
theorem dX3_look_29 : decode cX3_look 29 = .ok (.iload_n 1, 1) := by decide +kernel
theorem dX3_look_30 : decode cX3_look 30 = .ok (.invokevirtual 61, 3) := by decide +kernel
theorem dX3_look_33 : decode cX3_look 33 = .ok (.aload_n 0, 1) := by decide +kernel
theorem dX3_look_34 : decode cX3_look 34 = .ok (.iload_n 1, 1) := by decide +kernel
theorem dX3_look_35 : decode cX3_look 35 = .ok (.invokevirtual 65, 3) := by decide +kernel
theorem dX3_look_38 : decode cX3_look 38 = .ok (.iinc 1 1, 3) := by decide +kernel
theorem dX3_look_41 : decode cX3_look 41 = .ok (.goto (-27), 3) := by decide +kernel
theorem dX3_look_44 : decode cX3_look 44 = .ok (.aload_n 0, 1) := by decide +kernel
theorem dX3_look_45 : decode cX3_look 45 = .ok (.invokevirtual 68, 3) := by decide +kernel
theorem dX3_look_48 : decode cX3_look 48 = .ok (.aload_n 0, 1) := by decide +kernel
theorem dX3_look_49 : decode cX3_look 49 = .ok (.invokevirtual 71, 3) := by decide +kernel
theorem dX3_look_52 : decode cX3_look 52 = .ok (.return_, 1) := by decide +kernel
theorem dX3_wrong_0 : decode cX3_wrong 0 = .ok (.aload_n 0, 1) := by decide +kernel
theorem dX3_wrong_1 : decode cX3_wrong 1 = .ok (.getfield 58, 3) := by decide +kernel
theorem dX3_wrong_4 : decode cX3_wrong 4 = .ok (.bipush (-9), 2) := by decide +kernel
theorem dX3_wrong_6 : decode cX3_wrong 6 = .ok (.if_icmp .eq 27, 3) := by decide +kernel
theorem dX3_wrong_9 : decode cX3_wrong 9 = .ok (.iload_n 2, 1) := by decide +kernel
theorem dX3_wrong_10 : decode cX3_wrong 10 = .ok (.aload_n 0, 1) := by decide +kernel
theorem dX3_wrong_11 : decode cX3_wrong 11 = .ok (.getfield 55, 3) := by decide +kernel
theorem dX3_wrong_14 : decode cX3_wrong 14 = .ok (.if_icmp .lt 19, 3) := by decide +kernel
theorem dX3_wrong_17 : decode cX3_wrong 17 = .ok (.iload_n 2, 1) := by decide +kernel
theorem dX3_wrong_18 : decode cX3_wrong 18 = .ok (.aload_n 0, 1) := by decide +kernel
theorem dX3_wrong_19 : decode cX3_wrong 19 = .ok (.getfield 55, 3) := by decide +kernel
theorem dX3_wrong_22 : decode cX3_wrong 22 = .ok (.if_icmp .ne 21, 3) := by decide +kernel
theorem dX3_wrong_25 : decode cX3_wrong 25 = .ok (.iload_n 1, 1) := by decide +kernel
theorem dX3_wrong_26 : decode cX3_wrong 26 = .ok (.aload_n 0, 1) := by decide +kernel
theorem dX3_wrong_27 : decode cX3_wrong 27 = .ok (.getfield 58, 3) := by decide +kernel
theorem dX3_wrong_30 : decode cX3_wrong 30 = .ok (.if_icmp .ge 13, 3) := by decide +kernel
theorem dX3_wrong_33 : decode cX3_wrong 33 = .ok (.aload_n 0, 1) := by decide +kernel
theorem dX3_wrong_34 : decode cX3_wrong 34 = .ok (.iload_n 2, 1) := by decide +kernel
theorem dX3_wrong_35 : decode cX3_wrong 35 = .ok (.putfield 55, 3) := by decide +kernel
theorem dX3_wrong_38 : decode cX3_wrong 38 = .ok (.aload_n 0, 1) := by decide +kernel
theorem dX3_wrong_39 : decode cX3_wrong 39 = .ok (.iload_n 1, 1) := by decide +kernel
theorem dX3_wrong_40 : decode cX3_wrong 40 = .ok (.putfield 58, 3) := by decide +kernel
theorem dX3_wrong_43 : decode cX3_wrong 43 = .ok (.return_, 1) := by decide +kernel
set_option maxRecDepth 20000 in
theorem ggX3_lookAtPainter_X3_placeBehind : GoodIn wsX3_lookAtPainter wsX3_placeBehind := goodIn_r _ [7, 1, 8, 9, 10, 6, 11, 12, 13, 14, 15, 16, 17, 18, 19, 20, 21, 22, 23, 24, 25, 26, 27, 28, 29, 30, 31, 32, 33, 34, 35, 36, 37, 38, 39, 52, 53, 54, 55, 56, 57, 58, 59, 60, 61, 62, 63, 64, 65, 66, 67, 68, 69, 70] (by decide +kernel) (by decide +kernel)
set_option maxRecDepth 20000 in
theorem gX3_lookAtPainter_X3_placeBehind : GoodIn wsX3_lookAtPainter (wsV RX3 77 RX3 yX3_placeBehind wsX3_placeBehind) := goodIn_app (goodIn_of _ (by decide +kernel)) ggX3_lookAtPainter_X3_placeBehind
set_option maxRecDepth 20000 in
theorem ggX3_lookAtPainter_X6_shutBy : GoodIn wsX3_lookAtPainter wsX6_shutBy := goodIn_r _ [27, 17, 28, 29, 30, 31, 15, 32, 22, 18, 19, 20, 21, 23, 56, 57, 58, 59, 60, 61, 62, 63, 64, 65, 66, 67, 68, 69, 70] (by decide +kernel) (by decide +kernel)
set_option maxRecDepth 20000 in
theorem gX3_lookAtPainter_X6_shutBy : GoodIn wsX3_lookAtPainter (wsV RX3 42 RX6 yX6_shutBy wsX6_shutBy) := goodIn_app (goodIn_of _ (by decide +kernel)) ggX3_lookAtPainter_X6_shutBy
set_option maxRecDepth 20000 in
theorem ggX3_lookAtPainter_X9_leads : GoodIn wsX3_lookAtPainter wsX9_leads := goodIn_r _ [44, 45, 71, 72] (by decide +kernel) (by decide +kernel)
set_option maxRecDepth 20000 in
theorem gX3_lookAtPainter_X9_leads : GoodIn wsX3_lookAtPainter (wsV RX3 80 RX9 yX9_leads wsX9_leads) := goodIn_app (goodIn_of _ (by decide +kernel)) ggX3_lookAtPainter_X9_leads
set_option maxRecDepth 20000 in
theorem ggX3_lookAtPainter_X3_wrong : GoodIn wsX3_lookAtPainter wsX3_wrong := goodIn_r _ [49, 50, 51, 52, 53, 54, 55] (by decide +kernel) (by decide +kernel)
set_option maxRecDepth 20000 in
theorem gX3_lookAtPainter_X3_wrong : GoodIn wsX3_lookAtPainter (wsV RX3 86 RX3 yX3_wrong wsX3_wrong) := goodIn_app (goodIn_of _ (by decide +kernel)) ggX3_lookAtPainter_X3_wrong
set_option maxRecDepth 20000 in
theorem ggX3_lookAtPainter_X3_placeOutside : GoodIn wsX3_lookAtPainter wsX3_placeOutside := goodIn_r _ [11, 1, 12, 13, 14, 15, 16, 17, 18, 19, 20, 21, 22, 23, 24, 25, 26, 27, 28, 29, 30, 31, 32, 33, 34, 35, 36, 37, 38, 39, 52, 53, 54, 55, 56, 57, 58, 59, 60, 61, 62, 63, 64, 65, 66, 67, 68, 69, 70] (by decide +kernel) (by decide +kernel)
set_option maxRecDepth 20000 in
theorem gX3_lookAtPainter_X3_placeOutside : GoodIn wsX3_lookAtPainter (wsV RX3 31 RX3 yX3_placeOutside wsX3_placeOutside) := goodIn_app (goodIn_of _ (by decide +kernel)) ggX3_lookAtPainter_X3_placeOutside
set_option maxRecDepth 20000 in
theorem ggX3_lookAtPainter_X6_doneHour : GoodIn wsX3_lookAtPainter wsX6_doneHour := goodIn_r _ [16, 17, 18, 19, 20, 15, 21, 22, 23, 56, 57, 58, 59, 60, 61, 62, 63, 64, 65, 66, 67, 68, 69, 70] (by decide +kernel) (by decide +kernel)
set_option maxRecDepth 20000 in
theorem gX3_lookAtPainter_X6_doneHour : GoodIn wsX3_lookAtPainter (wsV RX3 39 RX6 yX6_doneHour wsX6_doneHour) := goodIn_app (goodIn_of _ (by decide +kernel)) ggX3_lookAtPainter_X6_doneHour
theorem dX3_lookAtPainter_0 : decode cX3_lookAtPainter 0 = .ok (.aload_n 0, 1) := by decide +kernel
theorem dX3_lookAtPainter_1 : decode cX3_lookAtPainter 1 = .ok (.getfield 9, 3) := by decide +kernel
theorem dX3_lookAtPainter_4 : decode cX3_lookAtPainter 4 = .ok (.getfield 19, 3) := by decide +kernel
theorem dX3_lookAtPainter_7 : decode cX3_lookAtPainter 7 = .ok (.getfield 74, 3) := by decide +kernel
theorem dX3_lookAtPainter_10 : decode cX3_lookAtPainter 10 = .ok (.iload_n 1, 1) := by decide +kernel
theorem dX3_lookAtPainter_11 : decode cX3_lookAtPainter 11 = .ok (.iaload, 1) := by decide +kernel
theorem dX3_lookAtPainter_12 : decode cX3_lookAtPainter 12 = .ok (.istore_n 2, 1) := by decide +kernel
theorem dX3_lookAtPainter_13 : decode cX3_lookAtPainter 13 = .ok (.aload_n 0, 1) := by decide +kernel
theorem dX3_lookAtPainter_14 : decode cX3_lookAtPainter 14 = .ok (.getfield 15, 3) := by decide +kernel
theorem dX3_lookAtPainter_17 : decode cX3_lookAtPainter 17 = .ok (.aload_n 0, 1) := by decide +kernel
theorem dX3_lookAtPainter_18 : decode cX3_lookAtPainter 18 = .ok (.iload_n 1, 1) := by decide +kernel
theorem dX3_lookAtPainter_19 : decode cX3_lookAtPainter 19 = .ok (.invokevirtual 77, 3) := by decide +kernel
theorem dX3_lookAtPainter_22 : decode cX3_lookAtPainter 22 = .ok (.aload_n 0, 1) := by decide +kernel
theorem dX3_lookAtPainter_23 : decode cX3_lookAtPainter 23 = .ok (.getfield 9, 3) := by decide +kernel
theorem dX3_lookAtPainter_26 : decode cX3_lookAtPainter 26 = .ok (.getfield 19, 3) := by decide +kernel
theorem dX3_lookAtPainter_29 : decode cX3_lookAtPainter 29 = .ok (.getfield 35, 3) := by decide +kernel
theorem dX3_lookAtPainter_32 : decode cX3_lookAtPainter 32 = .ok (.iload_n 1, 1) := by decide +kernel
theorem dX3_lookAtPainter_33 : decode cX3_lookAtPainter 33 = .ok (.iaload, 1) := by decide +kernel
theorem dX3_lookAtPainter_34 : decode cX3_lookAtPainter 34 = .ok (.aload_n 0, 1) := by decide +kernel
theorem dX3_lookAtPainter_35 : decode cX3_lookAtPainter 35 = .ok (.getfield 9, 3) := by decide +kernel
theorem dX3_lookAtPainter_38 : decode cX3_lookAtPainter 38 = .ok (.iload_n 1, 1) := by decide +kernel
theorem dX3_lookAtPainter_39 : decode cX3_lookAtPainter 39 = .ok (.iload_n 2, 1) := by decide +kernel
theorem dX3_lookAtPainter_40 : decode cX3_lookAtPainter 40 = .ok (.invokevirtual 42, 3) := by decide +kernel
theorem dX3_lookAtPainter_43 : decode cX3_lookAtPainter 43 = .ok (.invokevirtual 80, 3) := by decide +kernel
theorem dX3_lookAtPainter_46 : decode cX3_lookAtPainter 46 = .ok (.ifCond .ne 9, 3) := by decide +kernel
theorem dX3_lookAtPainter_49 : decode cX3_lookAtPainter 49 = .ok (.aload_n 0, 1) := by decide +kernel
theorem dX3_lookAtPainter_50 : decode cX3_lookAtPainter 50 = .ok (.iconst 1, 1) := by decide +kernel
theorem dX3_lookAtPainter_51 : decode cX3_lookAtPainter 51 = .ok (.iload_n 2, 1) := by decide +kernel
theorem dX3_lookAtPainter_52 : decode cX3_lookAtPainter 52 = .ok (.invokevirtual 86, 3) := by decide +kernel
theorem dX3_lookAtPainter_55 : decode cX3_lookAtPainter 55 = .ok (.aload_n 0, 1) := by decide +kernel
theorem dX3_lookAtPainter_56 : decode cX3_lookAtPainter 56 = .ok (.iload_n 1, 1) := by decide +kernel
theorem dX3_lookAtPainter_57 : decode cX3_lookAtPainter 57 = .ok (.invokevirtual 31, 3) := by decide +kernel
theorem dX3_lookAtPainter_60 : decode cX3_lookAtPainter 60 = .ok (.bipush (-9), 2) := by decide +kernel
theorem dX3_lookAtPainter_62 : decode cX3_lookAtPainter 62 = .ok (.if_icmp .ne 16, 3) := by decide +kernel
theorem dX3_lookAtPainter_65 : decode cX3_lookAtPainter 65 = .ok (.aload_n 0, 1) := by decide +kernel
theorem dX3_lookAtPainter_66 : decode cX3_lookAtPainter 66 = .ok (.iconst 2, 1) := by decide +kernel
theorem dX3_lookAtPainter_67 : decode cX3_lookAtPainter 67 = .ok (.aload_n 0, 1) := by decide +kernel
theorem dX3_lookAtPainter_68 : decode cX3_lookAtPainter 68 = .ok (.getfield 9, 3) := by decide +kernel
theorem dX3_lookAtPainter_71 : decode cX3_lookAtPainter 71 = .ok (.iload_n 1, 1) := by decide +kernel
theorem dX3_lookAtPainter_72 : decode cX3_lookAtPainter 72 = .ok (.invokevirtual 39, 3) := by decide +kernel
theorem dX3_lookAtPainter_75 : decode cX3_lookAtPainter 75 = .ok (.invokevirtual 86, 3) := by decide +kernel
theorem dX3_lookAtPainter_78 : decode cX3_lookAtPainter 78 = .ok (.iload_n 1, 1) := by decide +kernel
theorem dX3_lookAtPainter_79 : decode cX3_lookAtPainter 79 = .ok (.ifCond .le 24, 3) := by decide +kernel
theorem dX3_lookAtPainter_82 : decode cX3_lookAtPainter 82 = .ok (.iload_n 2, 1) := by decide +kernel
theorem dX3_lookAtPainter_83 : decode cX3_lookAtPainter 83 = .ok (.aload_n 0, 1) := by decide +kernel
theorem dX3_lookAtPainter_84 : decode cX3_lookAtPainter 84 = .ok (.getfield 9, 3) := by decide +kernel
theorem dX3_lookAtPainter_87 : decode cX3_lookAtPainter 87 = .ok (.iload_n 1, 1) := by decide +kernel
theorem dX3_lookAtPainter_88 : decode cX3_lookAtPainter 88 = .ok (.iconst 1, 1) := by decide +kernel
theorem dX3_lookAtPainter_89 : decode cX3_lookAtPainter 89 = .ok (.isub, 1) := by decide +kernel
theorem dX3_lookAtPainter_90 : decode cX3_lookAtPainter 90 = .ok (.invokevirtual 39, 3) := by decide +kernel
theorem dX3_lookAtPainter_93 : decode cX3_lookAtPainter 93 = .ok (.if_icmp .ge 10, 3) := by decide +kernel
theorem dX3_lookAtPainter_96 : decode cX3_lookAtPainter 96 = .ok (.aload_n 0, 1) := by decide +kernel
theorem dX3_lookAtPainter_97 : decode cX3_lookAtPainter 97 = .ok (.bipush 6, 2) := by decide +kernel
theorem dX3_lookAtPainter_99 : decode cX3_lookAtPainter 99 = .ok (.iload_n 2, 1) := by decide +kernel
theorem dX3_lookAtPainter_100 : decode cX3_lookAtPainter 100 = .ok (.invokevirtual 86, 3) := by decide +kernel
theorem dX3_lookAtPainter_103 : decode cX3_lookAtPainter 103 = .ok (.return_, 1) := by decide +kernel
set_option maxRecDepth 20000 in
theorem ggX3_lookAtCoatsAhead_X6_dryHours : GoodIn wsX3_lookAtCoatsAhead wsX6_dryHours := goodIn_r _ [6, 7, 8, 9, 10, 5, 11, 12, 29, 30, 31, 32, 33, 37, 38, 39, 40, 41, 42, 43] (by decide +kernel) (by decide +kernel)
set_option maxRecDepth 20000 in
theorem gX3_lookAtCoatsAhead_X6_dryHours : GoodIn wsX3_lookAtCoatsAhead (wsV RX3 90 RX6 yX6_dryHours wsX6_dryHours) := goodIn_app (goodIn_of _ (by decide +kernel)) ggX3_lookAtCoatsAhead_X6_dryHours
set_option maxRecDepth 20000 in
theorem ggX3_lookAtCoatsAhead_X3_wrong : GoodIn wsX3_lookAtCoatsAhead wsX3_wrong := goodIn_r _ [17, 18, 19, 25, 26, 27, 28] (by decide +kernel) (by decide +kernel)
set_option maxRecDepth 20000 in
theorem gX3_lookAtCoatsAhead_X3_wrong : GoodIn wsX3_lookAtCoatsAhead (wsV RX3 86 RX3 yX3_wrong wsX3_wrong) := goodIn_app (goodIn_of _ (by decide +kernel)) ggX3_lookAtCoatsAhead_X3_wrong
set_option maxRecDepth 20000 in
theorem ggX3_lookAtCoatsAhead_X6_doneHour : GoodIn wsX3_lookAtCoatsAhead wsX6_doneHour := goodIn_r _ [23, 24, 8, 9, 10, 5, 11, 7, 12, 29, 30, 31, 32, 33, 34, 35, 36, 37, 38, 39, 40, 41, 42, 43] (by decide +kernel) (by decide +kernel)
set_option maxRecDepth 20000 in
theorem gX3_lookAtCoatsAhead_X6_doneHour : GoodIn wsX3_lookAtCoatsAhead (wsV RX3 39 RX6 yX6_doneHour wsX6_doneHour) := goodIn_app (goodIn_of _ (by decide +kernel)) ggX3_lookAtCoatsAhead_X6_doneHour
theorem dX3_lookAtCoatsAhead_0 : decode cX3_lookAtCoatsAhead 0 = .ok (.aload_n 0, 1) := by decide +kernel
theorem dX3_lookAtCoatsAhead_1 : decode cX3_lookAtCoatsAhead 1 = .ok (.getfield 9, 3) := by decide +kernel
theorem dX3_lookAtCoatsAhead_4 : decode cX3_lookAtCoatsAhead 4 = .ok (.getfield 19, 3) := by decide +kernel
theorem dX3_lookAtCoatsAhead_7 : decode cX3_lookAtCoatsAhead 7 = .ok (.getfield 35, 3) := by decide +kernel
theorem dX3_lookAtCoatsAhead_10 : decode cX3_lookAtCoatsAhead 10 = .ok (.iload_n 1, 1) := by decide +kernel
theorem dX3_lookAtCoatsAhead_11 : decode cX3_lookAtCoatsAhead 11 = .ok (.iaload, 1) := by decide +kernel
theorem dX3_lookAtCoatsAhead_12 : decode cX3_lookAtCoatsAhead 12 = .ok (.istore_n 2, 1) := by decide +kernel
theorem dX3_lookAtCoatsAhead_13 : decode cX3_lookAtCoatsAhead 13 = .ok (.aload_n 0, 1) := by decide +kernel
theorem dX3_lookAtCoatsAhead_14 : decode cX3_lookAtCoatsAhead 14 = .ok (.getfield 9, 3) := by decide +kernel
theorem dX3_lookAtCoatsAhead_17 : decode cX3_lookAtCoatsAhead 17 = .ok (.getfield 19, 3) := by decide +kernel
theorem dX3_lookAtCoatsAhead_20 : decode cX3_lookAtCoatsAhead 20 = .ok (.getfield 74, 3) := by decide +kernel
theorem dX3_lookAtCoatsAhead_23 : decode cX3_lookAtCoatsAhead 23 = .ok (.iload_n 1, 1) := by decide +kernel
theorem dX3_lookAtCoatsAhead_24 : decode cX3_lookAtCoatsAhead 24 = .ok (.iaload, 1) := by decide +kernel
theorem dX3_lookAtCoatsAhead_25 : decode cX3_lookAtCoatsAhead 25 = .ok (.istore_n 3, 1) := by decide +kernel
theorem dX3_lookAtCoatsAhead_26 : decode cX3_lookAtCoatsAhead 26 = .ok (.iconst 0, 1) := by decide +kernel
theorem dX3_lookAtCoatsAhead_27 : decode cX3_lookAtCoatsAhead 27 = .ok (.istore 4, 2) := by decide +kernel
theorem dX3_lookAtCoatsAhead_29 : decode cX3_lookAtCoatsAhead 29 = .ok (.bipush (-9), 2) := by decide +kernel
theorem dX3_lookAtCoatsAhead_31 : decode cX3_lookAtCoatsAhead 31 = .ok (.istore 5, 2) := by decide +kernel
theorem dX3_lookAtCoatsAhead_33 : decode cX3_lookAtCoatsAhead 33 = .ok (.iconst 0, 1) := by decide +kernel
theorem dX3_lookAtCoatsAhead_34 : decode cX3_lookAtCoatsAhead 34 = .ok (.istore 6, 2) := by decide +kernel
theorem dX3_lookAtCoatsAhead_36 : decode cX3_lookAtCoatsAhead 36 = .ok (.iload 6, 2) := by decide +kernel
theorem dX3_lookAtCoatsAhead_38 : decode cX3_lookAtCoatsAhead 38 = .ok (.iload_n 1, 1) := by decide +kernel
theorem dX3_lookAtCoatsAhead_39 : decode cX3_lookAtCoatsAhead 39 = .ok (.if_icmp .ge 74, 3) := by decide +kernel
theorem dX3_lookAtCoatsAhead_42 : decode cX3_lookAtCoatsAhead 42 = .ok (.aload_n 0, 1) := by decide +kernel
theorem dX3_lookAtCoatsAhead_43 : decode cX3_lookAtCoatsAhead 43 = .ok (.getfield 9, 3) := by decide +kernel
theorem dX3_lookAtCoatsAhead_46 : decode cX3_lookAtCoatsAhead 46 = .ok (.getfield 19, 3) := by decide +kernel
theorem dX3_lookAtCoatsAhead_49 : decode cX3_lookAtCoatsAhead 49 = .ok (.getfield 35, 3) := by decide +kernel
theorem dX3_lookAtCoatsAhead_52 : decode cX3_lookAtCoatsAhead 52 = .ok (.iload 6, 2) := by decide +kernel
theorem dX3_lookAtCoatsAhead_54 : decode cX3_lookAtCoatsAhead 54 = .ok (.iaload, 1) := by decide +kernel
theorem dX3_lookAtCoatsAhead_55 : decode cX3_lookAtCoatsAhead 55 = .ok (.iload_n 2, 1) := by decide +kernel
theorem dX3_lookAtCoatsAhead_56 : decode cX3_lookAtCoatsAhead 56 = .ok (.if_icmp .ne 51, 3) := by decide +kernel
theorem dX3_lookAtCoatsAhead_59 : decode cX3_lookAtCoatsAhead 59 = .ok (.iinc 4 1, 3) := by decide +kernel
theorem dX3_lookAtCoatsAhead_62 : decode cX3_lookAtCoatsAhead 62 = .ok (.iload 6, 2) := by decide +kernel
theorem dX3_lookAtCoatsAhead_64 : decode cX3_lookAtCoatsAhead 64 = .ok (.istore 5, 2) := by decide +kernel
theorem dX3_lookAtCoatsAhead_66 : decode cX3_lookAtCoatsAhead 66 = .ok (.iload_n 3, 1) := by decide +kernel
theorem dX3_lookAtCoatsAhead_67 : decode cX3_lookAtCoatsAhead 67 = .ok (.aload_n 0, 1) := by decide +kernel
theorem dX3_lookAtCoatsAhead_68 : decode cX3_lookAtCoatsAhead 68 = .ok (.getfield 9, 3) := by decide +kernel
theorem dX3_lookAtCoatsAhead_71 : decode cX3_lookAtCoatsAhead 71 = .ok (.getfield 19, 3) := by decide +kernel
theorem dX3_lookAtCoatsAhead_74 : decode cX3_lookAtCoatsAhead 74 = .ok (.getfield 74, 3) := by decide +kernel
theorem dX3_lookAtCoatsAhead_77 : decode cX3_lookAtCoatsAhead 77 = .ok (.iload 6, 2) := by decide +kernel
theorem dX3_lookAtCoatsAhead_79 : decode cX3_lookAtCoatsAhead 79 = .ok (.iaload, 1) := by decide +kernel
theorem dX3_lookAtCoatsAhead_80 : decode cX3_lookAtCoatsAhead 80 = .ok (.isub, 1) := by decide +kernel
theorem dX3_lookAtCoatsAhead_81 : decode cX3_lookAtCoatsAhead 81 = .ok (.istore 7, 2) := by decide +kernel
theorem dX3_lookAtCoatsAhead_83 : decode cX3_lookAtCoatsAhead 83 = .ok (.iload 7, 2) := by decide +kernel
theorem dX3_lookAtCoatsAhead_85 : decode cX3_lookAtCoatsAhead 85 = .ok (.ifCond .lt 22, 3) := by decide +kernel
theorem dX3_lookAtCoatsAhead_88 : decode cX3_lookAtCoatsAhead 88 = .ok (.iload 7, 2) := by decide +kernel
theorem dX3_lookAtCoatsAhead_90 : decode cX3_lookAtCoatsAhead 90 = .ok (.aload_n 0, 1) := by decide +kernel
theorem dX3_lookAtCoatsAhead_91 : decode cX3_lookAtCoatsAhead 91 = .ok (.getfield 9, 3) := by decide +kernel
theorem dX3_lookAtCoatsAhead_94 : decode cX3_lookAtCoatsAhead 94 = .ok (.iload_n 2, 1) := by decide +kernel
theorem dX3_lookAtCoatsAhead_95 : decode cX3_lookAtCoatsAhead 95 = .ok (.invokevirtual 90, 3) := by decide +kernel
theorem dX3_lookAtCoatsAhead_98 : decode cX3_lookAtCoatsAhead 98 = .ok (.if_icmp .ge 9, 3) := by decide +kernel
theorem dX3_lookAtCoatsAhead_101 : decode cX3_lookAtCoatsAhead 101 = .ok (.aload_n 0, 1) := by decide +kernel
theorem dX3_lookAtCoatsAhead_102 : decode cX3_lookAtCoatsAhead 102 = .ok (.iconst 4, 1) := by decide +kernel
theorem dX3_lookAtCoatsAhead_103 : decode cX3_lookAtCoatsAhead 103 = .ok (.iload_n 3, 1) := by decide +kernel
theorem dX3_lookAtCoatsAhead_104 : decode cX3_lookAtCoatsAhead 104 = .ok (.invokevirtual 86, 3) := by decide +kernel
theorem dX3_lookAtCoatsAhead_107 : decode cX3_lookAtCoatsAhead 107 = .ok (.iinc 6 1, 3) := by decide +kernel
theorem dX3_lookAtCoatsAhead_110 : decode cX3_lookAtCoatsAhead 110 = .ok (.goto (-74), 3) := by decide +kernel
theorem dX3_lookAtCoatsAhead_113 : decode cX3_lookAtCoatsAhead 113 = .ok (.iload 5, 2) := by decide +kernel
theorem dX3_lookAtCoatsAhead_115 : decode cX3_lookAtCoatsAhead 115 = .ok (.ifCond .lt 32, 3) := by decide +kernel
theorem dX3_lookAtCoatsAhead_118 : decode cX3_lookAtCoatsAhead 118 = .ok (.iload_n 3, 1) := by decide +kernel
theorem dX3_lookAtCoatsAhead_119 : decode cX3_lookAtCoatsAhead 119 = .ok (.aload_n 0, 1) := by decide +kernel
theorem dX3_lookAtCoatsAhead_120 : decode cX3_lookAtCoatsAhead 120 = .ok (.getfield 9, 3) := by decide +kernel
theorem dX3_lookAtCoatsAhead_123 : decode cX3_lookAtCoatsAhead 123 = .ok (.iload 5, 2) := by decide +kernel
theorem dX3_lookAtCoatsAhead_125 : decode cX3_lookAtCoatsAhead 125 = .ok (.invokevirtual 39, 3) := by decide +kernel
theorem dX3_lookAtCoatsAhead_128 : decode cX3_lookAtCoatsAhead 128 = .ok (.isub, 1) := by decide +kernel
theorem dX3_lookAtCoatsAhead_129 : decode cX3_lookAtCoatsAhead 129 = .ok (.aload_n 0, 1) := by decide +kernel
theorem dX3_lookAtCoatsAhead_130 : decode cX3_lookAtCoatsAhead 130 = .ok (.getfield 9, 3) := by decide +kernel
theorem dX3_lookAtCoatsAhead_133 : decode cX3_lookAtCoatsAhead 133 = .ok (.getfield 93, 3) := by decide +kernel
theorem dX3_lookAtCoatsAhead_136 : decode cX3_lookAtCoatsAhead 136 = .ok (.iconst 2, 1) := by decide +kernel
theorem dX3_lookAtCoatsAhead_137 : decode cX3_lookAtCoatsAhead 137 = .ok (.iaload, 1) := by decide +kernel
theorem dX3_lookAtCoatsAhead_138 : decode cX3_lookAtCoatsAhead 138 = .ok (.if_icmp .le 9, 3) := by decide +kernel
theorem dX3_lookAtCoatsAhead_141 : decode cX3_lookAtCoatsAhead 141 = .ok (.aload_n 0, 1) := by decide +kernel
theorem dX3_lookAtCoatsAhead_142 : decode cX3_lookAtCoatsAhead 142 = .ok (.iconst 5, 1) := by decide +kernel
theorem dX3_lookAtCoatsAhead_143 : decode cX3_lookAtCoatsAhead 143 = .ok (.iload_n 3, 1) := by decide +kernel
theorem dX3_lookAtCoatsAhead_144 : decode cX3_lookAtCoatsAhead 144 = .ok (.invokevirtual 86, 3) := by decide +kernel
theorem dX3_lookAtCoatsAhead_147 : decode cX3_lookAtCoatsAhead 147 = .ok (.iload 4, 2) := by decide +kernel
theorem dX3_lookAtCoatsAhead_149 : decode cX3_lookAtCoatsAhead 149 = .ok (.aload_n 0, 1) := by decide +kernel
theorem dX3_lookAtCoatsAhead_150 : decode cX3_lookAtCoatsAhead 150 = .ok (.getfield 9, 3) := by decide +kernel
theorem dX3_lookAtCoatsAhead_153 : decode cX3_lookAtCoatsAhead 153 = .ok (.getfield 46, 3) := by decide +kernel
theorem dX3_lookAtCoatsAhead_156 : decode cX3_lookAtCoatsAhead 156 = .ok (.getfield 96, 3) := by decide +kernel
theorem dX3_lookAtCoatsAhead_159 : decode cX3_lookAtCoatsAhead 159 = .ok (.iload_n 2, 1) := by decide +kernel
theorem dX3_lookAtCoatsAhead_160 : decode cX3_lookAtCoatsAhead 160 = .ok (.iaload, 1) := by decide +kernel
theorem dX3_lookAtCoatsAhead_161 : decode cX3_lookAtCoatsAhead 161 = .ok (.if_icmp .lt 10, 3) := by decide +kernel
theorem dX3_lookAtCoatsAhead_164 : decode cX3_lookAtCoatsAhead 164 = .ok (.aload_n 0, 1) := by decide +kernel
theorem dX3_lookAtCoatsAhead_165 : decode cX3_lookAtCoatsAhead 165 = .ok (.bipush 7, 2) := by decide +kernel
theorem dX3_lookAtCoatsAhead_167 : decode cX3_lookAtCoatsAhead 167 = .ok (.iload_n 3, 1) := by decide +kernel
theorem dX3_lookAtCoatsAhead_168 : decode cX3_lookAtCoatsAhead 168 = .ok (.invokevirtual 86, 3) := by decide +kernel
theorem dX3_lookAtCoatsAhead_171 : decode cX3_lookAtCoatsAhead 171 = .ok (.return_, 1) := by decide +kernel
set_option maxRecDepth 20000 in
theorem ggX3_lookAtNeeds_X6_shutBy : GoodIn wsX3_lookAtNeeds wsX6_shutBy := goodIn_r _ [7, 8, 9, 10, 11, 12, 6, 13, 14, 15, 16, 17, 18, 19, 46, 47, 48, 49, 50, 51, 52, 53, 54, 55, 56, 57, 58, 59, 60] (by decide +kernel) (by decide +kernel)
set_option maxRecDepth 20000 in
theorem gX3_lookAtNeeds_X6_shutBy : GoodIn wsX3_lookAtNeeds (wsV RX3 42 RX6 yX6_shutBy wsX6_shutBy) := goodIn_app (goodIn_of _ (by decide +kernel)) ggX3_lookAtNeeds_X6_shutBy
set_option maxRecDepth 20000 in
theorem ggX3_lookAtNeeds_X9_barredNeeds : GoodIn wsX3_lookAtNeeds wsX9_barredNeeds := goodIn_r _ [24, 25, 61, 62] (by decide +kernel) (by decide +kernel)
set_option maxRecDepth 20000 in
theorem gX3_lookAtNeeds_X9_barredNeeds : GoodIn wsX3_lookAtNeeds (wsV RX3 99 RX9 yX9_barredNeeds wsX9_barredNeeds) := goodIn_app (goodIn_of _ (by decide +kernel)) ggX3_lookAtNeeds_X9_barredNeeds
set_option maxRecDepth 20000 in
theorem ggX3_lookAtNeeds_X3_needsAt : GoodIn wsX3_lookAtNeeds wsX3_needsAt := goodIn_r _ [29, 30, 31, 32, 33, 34, 35, 54, 55, 56, 57, 58, 59, 60] (by decide +kernel) (by decide +kernel)
set_option maxRecDepth 20000 in
theorem gX3_lookAtNeeds_X3_needsAt : GoodIn wsX3_lookAtNeeds (va_wsS RX3 102 yX3_needsAt wsX3_needsAt) := goodIn_app (goodIn_of _ (by decide +kernel)) ggX3_lookAtNeeds_X3_needsAt
set_option maxRecDepth 20000 in
theorem ggX3_lookAtNeeds_X3_wrong : GoodIn wsX3_lookAtNeeds wsX3_wrong := goodIn_r _ [39, 40, 41, 42, 43, 44, 45] (by decide +kernel) (by decide +kernel)
set_option maxRecDepth 20000 in
theorem gX3_lookAtNeeds_X3_wrong : GoodIn wsX3_lookAtNeeds (wsV RX3 86 RX3 yX3_wrong wsX3_wrong) := goodIn_app (goodIn_of _ (by decide +kernel)) ggX3_lookAtNeeds_X3_wrong
theorem dX3_lookAtNeeds_0 : decode cX3_lookAtNeeds 0 = .ok (.iconst 0, 1) := by decide +kernel
theorem dX3_lookAtNeeds_1 : decode cX3_lookAtNeeds 1 = .ok (.istore_n 1, 1) := by decide +kernel
theorem dX3_lookAtNeeds_2 : decode cX3_lookAtNeeds 2 = .ok (.iload_n 1, 1) := by decide +kernel
theorem dX3_lookAtNeeds_3 : decode cX3_lookAtNeeds 3 = .ok (.bipush 99, 2) := by decide +kernel
theorem dX3_lookAtNeeds_5 : decode cX3_lookAtNeeds 5 = .ok (.if_icmp .gt 58, 3) := by decide +kernel
theorem dX3_lookAtNeeds_8 : decode cX3_lookAtNeeds 8 = .ok (.aload_n 0, 1) := by decide +kernel
theorem dX3_lookAtNeeds_9 : decode cX3_lookAtNeeds 9 = .ok (.getfield 15, 3) := by decide +kernel
theorem dX3_lookAtNeeds_12 : decode cX3_lookAtNeeds 12 = .ok (.aload_n 0, 1) := by decide +kernel
theorem dX3_lookAtNeeds_13 : decode cX3_lookAtNeeds 13 = .ok (.getfield 9, 3) := by decide +kernel
theorem dX3_lookAtNeeds_16 : decode cX3_lookAtNeeds 16 = .ok (.aload_n 0, 1) := by decide +kernel
theorem dX3_lookAtNeeds_17 : decode cX3_lookAtNeeds 17 = .ok (.getfield 9, 3) := by decide +kernel
theorem dX3_lookAtNeeds_20 : decode cX3_lookAtNeeds 20 = .ok (.getfield 19, 3) := by decide +kernel
theorem dX3_lookAtNeeds_23 : decode cX3_lookAtNeeds 23 = .ok (.getfield 25, 3) := by decide +kernel
theorem dX3_lookAtNeeds_26 : decode cX3_lookAtNeeds 26 = .ok (.iload_n 1, 1) := by decide +kernel
theorem dX3_lookAtNeeds_27 : decode cX3_lookAtNeeds 27 = .ok (.invokevirtual 42, 3) := by decide +kernel
theorem dX3_lookAtNeeds_30 : decode cX3_lookAtNeeds 30 = .ok (.invokevirtual 99, 3) := by decide +kernel
theorem dX3_lookAtNeeds_33 : decode cX3_lookAtNeeds 33 = .ok (.istore_n 2, 1) := by decide +kernel
theorem dX3_lookAtNeeds_34 : decode cX3_lookAtNeeds 34 = .ok (.iload_n 2, 1) := by decide +kernel
theorem dX3_lookAtNeeds_35 : decode cX3_lookAtNeeds 35 = .ok (.aload_n 0, 1) := by decide +kernel
theorem dX3_lookAtNeeds_36 : decode cX3_lookAtNeeds 36 = .ok (.getfield 9, 3) := by decide +kernel
theorem dX3_lookAtNeeds_39 : decode cX3_lookAtNeeds 39 = .ok (.getfield 46, 3) := by decide +kernel
theorem dX3_lookAtNeeds_42 : decode cX3_lookAtNeeds 42 = .ok (.iload_n 1, 1) := by decide +kernel
theorem dX3_lookAtNeeds_43 : decode cX3_lookAtNeeds 43 = .ok (.invokestatic 102, 3) := by decide +kernel
theorem dX3_lookAtNeeds_46 : decode cX3_lookAtNeeds 46 = .ok (.iand, 1) := by decide +kernel
theorem dX3_lookAtNeeds_47 : decode cX3_lookAtNeeds 47 = .ok (.ifCond .eq 10, 3) := by decide +kernel
theorem dX3_lookAtNeeds_50 : decode cX3_lookAtNeeds 50 = .ok (.aload_n 0, 1) := by decide +kernel
theorem dX3_lookAtNeeds_51 : decode cX3_lookAtNeeds 51 = .ok (.iconst 3, 1) := by decide +kernel
theorem dX3_lookAtNeeds_52 : decode cX3_lookAtNeeds 52 = .ok (.iload_n 1, 1) := by decide +kernel
theorem dX3_lookAtNeeds_53 : decode cX3_lookAtNeeds 53 = .ok (.invokevirtual 86, 3) := by decide +kernel
theorem dX3_lookAtNeeds_56 : decode cX3_lookAtNeeds 56 = .ok (.return_, 1) := by decide +kernel
theorem dX3_lookAtNeeds_57 : decode cX3_lookAtNeeds 57 = .ok (.iinc 1 1, 3) := by decide +kernel
theorem dX3_lookAtNeeds_60 : decode cX3_lookAtNeeds 60 = .ok (.goto (-58), 3) := by decide +kernel
theorem dX3_lookAtNeeds_63 : decode cX3_lookAtNeeds 63 = .ok (.return_, 1) := by decide +kernel
set_option maxRecDepth 20000 in
theorem ggX3_lookAtCoatsLacking_X3_wrong : GoodIn wsX3_lookAtCoatsLacking wsX3_wrong := goodIn_r _ [6, 7, 8, 9, 10, 11, 12] (by decide +kernel) (by decide +kernel)
set_option maxRecDepth 20000 in
theorem gX3_lookAtCoatsLacking_X3_wrong : GoodIn wsX3_lookAtCoatsLacking (wsV RX3 86 RX3 yX3_wrong wsX3_wrong) := goodIn_app (goodIn_of _ (by decide +kernel)) ggX3_lookAtCoatsLacking_X3_wrong
theorem dX3_lookAtCoatsLacking_0 : decode cX3_lookAtCoatsLacking 0 = .ok (.iconst 1, 1) := by decide +kernel
theorem dX3_lookAtCoatsLacking_1 : decode cX3_lookAtCoatsLacking 1 = .ok (.istore_n 1, 1) := by decide +kernel
theorem dX3_lookAtCoatsLacking_2 : decode cX3_lookAtCoatsLacking 2 = .ok (.iload_n 1, 1) := by decide +kernel
theorem dX3_lookAtCoatsLacking_3 : decode cX3_lookAtCoatsLacking 3 = .ok (.aload_n 0, 1) := by decide +kernel
theorem dX3_lookAtCoatsLacking_4 : decode cX3_lookAtCoatsLacking 4 = .ok (.getfield 9, 3) := by decide +kernel
theorem dX3_lookAtCoatsLacking_7 : decode cX3_lookAtCoatsLacking 7 = .ok (.getfield 46, 3) := by decide +kernel
theorem dX3_lookAtCoatsLacking_10 : decode cX3_lookAtCoatsLacking 10 = .ok (.getfield 106, 3) := by decide +kernel
theorem dX3_lookAtCoatsLacking_13 : decode cX3_lookAtCoatsLacking 13 = .ok (.if_icmp .gt 76, 3) := by decide +kernel
theorem dX3_lookAtCoatsLacking_16 : decode cX3_lookAtCoatsLacking 16 = .ok (.iconst 0, 1) := by decide +kernel
theorem dX3_lookAtCoatsLacking_17 : decode cX3_lookAtCoatsLacking 17 = .ok (.istore_n 2, 1) := by decide +kernel
theorem dX3_lookAtCoatsLacking_18 : decode cX3_lookAtCoatsLacking 18 = .ok (.iconst 0, 1) := by decide +kernel
theorem dX3_lookAtCoatsLacking_19 : decode cX3_lookAtCoatsLacking 19 = .ok (.istore_n 3, 1) := by decide +kernel
theorem dX3_lookAtCoatsLacking_20 : decode cX3_lookAtCoatsLacking 20 = .ok (.iload_n 3, 1) := by decide +kernel
theorem dX3_lookAtCoatsLacking_21 : decode cX3_lookAtCoatsLacking 21 = .ok (.aload_n 0, 1) := by decide +kernel
theorem dX3_lookAtCoatsLacking_22 : decode cX3_lookAtCoatsLacking 22 = .ok (.getfield 9, 3) := by decide +kernel
theorem dX3_lookAtCoatsLacking_25 : decode cX3_lookAtCoatsLacking 25 = .ok (.getfield 19, 3) := by decide +kernel
theorem dX3_lookAtCoatsLacking_28 : decode cX3_lookAtCoatsLacking 28 = .ok (.getfield 25, 3) := by decide +kernel
theorem dX3_lookAtCoatsLacking_31 : decode cX3_lookAtCoatsLacking 31 = .ok (.if_icmp .ge 28, 3) := by decide +kernel
theorem dX3_lookAtCoatsLacking_34 : decode cX3_lookAtCoatsLacking 34 = .ok (.aload_n 0, 1) := by decide +kernel
theorem dX3_lookAtCoatsLacking_35 : decode cX3_lookAtCoatsLacking 35 = .ok (.getfield 9, 3) := by decide +kernel
theorem dX3_lookAtCoatsLacking_38 : decode cX3_lookAtCoatsLacking 38 = .ok (.getfield 19, 3) := by decide +kernel
theorem dX3_lookAtCoatsLacking_41 : decode cX3_lookAtCoatsLacking 41 = .ok (.getfield 35, 3) := by decide +kernel
theorem dX3_lookAtCoatsLacking_44 : decode cX3_lookAtCoatsLacking 44 = .ok (.iload_n 3, 1) := by decide +kernel
theorem dX3_lookAtCoatsLacking_45 : decode cX3_lookAtCoatsLacking 45 = .ok (.iaload, 1) := by decide +kernel
theorem dX3_lookAtCoatsLacking_46 : decode cX3_lookAtCoatsLacking 46 = .ok (.iload_n 1, 1) := by decide +kernel
theorem dX3_lookAtCoatsLacking_47 : decode cX3_lookAtCoatsLacking 47 = .ok (.if_icmp .ne 6, 3) := by decide +kernel
theorem dX3_lookAtCoatsLacking_50 : decode cX3_lookAtCoatsLacking 50 = .ok (.iinc 2 1, 3) := by decide +kernel
theorem dX3_lookAtCoatsLacking_53 : decode cX3_lookAtCoatsLacking 53 = .ok (.iinc 3 1, 3) := by decide +kernel
theorem dX3_lookAtCoatsLacking_56 : decode cX3_lookAtCoatsLacking 56 = .ok (.goto (-36), 3) := by decide +kernel
theorem dX3_lookAtCoatsLacking_59 : decode cX3_lookAtCoatsLacking 59 = .ok (.iload_n 2, 1) := by decide +kernel
theorem dX3_lookAtCoatsLacking_60 : decode cX3_lookAtCoatsLacking 60 = .ok (.aload_n 0, 1) := by decide +kernel
theorem dX3_lookAtCoatsLacking_61 : decode cX3_lookAtCoatsLacking 61 = .ok (.getfield 9, 3) := by decide +kernel
theorem dX3_lookAtCoatsLacking_64 : decode cX3_lookAtCoatsLacking 64 = .ok (.getfield 46, 3) := by decide +kernel
theorem dX3_lookAtCoatsLacking_67 : decode cX3_lookAtCoatsLacking 67 = .ok (.getfield 96, 3) := by decide +kernel
theorem dX3_lookAtCoatsLacking_70 : decode cX3_lookAtCoatsLacking 70 = .ok (.iload_n 1, 1) := by decide +kernel
theorem dX3_lookAtCoatsLacking_71 : decode cX3_lookAtCoatsLacking 71 = .ok (.iaload, 1) := by decide +kernel
theorem dX3_lookAtCoatsLacking_72 : decode cX3_lookAtCoatsLacking 72 = .ok (.if_icmp .ge 11, 3) := by decide +kernel
theorem dX3_lookAtCoatsLacking_75 : decode cX3_lookAtCoatsLacking 75 = .ok (.aload_n 0, 1) := by decide +kernel
theorem dX3_lookAtCoatsLacking_76 : decode cX3_lookAtCoatsLacking 76 = .ok (.bipush 8, 2) := by decide +kernel
theorem dX3_lookAtCoatsLacking_78 : decode cX3_lookAtCoatsLacking 78 = .ok (.bipush 99, 2) := by decide +kernel
theorem dX3_lookAtCoatsLacking_80 : decode cX3_lookAtCoatsLacking 80 = .ok (.invokevirtual 86, 3) := by decide +kernel
theorem dX3_lookAtCoatsLacking_83 : decode cX3_lookAtCoatsLacking 83 = .ok (.iinc 1 1, 3) := by decide +kernel
theorem dX3_lookAtCoatsLacking_86 : decode cX3_lookAtCoatsLacking 86 = .ok (.goto (-84), 3) := by decide +kernel
theorem dX3_lookAtCoatsLacking_89 : decode cX3_lookAtCoatsLacking 89 = .ok (.return_, 1) := by decide +kernel
set_option maxRecDepth 20000 in
theorem ggX3_needsAt_X1_needPart : GoodIn wsX3_needsAt wsX1_needPart := goodIn_r _ [5, 6, 7, 8, 9, 10, 11, 12, 13] (by decide +kernel) (by decide +kernel)
set_option maxRecDepth 20000 in
theorem gX3_needsAt_X1_needPart : GoodIn wsX3_needsAt (wsV RX3 111 RX1 yX1_needPart wsX1_needPart) := goodIn_app (goodIn_of _ (by decide +kernel)) ggX3_needsAt_X1_needPart
theorem dX3_needsAt_0 : decode cX3_needsAt 0 = .ok (.iconst 0, 1) := by decide +kernel
theorem dX3_needsAt_1 : decode cX3_needsAt 1 = .ok (.istore_n 2, 1) := by decide +kernel
theorem dX3_needsAt_2 : decode cX3_needsAt 2 = .ok (.iconst 0, 1) := by decide +kernel
theorem dX3_needsAt_3 : decode cX3_needsAt 3 = .ok (.istore_n 3, 1) := by decide +kernel
theorem dX3_needsAt_4 : decode cX3_needsAt 4 = .ok (.iload_n 3, 1) := by decide +kernel
theorem dX3_needsAt_5 : decode cX3_needsAt 5 = .ok (.aload_n 0, 1) := by decide +kernel
theorem dX3_needsAt_6 : decode cX3_needsAt 6 = .ok (.getfield 108, 3) := by decide +kernel
theorem dX3_needsAt_9 : decode cX3_needsAt 9 = .ok (.if_icmp .ge 35, 3) := by decide +kernel
theorem dX3_needsAt_12 : decode cX3_needsAt 12 = .ok (.aload_n 0, 1) := by decide +kernel
theorem dX3_needsAt_13 : decode cX3_needsAt 13 = .ok (.iload_n 3, 1) := by decide +kernel
theorem dX3_needsAt_14 : decode cX3_needsAt 14 = .ok (.iconst 2, 1) := by decide +kernel
theorem dX3_needsAt_15 : decode cX3_needsAt 15 = .ok (.invokevirtual 111, 3) := by decide +kernel
theorem dX3_needsAt_18 : decode cX3_needsAt 18 = .ok (.iload_n 1, 1) := by decide +kernel
theorem dX3_needsAt_19 : decode cX3_needsAt 19 = .ok (.if_icmp .gt 19, 3) := by decide +kernel
theorem dX3_needsAt_22 : decode cX3_needsAt 22 = .ok (.iload_n 1, 1) := by decide +kernel
theorem dX3_needsAt_23 : decode cX3_needsAt 23 = .ok (.aload_n 0, 1) := by decide +kernel
theorem dX3_needsAt_24 : decode cX3_needsAt 24 = .ok (.iload_n 3, 1) := by decide +kernel
theorem dX3_needsAt_25 : decode cX3_needsAt 25 = .ok (.iconst 3, 1) := by decide +kernel
theorem dX3_needsAt_26 : decode cX3_needsAt 26 = .ok (.invokevirtual 111, 3) := by decide +kernel
theorem dX3_needsAt_29 : decode cX3_needsAt 29 = .ok (.if_icmp .gt 9, 3) := by decide +kernel
theorem dX3_needsAt_32 : decode cX3_needsAt 32 = .ok (.iload_n 2, 1) := by decide +kernel
theorem dX3_needsAt_33 : decode cX3_needsAt 33 = .ok (.iconst 1, 1) := by decide +kernel
theorem dX3_needsAt_34 : decode cX3_needsAt 34 = .ok (.iload_n 3, 1) := by decide +kernel
theorem dX3_needsAt_35 : decode cX3_needsAt 35 = .ok (.ishl, 1) := by decide +kernel
theorem dX3_needsAt_36 : decode cX3_needsAt 36 = .ok (.ior, 1) := by decide +kernel
theorem dX3_needsAt_37 : decode cX3_needsAt 37 = .ok (.istore_n 2, 1) := by decide +kernel
theorem dX3_needsAt_38 : decode cX3_needsAt 38 = .ok (.iinc 3 1, 3) := by decide +kernel
