set_option maxRecDepth 20000 in
theorem ggX8_init_X0_init : GoodIn wsX8_init wsX0_init := goodIn_r _ [35, 36, 2, 3, 12, 37, 38, 39, 40, 41, 83, 84, 85, 86, 87] (by decide +kernel) (by decide +kernel)
set_option maxRecDepth 20000 in
theorem gX8_init_X0_init_n15 : GoodIn wsX8_init (wsX0_init) := ggX8_init_X0_init
set_option maxRecDepth 20000 in
theorem ggX8_init_X3_init : GoodIn wsX8_init wsX3_init := goodIn_r _ [43, 44, 2, 3, 12, 45, 46, 88, 89, 90] (by decide +kernel) (by decide +kernel)
set_option maxRecDepth 20000 in
theorem gX8_init_X3_init_n18 : GoodIn wsX8_init (wsX3_init) := ggX8_init_X3_init
set_option maxRecDepth 20000 in
theorem ggX8_init_X5_init : GoodIn wsX8_init wsX5_init := goodIn_r _ [48, 49, 2, 3, 50, 51, 12, 52, 53, 91, 92, 93, 94] (by decide +kernel) (by decide +kernel)
set_option maxRecDepth 20000 in
theorem gX8_init_X5_init_n29 : GoodIn wsX8_init (wsX5_init) := ggX8_init_X5_init
set_option maxRecDepth 20000 in
theorem ggX8_init_X4_init : GoodIn wsX8_init wsX4_init := goodIn_r _ [55, 56, 2, 3, 57, 58, 12, 59, 60, 95, 96, 97, 98, 99] (by decide +kernel) (by decide +kernel)
set_option maxRecDepth 20000 in
theorem gX8_init_X4_init_n36 : GoodIn wsX8_init (wsX4_init) := ggX8_init_X4_init
set_option maxRecDepth 20000 in
theorem ggX8_init_X7_init : GoodIn wsX8_init wsX7_init := goodIn_r _ [62, 63, 2, 3] (by decide +kernel) (by decide +kernel)
set_option maxRecDepth 20000 in
theorem gX8_init_X7_init_n43 : GoodIn wsX8_init (wsX7_init) := ggX8_init_X7_init
set_option maxRecDepth 20000 in
theorem ggX8_init_X1_init : GoodIn wsX8_init wsX1_init := goodIn_r _ [65, 66, 2, 3, 57, 67, 68, 105, 106, 107] (by decide +kernel) (by decide +kernel)
set_option maxRecDepth 20000 in
theorem gX8_init_X1_init_n50 : GoodIn wsX8_init (wsX1_init) := ggX8_init_X1_init
set_option maxRecDepth 20000 in
theorem ggX8_init_X6_init : GoodIn wsX8_init wsX6_init := goodIn_r _ [70, 71, 2, 3] (by decide +kernel) (by decide +kernel)
set_option maxRecDepth 20000 in
theorem gX8_init_X6_init_n57 : GoodIn wsX8_init (wsX6_init) := ggX8_init_X6_init
theorem dX8_init_0 : decode cX8_init 0 = .ok (.aload_n 0, 1) := by decide +kernel
theorem dX8_init_1 : decode cX8_init 1 = .ok (.invokespecial 3, 3) := by decide +kernel
theorem dX8_init_4 : decode cX8_init 4 = .ok (.aload_n 0, 1) := by decide +kernel
theorem dX8_init_5 : decode cX8_init 5 = .ok (.bipush 10, 2) := by decide +kernel
theorem dX8_init_7 : decode cX8_init 7 = .ok (.anewarray 9, 3) := by decide +kernel
theorem dX8_init_10 : decode cX8_init 10 = .ok (.putfield 11, 3) := by decide +kernel
theorem dX8_init_13 : decode cX8_init 13 = .ok (.iconst 0, 1) := by decide +kernel
theorem dX8_init_14 : decode cX8_init 14 = .ok (.istore_n 1, 1) := by decide +kernel
theorem dX8_init_15 : decode cX8_init 15 = .ok (.iload_n 1, 1) := by decide +kernel
theorem dX8_init_16 : decode cX8_init 16 = .ok (.bipush 10, 2) := by decide +kernel
theorem dX8_init_18 : decode cX8_init 18 = .ok (.if_icmp .ge 22, 3) := by decide +kernel
theorem dX8_init_21 : decode cX8_init 21 = .ok (.aload_n 0, 1) := by decide +kernel
theorem dX8_init_22 : decode cX8_init 22 = .ok (.getfield 11, 3) := by decide +kernel
theorem dX8_init_25 : decode cX8_init 25 = .ok (.iload_n 1, 1) := by decide +kernel
theorem dX8_init_26 : decode cX8_init 26 = .ok (.new 9, 3) := by decide +kernel
theorem dX8_init_29 : decode cX8_init 29 = .ok (.dup, 1) := by decide +kernel
theorem dX8_init_30 : decode cX8_init 30 = .ok (.invokespecial 15, 3) := by decide +kernel
theorem dX8_init_33 : decode cX8_init 33 = .ok (.aastore, 1) := by decide +kernel
theorem dX8_init_34 : decode cX8_init 34 = .ok (.iinc 1 1, 3) := by decide +kernel
theorem dX8_init_37 : decode cX8_init 37 = .ok (.goto (-22), 3) := by decide +kernel
theorem dX8_init_40 : decode cX8_init 40 = .ok (.aload_n 0, 1) := by decide +kernel
theorem dX8_init_41 : decode cX8_init 41 = .ok (.new 16, 3) := by decide +kernel
theorem dX8_init_44 : decode cX8_init 44 = .ok (.dup, 1) := by decide +kernel
theorem dX8_init_45 : decode cX8_init 45 = .ok (.invokespecial 18, 3) := by decide +kernel
theorem dX8_init_48 : decode cX8_init 48 = .ok (.putfield 19, 3) := by decide +kernel
theorem dX8_init_51 : decode cX8_init 51 = .ok (.aload_n 0, 1) := by decide +kernel
theorem dX8_init_52 : decode cX8_init 52 = .ok (.bipush 92, 2) := by decide +kernel
theorem dX8_init_54 : decode cX8_init 54 = .ok (.newarray .int, 2) := by decide +kernel
theorem dX8_init_56 : decode cX8_init 56 = .ok (.putfield 23, 3) := by decide +kernel
theorem dX8_init_59 : decode cX8_init 59 = .ok (.aload_n 0, 1) := by decide +kernel
theorem dX8_init_60 : decode cX8_init 60 = .ok (.new 27, 3) := by decide +kernel
theorem dX8_init_63 : decode cX8_init 63 = .ok (.dup, 1) := by decide +kernel
theorem dX8_init_64 : decode cX8_init 64 = .ok (.invokespecial 29, 3) := by decide +kernel
theorem dX8_init_67 : decode cX8_init 67 = .ok (.putfield 30, 3) := by decide +kernel
theorem dX8_init_70 : decode cX8_init 70 = .ok (.aload_n 0, 1) := by decide +kernel
theorem dX8_init_71 : decode cX8_init 71 = .ok (.new 34, 3) := by decide +kernel
theorem dX8_init_74 : decode cX8_init 74 = .ok (.dup, 1) := by decide +kernel
theorem dX8_init_75 : decode cX8_init 75 = .ok (.invokespecial 36, 3) := by decide +kernel
theorem dX8_init_78 : decode cX8_init 78 = .ok (.putfield 37, 3) := by decide +kernel
theorem dX8_init_81 : decode cX8_init 81 = .ok (.aload_n 0, 1) := by decide +kernel
theorem dX8_init_82 : decode cX8_init 82 = .ok (.new 41, 3) := by decide +kernel
theorem dX8_init_85 : decode cX8_init 85 = .ok (.dup, 1) := by decide +kernel
theorem dX8_init_86 : decode cX8_init 86 = .ok (.invokespecial 43, 3) := by decide +kernel
theorem dX8_init_89 : decode cX8_init 89 = .ok (.putfield 44, 3) := by decide +kernel
theorem dX8_init_92 : decode cX8_init 92 = .ok (.aload_n 0, 1) := by decide +kernel
theorem dX8_init_93 : decode cX8_init 93 = .ok (.new 48, 3) := by decide +kernel
theorem dX8_init_96 : decode cX8_init 96 = .ok (.dup, 1) := by decide +kernel
theorem dX8_init_97 : decode cX8_init 97 = .ok (.invokespecial 50, 3) := by decide +kernel
theorem dX8_init_100 : decode cX8_init 100 = .ok (.putfield 51, 3) := by decide +kernel
theorem dX8_init_103 : decode cX8_init 103 = .ok (.aload_n 0, 1) := by decide +kernel
theorem dX8_init_104 : decode cX8_init 104 = .ok (.new 55, 3) := by decide +kernel
theorem dX8_init_107 : decode cX8_init 107 = .ok (.dup, 1) := by decide +kernel
theorem dX8_init_108 : decode cX8_init 108 = .ok (.invokespecial 57, 3) := by decide +kernel
theorem dX8_init_111 : decode cX8_init 111 = .ok (.putfield 58, 3) := by decide +kernel
theorem dX8_init_114 : decode cX8_init 114 = .ok (.return_, 1) := by decide +kernel
set_option maxRecDepth 20000 in
theorem ggX8_point_X8_isFromTo : GoodIn wsX8_point wsX8_isFromTo := goodIn_r _ [9] (by decide +kernel) (by decide +kernel)
set_option maxRecDepth 20000 in
theorem gX8_point_X8_isFromTo : GoodIn wsX8_point (va_wsS RX8 62 yX8_isFromTo wsX8_isFromTo) := goodIn_app (goodIn_of _ (by decide +kernel)) ggX8_point_X8_isFromTo
set_option maxRecDepth 20000 in
theorem ggX8_point_X0_begin : GoodIn wsX8_point wsX0_begin := goodIn_r _ [13, 14, 15, 16, 17, 18, 30, 31, 32, 33, 34] (by decide +kernel) (by decide +kernel)
set_option maxRecDepth 20000 in
theorem gX8_point_X0_begin_n75 : GoodIn wsX8_point (wsX0_begin) := ggX8_point_X0_begin
theorem dX8_point_0 : decode cX8_point 0 = .ok (.iload_n 1, 1) := by decide +kernel
theorem dX8_point_1 : decode cX8_point 1 = .ok (.sipush (-1000), 3) := by decide +kernel
theorem dX8_point_4 : decode cX8_point 4 = .ok (.sipush 1000, 3) := by decide +kernel
theorem dX8_point_7 : decode cX8_point 7 = .ok (.invokestatic 62, 3) := by decide +kernel
theorem dX8_point_10 : decode cX8_point 10 = .ok (.ifCond .eq 14, 3) := by decide +kernel
theorem dX8_point_13 : decode cX8_point 13 = .ok (.iload_n 2, 1) := by decide +kernel
theorem dX8_point_14 : decode cX8_point 14 = .ok (.bipush (-50), 2) := by decide +kernel
theorem dX8_point_16 : decode cX8_point 16 = .ok (.bipush 50, 2) := by decide +kernel
theorem dX8_point_18 : decode cX8_point 18 = .ok (.invokestatic 62, 3) := by decide +kernel
theorem dX8_point_21 : decode cX8_point 21 = .ok (.ifCond .ne 6, 3) := by decide +kernel
theorem dX8_point_24 : decode cX8_point 24 = .ok (.ldc 66, 2) := by decide +kernel
theorem dX8_point_26 : decode cX8_point 26 = .ok (.ireturn, 1) := by decide +kernel
theorem dX8_point_27 : decode cX8_point 27 = .ok (.aload_n 0, 1) := by decide +kernel
theorem dX8_point_28 : decode cX8_point 28 = .ok (.getfield 67, 3) := by decide +kernel
theorem dX8_point_31 : decode cX8_point 31 = .ok (.bipush 10, 2) := by decide +kernel
theorem dX8_point_33 : decode cX8_point 33 = .ok (.if_icmp .lt 6, 3) := by decide +kernel
theorem dX8_point_36 : decode cX8_point 36 = .ok (.ldc 71, 2) := by decide +kernel
theorem dX8_point_38 : decode cX8_point 38 = .ok (.ireturn, 1) := by decide +kernel
theorem dX8_point_39 : decode cX8_point 39 = .ok (.aload_n 0, 1) := by decide +kernel
theorem dX8_point_40 : decode cX8_point 40 = .ok (.getfield 11, 3) := by decide +kernel
theorem dX8_point_43 : decode cX8_point 43 = .ok (.aload_n 0, 1) := by decide +kernel
theorem dX8_point_44 : decode cX8_point 44 = .ok (.getfield 67, 3) := by decide +kernel
theorem dX8_point_47 : decode cX8_point 47 = .ok (.aaload, 1) := by decide +kernel
theorem dX8_point_48 : decode cX8_point 48 = .ok (.aload_n 0, 1) := by decide +kernel
theorem dX8_point_49 : decode cX8_point 49 = .ok (.getfield 72, 3) := by decide +kernel
theorem dX8_point_52 : decode cX8_point 52 = .ok (.iload_n 1, 1) := by decide +kernel
theorem dX8_point_53 : decode cX8_point 53 = .ok (.iload_n 2, 1) := by decide +kernel
theorem dX8_point_54 : decode cX8_point 54 = .ok (.invokevirtual 75, 3) := by decide +kernel
theorem dX8_point_57 : decode cX8_point 57 = .ok (.aload_n 0, 1) := by decide +kernel
theorem dX8_point_58 : decode cX8_point 58 = .ok (.dup, 1) := by decide +kernel
theorem dX8_point_59 : decode cX8_point 59 = .ok (.getfield 67, 3) := by decide +kernel
theorem dX8_point_62 : decode cX8_point 62 = .ok (.iconst 1, 1) := by decide +kernel
theorem dX8_point_63 : decode cX8_point 63 = .ok (.iadd, 1) := by decide +kernel
theorem dX8_point_64 : decode cX8_point 64 = .ok (.putfield 67, 3) := by decide +kernel
theorem dX8_point_67 : decode cX8_point 67 = .ok (.aload_n 0, 1) := by decide +kernel
theorem dX8_point_68 : decode cX8_point 68 = .ok (.getfield 67, 3) := by decide +kernel
theorem dX8_point_71 : decode cX8_point 71 = .ok (.iconst 1, 1) := by decide +kernel
theorem dX8_point_72 : decode cX8_point 72 = .ok (.isub, 1) := by decide +kernel
theorem dX8_point_73 : decode cX8_point 73 = .ok (.ireturn, 1) := by decide +kernel
set_option maxRecDepth 20000 in
theorem ggX8_speed_X8_isKnown : GoodIn wsX8_speed wsX8_isKnown := goodIn_r _ [11, 12, 46, 47, 48, 49, 50, 51, 52, 53, 54, 55, 56] (by decide +kernel) (by decide +kernel)
set_option maxRecDepth 20000 in
theorem gX8_speed_X8_isKnown : GoodIn wsX8_speed (wsV RX8 79 RX8 yX8_isKnown wsX8_isKnown) := goodIn_app (goodIn_of _ (by decide +kernel)) ggX8_speed_X8_isKnown
set_option maxRecDepth 20000 in
theorem ggX8_speed_X8_isFromTo : GoodIn wsX8_speed wsX8_isFromTo := goodIn_r _ [15] (by decide +kernel) (by decide +kernel)
set_option maxRecDepth 20000 in
theorem gX8_speed_X8_isFromTo : GoodIn wsX8_speed (va_wsS RX8 62 yX8_isFromTo wsX8_isFromTo) := goodIn_app (goodIn_of _ (by decide +kernel)) ggX8_speed_X8_isFromTo
set_option maxRecDepth 20000 in
theorem ggX8_speed_X0_isStopped : GoodIn wsX8_speed wsX0_isStopped := goodIn_r _ [19, 20, 57, 58, 59, 60, 61] (by decide +kernel) (by decide +kernel)
set_option maxRecDepth 20000 in
theorem gX8_speed_X0_isStopped_n84 : GoodIn wsX8_speed (wsX0_isStopped) := ggX8_speed_X0_isStopped
set_option maxRecDepth 20000 in
theorem ggX8_speed_X0_canTurn : GoodIn wsX8_speed wsX0_canTurn := goodIn_r _ [23, 24, 25, 57, 58, 59, 60, 61] (by decide +kernel) (by decide +kernel)
set_option maxRecDepth 20000 in
theorem gX8_speed_X0_canTurn_n89 : GoodIn wsX8_speed (wsX0_canTurn) := ggX8_speed_X0_canTurn
set_option maxRecDepth 20000 in
theorem ggX8_speed_X0_latestSpeed : GoodIn wsX8_speed wsX0_latestSpeed := goodIn_r _ [28, 29, 24, 57, 58, 59, 60, 61] (by decide +kernel) (by decide +kernel)
set_option maxRecDepth 20000 in
theorem gX8_speed_X0_latestSpeed_n92 : GoodIn wsX8_speed (wsX0_latestSpeed) := ggX8_speed_X0_latestSpeed
set_option maxRecDepth 20000 in
theorem ggX8_speed_X0_turn : GoodIn wsX8_speed wsX0_turn := goodIn_r _ [32, 25, 24, 33, 29, 34, 35, 36, 17, 37, 38, 39, 40, 41, 42, 43, 44, 45, 57, 58, 59, 60, 61] (by decide +kernel) (by decide +kernel)
set_option maxRecDepth 20000 in
theorem gX8_speed_X0_turn_n96 : GoodIn wsX8_speed (wsX0_turn) := ggX8_speed_X0_turn
theorem dX8_speed_0 : decode cX8_speed 0 = .ok (.aload_n 0, 1) := by decide +kernel
theorem dX8_speed_1 : decode cX8_speed 1 = .ok (.iload_n 1, 1) := by decide +kernel
theorem dX8_speed_2 : decode cX8_speed 2 = .ok (.invokevirtual 79, 3) := by decide +kernel
theorem dX8_speed_5 : decode cX8_speed 5 = .ok (.ifCond .ne 6, 3) := by decide +kernel
theorem dX8_speed_8 : decode cX8_speed 8 = .ok (.ldc 83, 2) := by decide +kernel
theorem dX8_speed_10 : decode cX8_speed 10 = .ok (.ireturn, 1) := by decide +kernel
theorem dX8_speed_11 : decode cX8_speed 11 = .ok (.iload_n 2, 1) := by decide +kernel
theorem dX8_speed_12 : decode cX8_speed 12 = .ok (.bipush (-50), 2) := by decide +kernel
theorem dX8_speed_14 : decode cX8_speed 14 = .ok (.bipush 50, 2) := by decide +kernel
theorem dX8_speed_16 : decode cX8_speed 16 = .ok (.invokestatic 62, 3) := by decide +kernel
theorem dX8_speed_19 : decode cX8_speed 19 = .ok (.ifCond .ne 6, 3) := by decide +kernel
theorem dX8_speed_22 : decode cX8_speed 22 = .ok (.ldc 66, 2) := by decide +kernel
theorem dX8_speed_24 : decode cX8_speed 24 = .ok (.ireturn, 1) := by decide +kernel
theorem dX8_speed_25 : decode cX8_speed 25 = .ok (.aload_n 0, 1) := by decide +kernel
theorem dX8_speed_26 : decode cX8_speed 26 = .ok (.getfield 11, 3) := by decide +kernel
theorem dX8_speed_29 : decode cX8_speed 29 = .ok (.iload_n 1, 1) := by decide +kernel
theorem dX8_speed_30 : decode cX8_speed 30 = .ok (.aaload, 1) := by decide +kernel
theorem dX8_speed_31 : decode cX8_speed 31 = .ok (.astore_n 3, 1) := by decide +kernel
theorem dX8_speed_32 : decode cX8_speed 32 = .ok (.aload_n 3, 1) := by decide +kernel
theorem dX8_speed_33 : decode cX8_speed 33 = .ok (.invokevirtual 84, 3) := by decide +kernel
theorem dX8_speed_36 : decode cX8_speed 36 = .ok (.ifCond .eq 6, 3) := by decide +kernel
theorem dX8_speed_39 : decode cX8_speed 39 = .ok (.ldc 88, 2) := by decide +kernel
theorem dX8_speed_41 : decode cX8_speed 41 = .ok (.ireturn, 1) := by decide +kernel
theorem dX8_speed_42 : decode cX8_speed 42 = .ok (.aload_n 3, 1) := by decide +kernel
theorem dX8_speed_43 : decode cX8_speed 43 = .ok (.aload_n 0, 1) := by decide +kernel
theorem dX8_speed_44 : decode cX8_speed 44 = .ok (.getfield 72, 3) := by decide +kernel
theorem dX8_speed_47 : decode cX8_speed 47 = .ok (.invokevirtual 89, 3) := by decide +kernel
theorem dX8_speed_50 : decode cX8_speed 50 = .ok (.ifCond .ne 6, 3) := by decide +kernel
theorem dX8_speed_53 : decode cX8_speed 53 = .ok (.ldc 71, 2) := by decide +kernel
theorem dX8_speed_55 : decode cX8_speed 55 = .ok (.ireturn, 1) := by decide +kernel
theorem dX8_speed_56 : decode cX8_speed 56 = .ok (.aload_n 3, 1) := by decide +kernel
theorem dX8_speed_57 : decode cX8_speed 57 = .ok (.invokevirtual 92, 3) := by decide +kernel
theorem dX8_speed_60 : decode cX8_speed 60 = .ok (.istore 4, 2) := by decide +kernel
theorem dX8_speed_62 : decode cX8_speed 62 = .ok (.aload_n 3, 1) := by decide +kernel
theorem dX8_speed_63 : decode cX8_speed 63 = .ok (.aload_n 0, 1) := by decide +kernel
theorem dX8_speed_64 : decode cX8_speed 64 = .ok (.getfield 72, 3) := by decide +kernel
theorem dX8_speed_67 : decode cX8_speed 67 = .ok (.iload_n 2, 1) := by decide +kernel
theorem dX8_speed_68 : decode cX8_speed 68 = .ok (.invokevirtual 96, 3) := by decide +kernel
theorem dX8_speed_71 : decode cX8_speed 71 = .ok (.iload 4, 2) := by decide +kernel
theorem dX8_speed_73 : decode cX8_speed 73 = .ok (.ireturn, 1) := by decide +kernel
set_option maxRecDepth 20000 in
theorem ggX8_gone_X8_isKnown : GoodIn wsX8_gone wsX8_isKnown := goodIn_r _ [9, 10, 23, 24, 25, 26, 27, 28, 29, 30, 31, 32, 33] (by decide +kernel) (by decide +kernel)
set_option maxRecDepth 20000 in
theorem gX8_gone_X8_isKnown : GoodIn wsX8_gone (wsV RX8 79 RX8 yX8_isKnown wsX8_isKnown) := goodIn_app (goodIn_of _ (by decide +kernel)) ggX8_gone_X8_isKnown
set_option maxRecDepth 20000 in
theorem ggX8_gone_X0_isStopped : GoodIn wsX8_gone wsX0_isStopped := goodIn_r _ [14, 15, 34, 35, 36, 37, 38] (by decide +kernel) (by decide +kernel)
set_option maxRecDepth 20000 in
theorem gX8_gone_X0_isStopped_n84 : GoodIn wsX8_gone (wsX0_isStopped) := ggX8_gone_X0_isStopped
set_option maxRecDepth 20000 in
theorem ggX8_gone_X0_began : GoodIn wsX8_gone wsX0_began := goodIn_r _ [18, 19, 34, 35, 36, 37, 38] (by decide +kernel) (by decide +kernel)
set_option maxRecDepth 20000 in
theorem gX8_gone_X0_began_n100 : GoodIn wsX8_gone (wsX0_began) := ggX8_gone_X0_began
set_option maxRecDepth 20000 in
theorem ggX8_gone_X0_stop : GoodIn wsX8_gone wsX0_stop := goodIn_r _ [22, 15, 34, 35, 36, 37, 38] (by decide +kernel) (by decide +kernel)
set_option maxRecDepth 20000 in
theorem gX8_gone_X0_stop_n103 : GoodIn wsX8_gone (wsX0_stop) := ggX8_gone_X0_stop
theorem dX8_gone_0 : decode cX8_gone 0 = .ok (.aload_n 0, 1) := by decide +kernel
theorem dX8_gone_1 : decode cX8_gone 1 = .ok (.iload_n 1, 1) := by decide +kernel
theorem dX8_gone_2 : decode cX8_gone 2 = .ok (.invokevirtual 79, 3) := by decide +kernel
theorem dX8_gone_5 : decode cX8_gone 5 = .ok (.ifCond .ne 6, 3) := by decide +kernel
theorem dX8_gone_8 : decode cX8_gone 8 = .ok (.ldc 83, 2) := by decide +kernel
theorem dX8_gone_10 : decode cX8_gone 10 = .ok (.ireturn, 1) := by decide +kernel
theorem dX8_gone_11 : decode cX8_gone 11 = .ok (.aload_n 0, 1) := by decide +kernel
theorem dX8_gone_12 : decode cX8_gone 12 = .ok (.getfield 11, 3) := by decide +kernel
theorem dX8_gone_15 : decode cX8_gone 15 = .ok (.iload_n 1, 1) := by decide +kernel
theorem dX8_gone_16 : decode cX8_gone 16 = .ok (.aaload, 1) := by decide +kernel
theorem dX8_gone_17 : decode cX8_gone 17 = .ok (.astore_n 2, 1) := by decide +kernel
theorem dX8_gone_18 : decode cX8_gone 18 = .ok (.aload_n 2, 1) := by decide +kernel
theorem dX8_gone_19 : decode cX8_gone 19 = .ok (.invokevirtual 84, 3) := by decide +kernel
theorem dX8_gone_22 : decode cX8_gone 22 = .ok (.ifCond .ne 14, 3) := by decide +kernel
theorem dX8_gone_25 : decode cX8_gone 25 = .ok (.aload_n 2, 1) := by decide +kernel
theorem dX8_gone_26 : decode cX8_gone 26 = .ok (.invokevirtual 100, 3) := by decide +kernel
theorem dX8_gone_29 : decode cX8_gone 29 = .ok (.aload_n 0, 1) := by decide +kernel
theorem dX8_gone_30 : decode cX8_gone 30 = .ok (.getfield 72, 3) := by decide +kernel
theorem dX8_gone_33 : decode cX8_gone 33 = .ok (.if_icmp .ne 6, 3) := by decide +kernel
theorem dX8_gone_36 : decode cX8_gone 36 = .ok (.ldc 88, 2) := by decide +kernel
theorem dX8_gone_38 : decode cX8_gone 38 = .ok (.ireturn, 1) := by decide +kernel
theorem dX8_gone_39 : decode cX8_gone 39 = .ok (.aload_n 2, 1) := by decide +kernel
theorem dX8_gone_40 : decode cX8_gone 40 = .ok (.aload_n 0, 1) := by decide +kernel
theorem dX8_gone_41 : decode cX8_gone 41 = .ok (.getfield 72, 3) := by decide +kernel
theorem dX8_gone_44 : decode cX8_gone 44 = .ok (.invokevirtual 103, 3) := by decide +kernel
theorem dX8_gone_47 : decode cX8_gone 47 = .ok (.iconst 1, 1) := by decide +kernel
theorem dX8_gone_48 : decode cX8_gone 48 = .ok (.ireturn, 1) := by decide +kernel
set_option maxRecDepth 20000 in
theorem ggX8_go_X8_isFromTo : GoodIn wsX8_go wsX8_isFromTo := goodIn_r _ [7] (by decide +kernel) (by decide +kernel)
set_option maxRecDepth 20000 in
theorem gX8_go_X8_isFromTo : GoodIn wsX8_go (va_wsS RX8 62 yX8_isFromTo wsX8_isFromTo) := goodIn_app (goodIn_of _ (by decide +kernel)) ggX8_go_X8_isFromTo
theorem dX8_go_0 : decode cX8_go 0 = .ok (.iload_n 1, 1) := by decide +kernel
theorem dX8_go_1 : decode cX8_go 1 = .ok (.iconst 0, 1) := by decide +kernel
theorem dX8_go_2 : decode cX8_go 2 = .ok (.bipush 100, 2) := by decide +kernel
theorem dX8_go_4 : decode cX8_go 4 = .ok (.invokestatic 62, 3) := by decide +kernel
theorem dX8_go_7 : decode cX8_go 7 = .ok (.ifCond .ne 6, 3) := by decide +kernel
theorem dX8_go_10 : decode cX8_go 10 = .ok (.ldc 66, 2) := by decide +kernel
theorem dX8_go_12 : decode cX8_go 12 = .ok (.ireturn, 1) := by decide +kernel
theorem dX8_go_13 : decode cX8_go 13 = .ok (.aload_n 0, 1) := by decide +kernel
theorem dX8_go_14 : decode cX8_go 14 = .ok (.getfield 72, 3) := by decide +kernel
theorem dX8_go_17 : decode cX8_go 17 = .ok (.iload_n 1, 1) := by decide +kernel
theorem dX8_go_18 : decode cX8_go 18 = .ok (.iadd, 1) := by decide +kernel
theorem dX8_go_19 : decode cX8_go 19 = .ok (.sipush 400, 3) := by decide +kernel
theorem dX8_go_22 : decode cX8_go 22 = .ok (.if_icmp .le 6, 3) := by decide +kernel
theorem dX8_go_25 : decode cX8_go 25 = .ok (.ldc 88, 2) := by decide +kernel
theorem dX8_go_27 : decode cX8_go 27 = .ok (.ireturn, 1) := by decide +kernel
theorem dX8_go_28 : decode cX8_go 28 = .ok (.aload_n 0, 1) := by decide +kernel
theorem dX8_go_29 : decode cX8_go 29 = .ok (.dup, 1) := by decide +kernel
theorem dX8_go_30 : decode cX8_go 30 = .ok (.getfield 72, 3) := by decide +kernel
theorem dX8_go_33 : decode cX8_go 33 = .ok (.iload_n 1, 1) := by decide +kernel
theorem dX8_go_34 : decode cX8_go 34 = .ok (.iadd, 1) := by decide +kernel
theorem dX8_go_35 : decode cX8_go 35 = .ok (.putfield 72, 3) := by decide +kernel
theorem dX8_go_38 : decode cX8_go 38 = .ok (.aload_n 0, 1) := by decide +kernel
theorem dX8_go_39 : decode cX8_go 39 = .ok (.getfield 72, 3) := by decide +kernel
theorem dX8_go_42 : decode cX8_go 42 = .ok (.ireturn, 1) := by decide +kernel
set_option maxRecDepth 20000 in
theorem ggX8_back_X8_isFromTo : GoodIn wsX8_back wsX8_isFromTo := goodIn_r _ [7] (by decide +kernel) (by decide +kernel)
set_option maxRecDepth 20000 in
theorem gX8_back_X8_isFromTo : GoodIn wsX8_back (va_wsS RX8 62 yX8_isFromTo wsX8_isFromTo) := goodIn_app (goodIn_of _ (by decide +kernel)) ggX8_back_X8_isFromTo
set_option maxRecDepth 20000 in
theorem ggX8_back_X8_undoFromNow : GoodIn wsX8_back wsX8_undoFromNow := goodIn_r _ [11, 12, 13, 2, 14, 15, 16, 17, 18, 19, 20, 21, 22, 23, 24, 25, 26, 27, 28, 29, 30, 31, 32, 33, 34, 35, 36, 37, 38, 39] (by decide +kernel) (by decide +kernel)
set_option maxRecDepth 20000 in
theorem gX8_back_X8_undoFromNow : GoodIn wsX8_back (wsV RX8 107 RX8 yX8_undoFromNow wsX8_undoFromNow) := goodIn_app (goodIn_of _ (by decide +kernel)) ggX8_back_X8_undoFromNow
theorem dX8_back_0 : decode cX8_back 0 = .ok (.iload_n 1, 1) := by decide +kernel
theorem dX8_back_1 : decode cX8_back 1 = .ok (.iconst 0, 1) := by decide +kernel
theorem dX8_back_2 : decode cX8_back 2 = .ok (.bipush 100, 2) := by decide +kernel
theorem dX8_back_4 : decode cX8_back 4 = .ok (.invokestatic 62, 3) := by decide +kernel
theorem dX8_back_7 : decode cX8_back 7 = .ok (.ifCond .ne 6, 3) := by decide +kernel
theorem dX8_back_10 : decode cX8_back 10 = .ok (.ldc 66, 2) := by decide +kernel
theorem dX8_back_12 : decode cX8_back 12 = .ok (.ireturn, 1) := by decide +kernel
theorem dX8_back_13 : decode cX8_back 13 = .ok (.iload_n 1, 1) := by decide +kernel
theorem dX8_back_14 : decode cX8_back 14 = .ok (.aload_n 0, 1) := by decide +kernel
theorem dX8_back_15 : decode cX8_back 15 = .ok (.getfield 72, 3) := by decide +kernel
theorem dX8_back_18 : decode cX8_back 18 = .ok (.if_icmp .le 6, 3) := by decide +kernel
theorem dX8_back_21 : decode cX8_back 21 = .ok (.ldc 88, 2) := by decide +kernel
theorem dX8_back_23 : decode cX8_back 23 = .ok (.ireturn, 1) := by decide +kernel
theorem dX8_back_24 : decode cX8_back 24 = .ok (.aload_n 0, 1) := by decide +kernel
theorem dX8_back_25 : decode cX8_back 25 = .ok (.dup, 1) := by decide +kernel
theorem dX8_back_26 : decode cX8_back 26 = .ok (.getfield 72, 3) := by decide +kernel
theorem dX8_back_29 : decode cX8_back 29 = .ok (.iload_n 1, 1) := by decide +kernel
theorem dX8_back_30 : decode cX8_back 30 = .ok (.isub, 1) := by decide +kernel
theorem dX8_back_31 : decode cX8_back 31 = .ok (.putfield 72, 3) := by decide +kernel
theorem dX8_back_34 : decode cX8_back 34 = .ok (.aload_n 0, 1) := by decide +kernel
theorem dX8_back_35 : decode cX8_back 35 = .ok (.invokevirtual 107, 3) := by decide +kernel
theorem dX8_back_38 : decode cX8_back 38 = .ok (.aload_n 0, 1) := by decide +kernel
theorem dX8_back_39 : decode cX8_back 39 = .ok (.getfield 72, 3) := by decide +kernel
theorem dX8_back_42 : decode cX8_back 42 = .ok (.ireturn, 1) := by decide +kernel
set_option maxRecDepth 20000 in
theorem ggX8_count_X8_lineUp : GoodIn wsX8_count wsX8_lineUp := goodIn_r _ [13, 3, 2, 14, 15, 16, 17, 18, 19, 20, 21, 22, 23, 24, 25, 26, 27, 28, 29, 30, 31, 32, 33, 34, 35, 36, 37, 38, 39, 40, 147, 148, 149, 150, 151, 152, 153, 154, 155, 156, 157, 158, 159, 160, 161, 162, 163, 164, 165] (by decide +kernel) (by decide +kernel)
set_option maxRecDepth 20000 in
theorem gX8_count_X8_lineUp : GoodIn wsX8_count (wsV RX8 110 RX8 yX8_lineUp wsX8_lineUp) := goodIn_app (goodIn_of _ (by decide +kernel)) ggX8_count_X8_lineUp
set_option maxRecDepth 20000 in
theorem ggX8_count_X8_countPast : GoodIn wsX8_count wsX8_countPast := goodIn_r _ [44, 1, 45, 46, 47, 48, 49, 50, 12, 51, 52, 53, 54, 55, 2, 14, 56, 21, 57, 58, 35, 24, 59, 60, 6, 61, 25, 62, 63, 64, 65, 66, 67, 68, 69, 70, 71, 72, 73, 74, 75, 76, 77, 78, 79, 80, 81, 82, 83, 84, 85, 86, 87, 20, 22, 23, 88, 89, 90, 91, 26, 27, 28, 29, 30, 31, 32, 33, 34, 92, 93, 94, 95, 96, 97, 98, 99, 100, 101, 102, 103, 104, 105, 106, 107, 108, 109, 110, 111, 112, 113, 114, 115, 116, 117, 118, 119, 120, 121, 122, 123, 124, 125, 126, 127, 128, 129, 130, 131, 132, 133, 134, 135, 136, 137, 138, 139, 140, 141, 142, 143, 144, 145, 146, 147, 148, 149, 150, 151, 152, 153, 154, 155, 156, 157, 166, 167, 168, 169, 170, 161, 162, 163, 164, 165, 171, 172, 173, 174] (by decide +kernel) (by decide +kernel)
set_option maxRecDepth 20000 in
theorem gX8_count_X8_countPast : GoodIn wsX8_count (wsV RX8 116 RX8 yX8_countPast wsX8_countPast) := goodIn_app (goodIn_of _ (by decide +kernel)) ggX8_count_X8_countPast
theorem dX8_count_0 : decode cX8_count 0 = .ok (.iload_n 1, 1) := by decide +kernel
theorem dX8_count_1 : decode cX8_count 1 = .ok (.tableswitch 101 0 5 #[39, 44, 49, 66, 72, 78], 39) := by decide +kernel
theorem dX8_count_40 : decode cX8_count 40 = .ok (.aload_n 0, 1) := by decide +kernel
theorem dX8_count_41 : decode cX8_count 41 = .ok (.getfield 72, 3) := by decide +kernel
theorem dX8_count_44 : decode cX8_count 44 = .ok (.ireturn, 1) := by decide +kernel
theorem dX8_count_45 : decode cX8_count 45 = .ok (.aload_n 0, 1) := by decide +kernel
theorem dX8_count_46 : decode cX8_count 46 = .ok (.getfield 67, 3) := by decide +kernel
theorem dX8_count_49 : decode cX8_count 49 = .ok (.ireturn, 1) := by decide +kernel
theorem dX8_count_50 : decode cX8_count 50 = .ok (.aload_n 0, 1) := by decide +kernel
theorem dX8_count_51 : decode cX8_count 51 = .ok (.aload_n 0, 1) := by decide +kernel
theorem dX8_count_52 : decode cX8_count 52 = .ok (.getfield 72, 3) := by decide +kernel
theorem dX8_count_55 : decode cX8_count 55 = .ok (.iconst 1, 1) := by decide +kernel
theorem dX8_count_56 : decode cX8_count 56 = .ok (.invokevirtual 110, 3) := by decide +kernel
theorem dX8_count_59 : decode cX8_count 59 = .ok (.aload_n 0, 1) := by decide +kernel
theorem dX8_count_60 : decode cX8_count 60 = .ok (.getfield 19, 3) := by decide +kernel
theorem dX8_count_63 : decode cX8_count 63 = .ok (.getfield 113, 3) := by decide +kernel
theorem dX8_count_66 : decode cX8_count 66 = .ok (.ireturn, 1) := by decide +kernel
theorem dX8_count_67 : decode cX8_count 67 = .ok (.aload_n 0, 1) := by decide +kernel
theorem dX8_count_68 : decode cX8_count 68 = .ok (.iconst 0, 1) := by decide +kernel
theorem dX8_count_69 : decode cX8_count 69 = .ok (.invokevirtual 116, 3) := by decide +kernel
theorem dX8_count_72 : decode cX8_count 72 = .ok (.ireturn, 1) := by decide +kernel
theorem dX8_count_73 : decode cX8_count 73 = .ok (.aload_n 0, 1) := by decide +kernel
theorem dX8_count_74 : decode cX8_count 74 = .ok (.iconst 1, 1) := by decide +kernel
theorem dX8_count_75 : decode cX8_count 75 = .ok (.invokevirtual 116, 3) := by decide +kernel
theorem dX8_count_78 : decode cX8_count 78 = .ok (.ireturn, 1) := by decide +kernel
theorem dX8_count_79 : decode cX8_count 79 = .ok (.aload_n 0, 1) := by decide +kernel
theorem dX8_count_80 : decode cX8_count 80 = .ok (.aload_n 0, 1) := by decide +kernel
theorem dX8_count_81 : decode cX8_count 81 = .ok (.getfield 72, 3) := by decide +kernel
theorem dX8_count_84 : decode cX8_count 84 = .ok (.iconst 1, 1) := by decide +kernel
theorem dX8_count_85 : decode cX8_count 85 = .ok (.invokevirtual 110, 3) := by decide +kernel
theorem dX8_count_88 : decode cX8_count 88 = .ok (.aload_n 0, 1) := by decide +kernel
theorem dX8_count_89 : decode cX8_count 89 = .ok (.getfield 19, 3) := by decide +kernel
theorem dX8_count_92 : decode cX8_count 92 = .ok (.getfield 113, 3) := by decide +kernel
theorem dX8_count_95 : decode cX8_count 95 = .ok (.iconst 1, 1) := by decide +kernel
theorem dX8_count_96 : decode cX8_count 96 = .ok (.isub, 1) := by decide +kernel
theorem dX8_count_97 : decode cX8_count 97 = .ok (.iconst 0, 1) := by decide +kernel
theorem dX8_count_98 : decode cX8_count 98 = .ok (.invokestatic 120, 3) := by decide +kernel
theorem dX8_count_101 : decode cX8_count 101 = .ok (.ireturn, 1) := by decide +kernel
theorem dX8_count_102 : decode cX8_count 102 = .ok (.ldc 66, 2) := by decide +kernel
theorem dX8_count_104 : decode cX8_count 104 = .ok (.ireturn, 1) := by decide +kernel
set_option maxRecDepth 20000 in
theorem ggX8_told_X8_isKnown : GoodIn wsX8_told wsX8_isKnown := goodIn_r _ [8, 9, 20, 21, 22, 23, 24, 25, 26, 27, 28, 29, 30] (by decide +kernel) (by decide +kernel)
set_option maxRecDepth 20000 in
theorem gX8_told_X8_isKnown : GoodIn wsX8_told (wsV RX8 79 RX8 yX8_isKnown wsX8_isKnown) := goodIn_app (goodIn_of _ (by decide +kernel)) ggX8_told_X8_isKnown
set_option maxRecDepth 20000 in
theorem ggX8_told_X0_began : GoodIn wsX8_told wsX0_began := goodIn_r _ [13, 14, 31, 32, 33, 34, 35] (by decide +kernel) (by decide +kernel)
set_option maxRecDepth 20000 in
theorem gX8_told_X0_began_n100 : GoodIn wsX8_told (wsX0_began) := ggX8_told_X0_began
set_option maxRecDepth 20000 in
theorem ggX8_told_X0_latestSpeed : GoodIn wsX8_told wsX0_latestSpeed := goodIn_r _ [17, 18, 19, 31, 32, 33, 34, 35] (by decide +kernel) (by decide +kernel)
set_option maxRecDepth 20000 in
theorem gX8_told_X0_latestSpeed_n92 : GoodIn wsX8_told (wsX0_latestSpeed) := ggX8_told_X0_latestSpeed
theorem dX8_told_0 : decode cX8_told 0 = .ok (.aload_n 0, 1) := by decide +kernel
theorem dX8_told_1 : decode cX8_told 1 = .ok (.iload_n 1, 1) := by decide +kernel
theorem dX8_told_2 : decode cX8_told 2 = .ok (.invokevirtual 79, 3) := by decide +kernel
theorem dX8_told_5 : decode cX8_told 5 = .ok (.ifCond .ne 6, 3) := by decide +kernel
theorem dX8_told_8 : decode cX8_told 8 = .ok (.ldc 83, 2) := by decide +kernel
theorem dX8_told_10 : decode cX8_told 10 = .ok (.ireturn, 1) := by decide +kernel
theorem dX8_told_11 : decode cX8_told 11 = .ok (.aload_n 0, 1) := by decide +kernel
theorem dX8_told_12 : decode cX8_told 12 = .ok (.getfield 11, 3) := by decide +kernel
theorem dX8_told_15 : decode cX8_told 15 = .ok (.iload_n 1, 1) := by decide +kernel
theorem dX8_told_16 : decode cX8_told 16 = .ok (.aaload, 1) := by decide +kernel
theorem dX8_told_17 : decode cX8_told 17 = .ok (.astore_n 3, 1) := by decide +kernel
theorem dX8_told_18 : decode cX8_told 18 = .ok (.iload_n 2, 1) := by decide +kernel
theorem dX8_told_19 : decode cX8_told 19 = .ok (.tableswitch 49 0 3 #[29, 34, 39, 44], 29) := by decide +kernel
theorem dX8_told_48 : decode cX8_told 48 = .ok (.aload_n 3, 1) := by decide +kernel
theorem dX8_told_49 : decode cX8_told 49 = .ok (.invokevirtual 100, 3) := by decide +kernel
theorem dX8_told_52 : decode cX8_told 52 = .ok (.ireturn, 1) := by decide +kernel
theorem dX8_told_53 : decode cX8_told 53 = .ok (.aload_n 3, 1) := by decide +kernel
theorem dX8_told_54 : decode cX8_told 54 = .ok (.getfield 126, 3) := by decide +kernel
theorem dX8_told_57 : decode cX8_told 57 = .ok (.ireturn, 1) := by decide +kernel
theorem dX8_told_58 : decode cX8_told 58 = .ok (.aload_n 3, 1) := by decide +kernel
theorem dX8_told_59 : decode cX8_told 59 = .ok (.getfield 129, 3) := by decide +kernel
theorem dX8_told_62 : decode cX8_told 62 = .ok (.ireturn, 1) := by decide +kernel
theorem dX8_told_63 : decode cX8_told 63 = .ok (.aload_n 3, 1) := by decide +kernel
theorem dX8_told_64 : decode cX8_told 64 = .ok (.invokevirtual 92, 3) := by decide +kernel
theorem dX8_told_67 : decode cX8_told 67 = .ok (.ireturn, 1) := by decide +kernel
theorem dX8_told_68 : decode cX8_told 68 = .ok (.ldc 66, 2) := by decide +kernel
theorem dX8_told_70 : decode cX8_told 70 = .ok (.ireturn, 1) := by decide +kernel
set_option maxRecDepth 20000 in
theorem ggX8_place_X8_isKnown : GoodIn wsX8_place wsX8_isKnown := goodIn_r _ [9, 10, 51, 52, 53, 54, 55, 56, 57, 58, 59, 60, 61] (by decide +kernel) (by decide +kernel)
set_option maxRecDepth 20000 in
theorem gX8_place_X8_isKnown : GoodIn wsX8_place (wsV RX8 79 RX8 yX8_isKnown wsX8_isKnown) := goodIn_app (goodIn_of _ (by decide +kernel)) ggX8_place_X8_isKnown
set_option maxRecDepth 20000 in
theorem ggX8_place_X8_isMoment : GoodIn wsX8_place wsX8_isMoment := goodIn_r _ [13, 14, 15, 8, 16] (by decide +kernel) (by decide +kernel)
set_option maxRecDepth 20000 in
theorem gX8_place_X8_isMoment : GoodIn wsX8_place (va_wsS RX8 134 yX8_isMoment wsX8_isMoment) := goodIn_app (goodIn_of _ (by decide +kernel)) ggX8_place_X8_isMoment
set_option maxRecDepth 20000 in
theorem ggX8_place_X8_isFromTo : GoodIn wsX8_place wsX8_isFromTo := goodIn_r _ [16] (by decide +kernel) (by decide +kernel)
set_option maxRecDepth 20000 in
theorem gX8_place_X8_isFromTo : GoodIn wsX8_place (va_wsS RX8 62 yX8_isFromTo wsX8_isFromTo) := goodIn_app (goodIn_of _ (by decide +kernel)) ggX8_place_X8_isFromTo
set_option maxRecDepth 20000 in
theorem ggX8_place_X0_isThere : GoodIn wsX8_place wsX0_isThere := goodIn_r _ [20, 21, 22, 62, 63, 64, 65, 66] (by decide +kernel) (by decide +kernel)
set_option maxRecDepth 20000 in
theorem gX8_place_X0_isThere_n140 : GoodIn wsX8_place (wsX0_isThere) := ggX8_place_X0_isThere
set_option maxRecDepth 20000 in
theorem ggX8_place_X0_upperAt : GoodIn wsX8_place wsX0_upperAt := goodIn_r _ [25, 26, 27, 21, 28, 29, 30, 18, 31, 32, 62, 63, 64, 65, 66] (by decide +kernel) (by decide +kernel)
set_option maxRecDepth 20000 in
theorem gX8_place_X0_upperAt_n145 : GoodIn wsX8_place (wsX0_upperAt) := ggX8_place_X0_upperAt
set_option maxRecDepth 20000 in
theorem ggX8_place_X2_of : GoodIn wsX8_place wsX2_of := goodIn_r _ [35, 36, 37, 38, 39, 40, 41, 34, 42, 43, 44, 45] (by decide +kernel) (by decide +kernel)
set_option maxRecDepth 20000 in
theorem gX8_place_X2_of_n148 : GoodIn wsX8_place (wsX2_of) := ggX8_place_X2_of
set_option maxRecDepth 20000 in
theorem ggX8_place_X2_upper : GoodIn wsX8_place wsX2_upper := goodIn_r _ [47] (by decide +kernel) (by decide +kernel)
set_option maxRecDepth 20000 in
theorem gX8_place_X2_upper_n154 : GoodIn wsX8_place (wsX2_upper) := ggX8_place_X2_upper
set_option maxRecDepth 20000 in
theorem ggX8_place_X2_lower : GoodIn wsX8_place wsX2_lower := goodIn_r _ [49, 50] (by decide +kernel) (by decide +kernel)
set_option maxRecDepth 20000 in
theorem gX8_place_X2_lower_n158 : GoodIn wsX8_place (wsX2_lower) := ggX8_place_X2_lower
theorem dX8_place_0 : decode cX8_place 0 = .ok (.aload_n 0, 1) := by decide +kernel
theorem dX8_place_1 : decode cX8_place 1 = .ok (.iload_n 1, 1) := by decide +kernel
theorem dX8_place_2 : decode cX8_place 2 = .ok (.invokevirtual 79, 3) := by decide +kernel
theorem dX8_place_5 : decode cX8_place 5 = .ok (.ifCond .ne 7, 3) := by decide +kernel
theorem dX8_place_8 : decode cX8_place 8 = .ok (.ldc2_w 132, 3) := by decide +kernel
theorem dX8_place_11 : decode cX8_place 11 = .ok (.lreturn, 1) := by decide +kernel
theorem dX8_place_12 : decode cX8_place 12 = .ok (.iload_n 2, 1) := by decide +kernel
theorem dX8_place_13 : decode cX8_place 13 = .ok (.iload_n 3, 1) := by decide +kernel
theorem dX8_place_14 : decode cX8_place 14 = .ok (.invokestatic 134, 3) := by decide +kernel
theorem dX8_place_17 : decode cX8_place 17 = .ok (.ifCond .eq 13, 3) := by decide +kernel
theorem dX8_place_20 : decode cX8_place 20 = .ok (.iload 4, 2) := by decide +kernel
theorem dX8_place_22 : decode cX8_place 22 = .ok (.iconst 0, 1) := by decide +kernel
theorem dX8_place_23 : decode cX8_place 23 = .ok (.iconst 1, 1) := by decide +kernel
theorem dX8_place_24 : decode cX8_place 24 = .ok (.invokestatic 62, 3) := by decide +kernel
theorem dX8_place_27 : decode cX8_place 27 = .ok (.ifCond .ne 7, 3) := by decide +kernel
theorem dX8_place_30 : decode cX8_place 30 = .ok (.ldc2_w 138, 3) := by decide +kernel
theorem dX8_place_33 : decode cX8_place 33 = .ok (.lreturn, 1) := by decide +kernel
theorem dX8_place_34 : decode cX8_place 34 = .ok (.aload_n 0, 1) := by decide +kernel
theorem dX8_place_35 : decode cX8_place 35 = .ok (.getfield 11, 3) := by decide +kernel
theorem dX8_place_38 : decode cX8_place 38 = .ok (.iload_n 1, 1) := by decide +kernel
theorem dX8_place_39 : decode cX8_place 39 = .ok (.aaload, 1) := by decide +kernel
theorem dX8_place_40 : decode cX8_place 40 = .ok (.astore 5, 2) := by decide +kernel
theorem dX8_place_42 : decode cX8_place 42 = .ok (.aload 5, 2) := by decide +kernel
theorem dX8_place_44 : decode cX8_place 44 = .ok (.iload_n 2, 1) := by decide +kernel
theorem dX8_place_45 : decode cX8_place 45 = .ok (.iload_n 3, 1) := by decide +kernel
theorem dX8_place_46 : decode cX8_place 46 = .ok (.invokevirtual 140, 3) := by decide +kernel
theorem dX8_place_49 : decode cX8_place 49 = .ok (.ifCond .ne 7, 3) := by decide +kernel
theorem dX8_place_52 : decode cX8_place 52 = .ok (.ldc2_w 143, 3) := by decide +kernel
theorem dX8_place_55 : decode cX8_place 55 = .ok (.lreturn, 1) := by decide +kernel
theorem dX8_place_56 : decode cX8_place 56 = .ok (.aload 5, 2) := by decide +kernel
theorem dX8_place_58 : decode cX8_place 58 = .ok (.iload_n 2, 1) := by decide +kernel
theorem dX8_place_59 : decode cX8_place 59 = .ok (.iload_n 3, 1) := by decide +kernel
theorem dX8_place_60 : decode cX8_place 60 = .ok (.invokevirtual 145, 3) := by decide +kernel
theorem dX8_place_63 : decode cX8_place 63 = .ok (.iload_n 3, 1) := by decide +kernel
theorem dX8_place_64 : decode cX8_place 64 = .ok (.invokestatic 148, 3) := by decide +kernel
theorem dX8_place_67 : decode cX8_place 67 = .ok (.lstore 6, 2) := by decide +kernel
theorem dX8_place_69 : decode cX8_place 69 = .ok (.iload 4, 2) := by decide +kernel
theorem dX8_place_71 : decode cX8_place 71 = .ok (.ifCond .ne 12, 3) := by decide +kernel
theorem dX8_place_74 : decode cX8_place 74 = .ok (.lload 6, 2) := by decide +kernel
theorem dX8_place_76 : decode cX8_place 76 = .ok (.invokestatic 154, 3) := by decide +kernel
theorem dX8_place_79 : decode cX8_place 79 = .ok (.i2l, 1) := by decide +kernel
theorem dX8_place_80 : decode cX8_place 80 = .ok (.goto 9, 3) := by decide +kernel
theorem dX8_place_83 : decode cX8_place 83 = .ok (.lload 6, 2) := by decide +kernel
theorem dX8_place_85 : decode cX8_place 85 = .ok (.invokestatic 158, 3) := by decide +kernel
theorem dX8_place_88 : decode cX8_place 88 = .ok (.i2l, 1) := by decide +kernel
theorem dX8_place_89 : decode cX8_place 89 = .ok (.lreturn, 1) := by decide +kernel
set_option maxRecDepth 20000 in
theorem ggX8_order_X8_isMoment : GoodIn wsX8_order wsX8_isMoment := goodIn_r _ [6, 7, 8, 5, 9] (by decide +kernel) (by decide +kernel)
set_option maxRecDepth 20000 in
theorem gX8_order_X8_isMoment : GoodIn wsX8_order (va_wsS RX8 134 yX8_isMoment wsX8_isMoment) := goodIn_app (goodIn_of _ (by decide +kernel)) ggX8_order_X8_isMoment
set_option maxRecDepth 20000 in
theorem ggX8_order_X8_lineUp : GoodIn wsX8_order wsX8_lineUp := goodIn_r _ [13, 2, 14, 15, 16, 17, 18, 19, 20, 21, 22, 23, 24, 25, 26, 27, 28, 29, 30, 31, 32, 33, 34, 35, 36, 37, 38, 39, 40, 41, 45, 46, 47, 48, 49, 50, 51, 52, 53, 54, 55, 56, 57, 58, 59, 60, 61, 62, 63] (by decide +kernel) (by decide +kernel)
set_option maxRecDepth 20000 in
theorem gX8_order_X8_lineUp : GoodIn wsX8_order (wsV RX8 110 RX8 yX8_lineUp wsX8_lineUp) := goodIn_app (goodIn_of _ (by decide +kernel)) ggX8_order_X8_lineUp
set_option maxRecDepth 20000 in
theorem ggX8_order_X3_tell : GoodIn wsX8_order wsX3_tell := goodIn_r _ [44, 20, 41, 56, 57, 58] (by decide +kernel) (by decide +kernel)
set_option maxRecDepth 20000 in
theorem gX8_order_X3_tell_n161 : GoodIn wsX8_order (wsX3_tell) := ggX8_order_X3_tell
theorem dX8_order_0 : decode cX8_order 0 = .ok (.iload_n 1, 1) := by decide +kernel
theorem dX8_order_1 : decode cX8_order 1 = .ok (.iload_n 2, 1) := by decide +kernel
theorem dX8_order_2 : decode cX8_order 2 = .ok (.invokestatic 134, 3) := by decide +kernel
theorem dX8_order_5 : decode cX8_order 5 = .ok (.ifCond .ne 6, 3) := by decide +kernel
theorem dX8_order_8 : decode cX8_order 8 = .ok (.ldc 66, 2) := by decide +kernel
theorem dX8_order_10 : decode cX8_order 10 = .ok (.ireturn, 1) := by decide +kernel
theorem dX8_order_11 : decode cX8_order 11 = .ok (.aload_n 0, 1) := by decide +kernel
theorem dX8_order_12 : decode cX8_order 12 = .ok (.iload_n 1, 1) := by decide +kernel
theorem dX8_order_13 : decode cX8_order 13 = .ok (.iload_n 2, 1) := by decide +kernel
theorem dX8_order_14 : decode cX8_order 14 = .ok (.invokevirtual 110, 3) := by decide +kernel
theorem dX8_order_17 : decode cX8_order 17 = .ok (.aload_n 0, 1) := by decide +kernel
theorem dX8_order_18 : decode cX8_order 18 = .ok (.getfield 19, 3) := by decide +kernel
theorem dX8_order_21 : decode cX8_order 21 = .ok (.iload_n 3, 1) := by decide +kernel
theorem dX8_order_22 : decode cX8_order 22 = .ok (.invokevirtual 161, 3) := by decide +kernel
theorem dX8_order_25 : decode cX8_order 25 = .ok (.ireturn, 1) := by decide +kernel
set_option maxRecDepth 20000 in
theorem ggX8_kept_X8_lineUp : GoodIn wsX8_kept wsX8_lineUp := goodIn_r _ [7, 2, 8, 9, 10, 11, 12, 13, 14, 15, 16, 17, 18, 19, 20, 21, 22, 23, 24, 25, 26, 27, 28, 29, 30, 31, 32, 33, 34, 35, 39, 40, 41, 42, 43, 44, 45, 46, 47, 48, 49, 50, 51, 52, 53, 54, 55, 56, 57] (by decide +kernel) (by decide +kernel)
set_option maxRecDepth 20000 in
theorem gX8_kept_X8_lineUp : GoodIn wsX8_kept (wsV RX8 110 RX8 yX8_lineUp wsX8_lineUp) := goodIn_app (goodIn_of _ (by decide +kernel)) ggX8_kept_X8_lineUp
set_option maxRecDepth 20000 in
theorem ggX8_kept_X3_tell : GoodIn wsX8_kept wsX3_tell := goodIn_r _ [38, 14, 35, 50, 51, 52] (by decide +kernel) (by decide +kernel)
set_option maxRecDepth 20000 in
theorem gX8_kept_X3_tell_n161 : GoodIn wsX8_kept (wsX3_tell) := ggX8_kept_X3_tell
theorem dX8_kept_0 : decode cX8_kept 0 = .ok (.aload_n 0, 1) := by decide +kernel
theorem dX8_kept_1 : decode cX8_kept 1 = .ok (.aload_n 0, 1) := by decide +kernel
theorem dX8_kept_2 : decode cX8_kept 2 = .ok (.getfield 72, 3) := by decide +kernel
theorem dX8_kept_5 : decode cX8_kept 5 = .ok (.iconst 1, 1) := by decide +kernel
theorem dX8_kept_6 : decode cX8_kept 6 = .ok (.invokevirtual 110, 3) := by decide +kernel
theorem dX8_kept_9 : decode cX8_kept 9 = .ok (.aload_n 0, 1) := by decide +kernel
theorem dX8_kept_10 : decode cX8_kept 10 = .ok (.getfield 19, 3) := by decide +kernel
theorem dX8_kept_13 : decode cX8_kept 13 = .ok (.iload_n 1, 1) := by decide +kernel
theorem dX8_kept_14 : decode cX8_kept 14 = .ok (.invokevirtual 161, 3) := by decide +kernel
theorem dX8_kept_17 : decode cX8_kept 17 = .ok (.ireturn, 1) := by decide +kernel
set_option maxRecDepth 20000 in
theorem ggX8_at_X8_isMoment : GoodIn wsX8_at wsX8_isMoment := goodIn_r _ [6, 7, 8, 5, 9] (by decide +kernel) (by decide +kernel)
set_option maxRecDepth 20000 in
theorem gX8_at_X8_isMoment : GoodIn wsX8_at (va_wsS RX8 134 yX8_isMoment wsX8_isMoment) := goodIn_app (goodIn_of _ (by decide +kernel)) ggX8_at_X8_isMoment
set_option maxRecDepth 20000 in
theorem ggX8_at_X8_isFromTo : GoodIn wsX8_at wsX8_isFromTo := goodIn_r _ [9] (by decide +kernel) (by decide +kernel)
set_option maxRecDepth 20000 in
theorem gX8_at_X8_isFromTo : GoodIn wsX8_at (va_wsS RX8 62 yX8_isFromTo wsX8_isFromTo) := goodIn_app (goodIn_of _ (by decide +kernel)) ggX8_at_X8_isFromTo
set_option maxRecDepth 20000 in
theorem ggX8_at_X8_lineUp : GoodIn wsX8_at wsX8_lineUp := goodIn_r _ [13, 2, 14, 15, 16, 17, 18, 19, 20, 21, 22, 23, 24, 25, 26, 27, 28, 29, 30, 31, 32, 33, 34, 35, 36, 37, 38, 39, 40, 41, 55, 56, 57, 58, 59, 60, 61, 62, 63, 64, 65, 66, 67, 68, 69, 70, 71, 72, 73] (by decide +kernel) (by decide +kernel)
set_option maxRecDepth 20000 in
theorem gX8_at_X8_lineUp : GoodIn wsX8_at (wsV RX8 110 RX8 yX8_lineUp wsX8_lineUp) := goodIn_app (goodIn_of _ (by decide +kernel)) ggX8_at_X8_lineUp
set_option maxRecDepth 20000 in
theorem ggX8_at_X3_tell : GoodIn wsX8_at wsX3_tell := goodIn_r _ [44, 20, 41, 66, 67, 68] (by decide +kernel) (by decide +kernel)
set_option maxRecDepth 20000 in
theorem gX8_at_X3_tell_n161 : GoodIn wsX8_at (wsX3_tell) := ggX8_at_X3_tell
set_option maxRecDepth 20000 in
theorem ggX8_at_X3_closestUpper : GoodIn wsX8_at wsX3_closestUpper := goodIn_r _ [47, 20, 40, 66, 67, 68] (by decide +kernel) (by decide +kernel)
set_option maxRecDepth 20000 in
theorem gX8_at_X3_closestUpper_n165 : GoodIn wsX8_at (wsX3_closestUpper) := ggX8_at_X3_closestUpper
set_option maxRecDepth 20000 in
theorem ggX8_at_X3_heaps : GoodIn wsX8_at wsX3_heaps := goodIn_r _ [50, 20, 51, 52, 53, 54, 40, 66, 67, 68] (by decide +kernel) (by decide +kernel)
set_option maxRecDepth 20000 in
theorem gX8_at_X3_heaps_n168 : GoodIn wsX8_at (wsX3_heaps) := ggX8_at_X3_heaps
theorem dX8_at_0 : decode cX8_at 0 = .ok (.iload_n 1, 1) := by decide +kernel
theorem dX8_at_1 : decode cX8_at 1 = .ok (.iload_n 2, 1) := by decide +kernel
theorem dX8_at_2 : decode cX8_at 2 = .ok (.invokestatic 134, 3) := by decide +kernel
theorem dX8_at_5 : decode cX8_at 5 = .ok (.ifCond .eq 24, 3) := by decide +kernel
theorem dX8_at_8 : decode cX8_at 8 = .ok (.iload_n 3, 1) := by decide +kernel
theorem dX8_at_9 : decode cX8_at 9 = .ok (.iconst 0, 1) := by decide +kernel
theorem dX8_at_10 : decode cX8_at 10 = .ok (.iconst 4, 1) := by decide +kernel
theorem dX8_at_11 : decode cX8_at 11 = .ok (.invokestatic 62, 3) := by decide +kernel
theorem dX8_at_14 : decode cX8_at 14 = .ok (.ifCond .eq 15, 3) := by decide +kernel
theorem dX8_at_17 : decode cX8_at 17 = .ok (.iload 4, 2) := by decide +kernel
theorem dX8_at_19 : decode cX8_at 19 = .ok (.iconst 0, 1) := by decide +kernel
theorem dX8_at_20 : decode cX8_at 20 = .ok (.sipush 2000, 3) := by decide +kernel
theorem dX8_at_23 : decode cX8_at 23 = .ok (.invokestatic 62, 3) := by decide +kernel
theorem dX8_at_26 : decode cX8_at 26 = .ok (.ifCond .ne 6, 3) := by decide +kernel
theorem dX8_at_29 : decode cX8_at 29 = .ok (.ldc 66, 2) := by decide +kernel
theorem dX8_at_31 : decode cX8_at 31 = .ok (.ireturn, 1) := by decide +kernel
theorem dX8_at_32 : decode cX8_at 32 = .ok (.aload_n 0, 1) := by decide +kernel
theorem dX8_at_33 : decode cX8_at 33 = .ok (.iload_n 1, 1) := by decide +kernel
theorem dX8_at_34 : decode cX8_at 34 = .ok (.iload_n 2, 1) := by decide +kernel
theorem dX8_at_35 : decode cX8_at 35 = .ok (.invokevirtual 110, 3) := by decide +kernel
theorem dX8_at_38 : decode cX8_at 38 = .ok (.iload_n 3, 1) := by decide +kernel
theorem dX8_at_39 : decode cX8_at 39 = .ok (.tableswitch 86 0 3 #[29, 37, 54, 71], 29) := by decide +kernel
theorem dX8_at_68 : decode cX8_at 68 = .ok (.aload_n 0, 1) := by decide +kernel
theorem dX8_at_69 : decode cX8_at 69 = .ok (.getfield 19, 3) := by decide +kernel
theorem dX8_at_72 : decode cX8_at 72 = .ok (.getfield 113, 3) := by decide +kernel
theorem dX8_at_75 : decode cX8_at 75 = .ok (.ireturn, 1) := by decide +kernel
theorem dX8_at_76 : decode cX8_at 76 = .ok (.aload_n 0, 1) := by decide +kernel
theorem dX8_at_77 : decode cX8_at 77 = .ok (.getfield 19, 3) := by decide +kernel
theorem dX8_at_80 : decode cX8_at 80 = .ok (.aload_n 0, 1) := by decide +kernel
theorem dX8_at_81 : decode cX8_at 81 = .ok (.getfield 19, 3) := by decide +kernel
theorem dX8_at_84 : decode cX8_at 84 = .ok (.getfield 113, 3) := by decide +kernel
theorem dX8_at_87 : decode cX8_at 87 = .ok (.iconst 1, 1) := by decide +kernel
theorem dX8_at_88 : decode cX8_at 88 = .ok (.isub, 1) := by decide +kernel
theorem dX8_at_89 : decode cX8_at 89 = .ok (.invokevirtual 161, 3) := by decide +kernel
theorem dX8_at_92 : decode cX8_at 92 = .ok (.ireturn, 1) := by decide +kernel
theorem dX8_at_93 : decode cX8_at 93 = .ok (.aload_n 0, 1) := by decide +kernel
theorem dX8_at_94 : decode cX8_at 94 = .ok (.getfield 19, 3) := by decide +kernel
theorem dX8_at_97 : decode cX8_at 97 = .ok (.aload_n 0, 1) := by decide +kernel
theorem dX8_at_98 : decode cX8_at 98 = .ok (.getfield 19, 3) := by decide +kernel
theorem dX8_at_101 : decode cX8_at 101 = .ok (.invokevirtual 165, 3) := by decide +kernel
theorem dX8_at_104 : decode cX8_at 104 = .ok (.iconst 1, 1) := by decide +kernel
theorem dX8_at_105 : decode cX8_at 105 = .ok (.isub, 1) := by decide +kernel
theorem dX8_at_106 : decode cX8_at 106 = .ok (.invokevirtual 161, 3) := by decide +kernel
theorem dX8_at_109 : decode cX8_at 109 = .ok (.ireturn, 1) := by decide +kernel
theorem dX8_at_110 : decode cX8_at 110 = .ok (.aload_n 0, 1) := by decide +kernel
theorem dX8_at_111 : decode cX8_at 111 = .ok (.getfield 19, 3) := by decide +kernel
theorem dX8_at_114 : decode cX8_at 114 = .ok (.aload_n 0, 1) := by decide +kernel
theorem dX8_at_115 : decode cX8_at 115 = .ok (.getfield 19, 3) := by decide +kernel
theorem dX8_at_118 : decode cX8_at 118 = .ok (.invokevirtual 165, 3) := by decide +kernel
theorem dX8_at_121 : decode cX8_at 121 = .ok (.invokevirtual 161, 3) := by decide +kernel
theorem dX8_at_124 : decode cX8_at 124 = .ok (.ireturn, 1) := by decide +kernel
theorem dX8_at_125 : decode cX8_at 125 = .ok (.aload_n 0, 1) := by decide +kernel
theorem dX8_at_126 : decode cX8_at 126 = .ok (.getfield 19, 3) := by decide +kernel
theorem dX8_at_129 : decode cX8_at 129 = .ok (.iload 4, 2) := by decide +kernel
theorem dX8_at_131 : decode cX8_at 131 = .ok (.iload_n 2, 1) := by decide +kernel
theorem dX8_at_132 : decode cX8_at 132 = .ok (.imul, 1) := by decide +kernel
theorem dX8_at_133 : decode cX8_at 133 = .ok (.invokevirtual 168, 3) := by decide +kernel
theorem dX8_at_136 : decode cX8_at 136 = .ok (.ireturn, 1) := by decide +kernel
set_option maxRecDepth 20000 in
theorem ggX8_meeting_X8_isFromTo : GoodIn wsX8_meeting wsX8_isFromTo := goodIn_r _ [8] (by decide +kernel) (by decide +kernel)
set_option maxRecDepth 20000 in
theorem gX8_meeting_X8_isFromTo : GoodIn wsX8_meeting (va_wsS RX8 62 yX8_isFromTo wsX8_isFromTo) := goodIn_app (goodIn_of _ (by decide +kernel)) ggX8_meeting_X8_isFromTo
set_option maxRecDepth 20000 in
theorem ggX8_meeting_X8_gatherMeetings : GoodIn wsX8_meeting wsX8_gatherMeetings := goodIn_r _ [12, 4, 13, 14, 15, 16, 17, 18, 19, 20, 21, 22, 23, 7, 24, 25, 26, 27, 28, 29, 30, 31, 32, 33, 34, 35, 36, 37, 38, 39, 40, 41, 42, 43, 44, 45, 46, 47, 48, 49, 50, 51, 52, 53, 54, 55, 56, 57, 58, 59, 60, 61, 62, 63, 64, 65, 66, 67, 68, 69, 70, 71, 72, 73, 74, 75, 76, 77, 78, 79, 80, 81, 82, 83, 84, 85, 86, 87, 88, 89, 90, 91, 92, 93, 94, 95, 96, 97, 98, 99, 100, 101, 102, 103, 104, 105, 106, 107, 108, 109, 110, 111, 112, 136, 137, 138, 139, 140, 141, 142, 143, 144, 145, 146, 147, 148, 149, 150, 151, 152, 153, 154, 155, 156, 157, 158, 159, 160] (by decide +kernel) (by decide +kernel)
set_option maxRecDepth 20000 in
theorem gX8_meeting_X8_gatherMeetings : GoodIn wsX8_meeting (wsV RX8 172 RX8 yX8_gatherMeetings wsX8_gatherMeetings) := goodIn_app (goodIn_of _ (by decide +kernel)) ggX8_meeting_X8_gatherMeetings
set_option maxRecDepth 20000 in
theorem ggX8_meeting_X4_tell : GoodIn wsX8_meeting wsX4_tell := goodIn_r _ [115, 19, 106, 107, 108, 93, 78, 94, 96, 97, 98, 147, 148, 149, 150, 151] (by decide +kernel) (by decide +kernel)
set_option maxRecDepth 20000 in
theorem gX8_meeting_X4_tell_n175 : GoodIn wsX8_meeting (wsX4_tell) := ggX8_meeting_X4_tell
set_option maxRecDepth 20000 in
theorem ggX8_meeting_X8_gatherAround : GoodIn wsX8_meeting wsX8_gatherAround := goodIn_r _ [119, 2, 120, 121, 4, 122, 123, 124, 7, 125, 126, 127, 128, 129, 13, 25, 130, 38, 131, 132, 56, 41, 133, 134, 69, 135, 42, 9, 10, 11, 12, 14, 15, 16, 17, 18, 19, 20, 21, 22, 23, 24, 26, 27, 28, 29, 30, 31, 32, 33, 34, 35, 36, 37, 39, 40, 43, 44, 45, 46, 47, 48, 49, 50, 51, 52, 53, 54, 55, 57, 58, 59, 60, 61, 62, 63, 64, 65, 66, 67, 68, 70, 71, 72, 73, 74, 75, 76, 77, 78, 79, 80, 81, 82, 83, 84, 85, 86, 87, 88, 89, 90, 91, 92, 93, 94, 95, 96, 97, 98, 99, 100, 101, 102, 103, 104, 105, 106, 107, 108, 109, 110, 111, 112, 136, 137, 138, 139, 140, 141, 142, 143, 144, 145, 146, 147, 148, 149, 150, 151, 156, 157, 158, 159, 160, 152, 153, 154, 155] (by decide +kernel) (by decide +kernel)
set_option maxRecDepth 20000 in
theorem gX8_meeting_X8_gatherAround : GoodIn wsX8_meeting (wsV RX8 177 RX8 yX8_gatherAround wsX8_gatherAround) := goodIn_app (goodIn_of _ (by decide +kernel)) ggX8_meeting_X8_gatherAround
theorem dX8_meeting_0 : decode cX8_meeting 0 = .ok (.iload_n 2, 1) := by decide +kernel
theorem dX8_meeting_1 : decode cX8_meeting 1 = .ok (.iconst 0, 1) := by decide +kernel
theorem dX8_meeting_2 : decode cX8_meeting 2 = .ok (.iconst 3, 1) := by decide +kernel
theorem dX8_meeting_3 : decode cX8_meeting 3 = .ok (.invokestatic 62, 3) := by decide +kernel
theorem dX8_meeting_6 : decode cX8_meeting 6 = .ok (.ifCond .ne 6, 3) := by decide +kernel
theorem dX8_meeting_9 : decode cX8_meeting 9 = .ok (.ldc 66, 2) := by decide +kernel
theorem dX8_meeting_11 : decode cX8_meeting 11 = .ok (.ireturn, 1) := by decide +kernel
theorem dX8_meeting_12 : decode cX8_meeting 12 = .ok (.iload_n 1, 1) := by decide +kernel
theorem dX8_meeting_13 : decode cX8_meeting 13 = .ok (.iconst (-1), 1) := by decide +kernel
theorem dX8_meeting_14 : decode cX8_meeting 14 = .ok (.if_icmp .ne 23, 3) := by decide +kernel
theorem dX8_meeting_17 : decode cX8_meeting 17 = .ok (.aload_n 0, 1) := by decide +kernel
theorem dX8_meeting_18 : decode cX8_meeting 18 = .ok (.aload_n 0, 1) := by decide +kernel
theorem dX8_meeting_19 : decode cX8_meeting 19 = .ok (.getfield 72, 3) := by decide +kernel
theorem dX8_meeting_22 : decode cX8_meeting 22 = .ok (.ldc 171, 2) := by decide +kernel
theorem dX8_meeting_24 : decode cX8_meeting 24 = .ok (.invokevirtual 172, 3) := by decide +kernel
theorem dX8_meeting_27 : decode cX8_meeting 27 = .ok (.aload_n 0, 1) := by decide +kernel
theorem dX8_meeting_28 : decode cX8_meeting 28 = .ok (.getfield 37, 3) := by decide +kernel
theorem dX8_meeting_31 : decode cX8_meeting 31 = .ok (.iconst 0, 1) := by decide +kernel
theorem dX8_meeting_32 : decode cX8_meeting 32 = .ok (.iload_n 2, 1) := by decide +kernel
theorem dX8_meeting_33 : decode cX8_meeting 33 = .ok (.invokevirtual 175, 3) := by decide +kernel
theorem dX8_meeting_36 : decode cX8_meeting 36 = .ok (.ireturn, 1) := by decide +kernel
theorem dX8_meeting_37 : decode cX8_meeting 37 = .ok (.aload_n 0, 1) := by decide +kernel
theorem dX8_meeting_38 : decode cX8_meeting 38 = .ok (.getfield 37, 3) := by decide +kernel
theorem dX8_meeting_41 : decode cX8_meeting 41 = .ok (.aload_n 0, 1) := by decide +kernel
theorem dX8_meeting_42 : decode cX8_meeting 42 = .ok (.iload_n 1, 1) := by decide +kernel
theorem dX8_meeting_43 : decode cX8_meeting 43 = .ok (.invokevirtual 177, 3) := by decide +kernel
theorem dX8_meeting_46 : decode cX8_meeting 46 = .ok (.iload_n 2, 1) := by decide +kernel
theorem dX8_meeting_47 : decode cX8_meeting 47 = .ok (.invokevirtual 175, 3) := by decide +kernel
theorem dX8_meeting_50 : decode cX8_meeting 50 = .ok (.ireturn, 1) := by decide +kernel
set_option maxRecDepth 20000 in
theorem ggX8_near_X8_isKnown : GoodIn wsX8_near wsX8_isKnown := goodIn_r _ [11, 12, 162, 163, 164, 165, 166, 167, 168, 169, 170, 171, 172] (by decide +kernel) (by decide +kernel)
set_option maxRecDepth 20000 in
theorem gX8_near_X8_isKnown : GoodIn wsX8_near (wsV RX8 79 RX8 yX8_isKnown wsX8_isKnown) := goodIn_app (goodIn_of _ (by decide +kernel)) ggX8_near_X8_isKnown
set_option maxRecDepth 20000 in
theorem ggX8_near_X8_isFromTo : GoodIn wsX8_near wsX8_isFromTo := goodIn_r _ [15] (by decide +kernel) (by decide +kernel)
set_option maxRecDepth 20000 in
theorem gX8_near_X8_isFromTo : GoodIn wsX8_near (va_wsS RX8 62 yX8_isFromTo wsX8_isFromTo) := goodIn_app (goodIn_of _ (by decide +kernel)) ggX8_near_X8_isFromTo
set_option maxRecDepth 20000 in
theorem ggX8_near_X8_isSpanAsked : GoodIn wsX8_near wsX8_isSpanAsked := goodIn_r _ [18, 13, 14, 10, 15] (by decide +kernel) (by decide +kernel)
set_option maxRecDepth 20000 in
theorem gX8_near_X8_isSpanAsked : GoodIn wsX8_near (va_wsS RX8 180 yX8_isSpanAsked wsX8_isSpanAsked) := goodIn_app (goodIn_of _ (by decide +kernel)) ggX8_near_X8_isSpanAsked
set_option maxRecDepth 20000 in
theorem ggX8_near_X6_seek : GoodIn wsX8_near wsX6_seek := goodIn_r _ [22, 23, 24, 173, 174, 175, 176, 177] (by decide +kernel) (by decide +kernel)
set_option maxRecDepth 20000 in
theorem gX8_near_X6_seek_n183 : GoodIn wsX8_near (wsX6_seek) := ggX8_near_X6_seek
set_option maxRecDepth 20000 in
theorem ggX8_near_X8_gatherBends : GoodIn wsX8_near wsX8_gatherBends := goodIn_r _ [28, 29, 5, 30, 31, 32, 10, 33, 12, 34, 35, 36, 37, 38, 39, 40, 41, 42, 43, 44, 45, 162, 163, 164, 165, 166, 167, 168, 169, 170, 171, 172, 178, 179, 180, 181, 182] (by decide +kernel) (by decide +kernel)
set_option maxRecDepth 20000 in
theorem gX8_near_X8_gatherBends : GoodIn wsX8_near (wsV RX8 186 RX8 yX8_gatherBends wsX8_gatherBends) := goodIn_app (goodIn_of _ (by decide +kernel)) ggX8_near_X8_gatherBends
set_option maxRecDepth 20000 in
theorem ggX8_near_X8_openStretch : GoodIn wsX8_near wsX8_openStretch := goodIn_r _ [49, 29, 6, 5, 50, 51, 52, 10, 53, 54, 12, 34, 55, 56, 57, 58, 59, 60, 61, 62, 63, 64, 65, 66, 36, 67, 68, 40, 45, 69, 70, 71, 72, 73, 74, 75, 76, 77, 78, 79, 80, 81, 39, 82, 83, 84, 85, 86, 87, 88, 89, 90, 91, 92, 93, 94, 95, 96, 97, 98, 99, 100, 162, 163, 164, 165, 166, 167, 168, 169, 170, 171, 172, 183, 184, 185, 186, 178, 179, 180, 181, 182, 187, 188, 189, 190, 191] (by decide +kernel) (by decide +kernel)
set_option maxRecDepth 20000 in
theorem gX8_near_X8_openStretch : GoodIn wsX8_near (wsV RX8 192 RX8 yX8_openStretch wsX8_openStretch) := goodIn_app (goodIn_of _ (by decide +kernel)) ggX8_near_X8_openStretch
set_option maxRecDepth 20000 in
theorem ggX8_near_X8_keepNear : GoodIn wsX8_near wsX8_keepNear := goodIn_r _ [104, 54, 6, 105, 56, 106, 107, 59, 63, 108, 86, 109, 110, 100, 111, 112, 113, 64, 114, 115, 116, 65, 117, 118, 119, 89, 99, 98, 120, 92, 121, 122, 123, 124, 125, 126, 43, 127, 128, 129, 130, 131, 91, 93, 132, 133, 134, 135, 136, 137, 138, 139, 140, 141, 142, 143, 144, 145, 162, 163, 164, 165, 166, 167, 168, 169, 170, 171, 172, 183, 184, 185, 186, 187, 188, 189, 190, 191] (by decide +kernel) (by decide +kernel)
set_option maxRecDepth 20000 in
theorem gX8_near_X8_keepNear : GoodIn wsX8_near (wsV RX8 195 RX8 yX8_keepNear wsX8_keepNear) := goodIn_app (goodIn_of _ (by decide +kernel)) ggX8_near_X8_keepNear
set_option maxRecDepth 20000 in
theorem ggX8_near_X6_addIfSo : GoodIn wsX8_near wsX6_addIfSo := goodIn_r _ [148, 149, 86, 150, 151, 98, 90, 89, 100, 99, 135, 92, 136, 132, 133, 134, 137, 138, 139, 140, 141, 142, 143, 144, 152, 153, 154, 20, 155, 24, 156, 23, 157, 158, 187, 188, 189, 190, 191, 173, 174, 175, 176, 177] (by decide +kernel) (by decide +kernel)
set_option maxRecDepth 20000 in
theorem gX8_near_X6_addIfSo_n198 : GoodIn wsX8_near (wsX6_addIfSo) := ggX8_near_X6_addIfSo
set_option maxRecDepth 20000 in
theorem ggX8_near_X6_tell : GoodIn wsX8_near wsX6_tell := goodIn_r _ [161, 23, 24, 157, 158, 135, 92, 136, 138, 139, 140, 173, 174, 175, 176, 177] (by decide +kernel) (by decide +kernel)
set_option maxRecDepth 20000 in
theorem gX8_near_X6_tell_n202 : GoodIn wsX8_near (wsX6_tell) := ggX8_near_X6_tell
theorem dX8_near_0 : decode cX8_near 0 = .ok (.aload_n 0, 1) := by decide +kernel
theorem dX8_near_1 : decode cX8_near 1 = .ok (.iload_n 1, 1) := by decide +kernel
theorem dX8_near_2 : decode cX8_near 2 = .ok (.invokevirtual 79, 3) := by decide +kernel
theorem dX8_near_5 : decode cX8_near 5 = .ok (.ifCond .eq 11, 3) := by decide +kernel
theorem dX8_near_8 : decode cX8_near 8 = .ok (.aload_n 0, 1) := by decide +kernel
theorem dX8_near_9 : decode cX8_near 9 = .ok (.iload_n 2, 1) := by decide +kernel
theorem dX8_near_10 : decode cX8_near 10 = .ok (.invokevirtual 79, 3) := by decide +kernel
theorem dX8_near_13 : decode cX8_near 13 = .ok (.ifCond .ne 6, 3) := by decide +kernel
theorem dX8_near_16 : decode cX8_near 16 = .ok (.ldc 83, 2) := by decide +kernel
theorem dX8_near_18 : decode cX8_near 18 = .ok (.ireturn, 1) := by decide +kernel
theorem dX8_near_19 : decode cX8_near 19 = .ok (.iload_n 3, 1) := by decide +kernel
theorem dX8_near_20 : decode cX8_near 20 = .ok (.iconst 0, 1) := by decide +kernel
theorem dX8_near_21 : decode cX8_near 21 = .ok (.sipush 2000, 3) := by decide +kernel
theorem dX8_near_24 : decode cX8_near 24 = .ok (.invokestatic 62, 3) := by decide +kernel
theorem dX8_near_27 : decode cX8_near 27 = .ok (.ifCond .eq 13, 3) := by decide +kernel
theorem dX8_near_30 : decode cX8_near 30 = .ok (.iload 4, 2) := by decide +kernel
theorem dX8_near_32 : decode cX8_near 32 = .ok (.iload 6, 2) := by decide +kernel
theorem dX8_near_34 : decode cX8_near 34 = .ok (.invokestatic 180, 3) := by decide +kernel
theorem dX8_near_37 : decode cX8_near 37 = .ok (.ifCond .ne 6, 3) := by decide +kernel
theorem dX8_near_40 : decode cX8_near 40 = .ok (.ldc 66, 2) := by decide +kernel
theorem dX8_near_42 : decode cX8_near 42 = .ok (.ireturn, 1) := by decide +kernel
theorem dX8_near_43 : decode cX8_near 43 = .ok (.iload_n 1, 1) := by decide +kernel
theorem dX8_near_44 : decode cX8_near 44 = .ok (.iload_n 2, 1) := by decide +kernel
theorem dX8_near_45 : decode cX8_near 45 = .ok (.if_icmp .ne 6, 3) := by decide +kernel
theorem dX8_near_48 : decode cX8_near 48 = .ok (.ldc 88, 2) := by decide +kernel
theorem dX8_near_50 : decode cX8_near 50 = .ok (.ireturn, 1) := by decide +kernel
theorem dX8_near_51 : decode cX8_near 51 = .ok (.aload_n 0, 1) := by decide +kernel
theorem dX8_near_52 : decode cX8_near 52 = .ok (.getfield 58, 3) := by decide +kernel
theorem dX8_near_55 : decode cX8_near 55 = .ok (.iload 5, 2) := by decide +kernel
theorem dX8_near_57 : decode cX8_near 57 = .ok (.invokevirtual 183, 3) := by decide +kernel
theorem dX8_near_60 : decode cX8_near 60 = .ok (.aload_n 0, 1) := by decide +kernel
theorem dX8_near_61 : decode cX8_near 61 = .ok (.iload 4, 2) := by decide +kernel
theorem dX8_near_63 : decode cX8_near 63 = .ok (.invokevirtual 186, 3) := by decide +kernel
theorem dX8_near_66 : decode cX8_near 66 = .ok (.iconst 0, 1) := by decide +kernel
theorem dX8_near_67 : decode cX8_near 67 = .ok (.istore 7, 2) := by decide +kernel
theorem dX8_near_69 : decode cX8_near 69 = .ok (.iload 7, 2) := by decide +kernel
theorem dX8_near_71 : decode cX8_near 71 = .ok (.aload_n 0, 1) := by decide +kernel
theorem dX8_near_72 : decode cX8_near 72 = .ok (.getfield 189, 3) := by decide +kernel
theorem dX8_near_75 : decode cX8_near 75 = .ok (.if_icmp .ge 33, 3) := by decide +kernel
theorem dX8_near_78 : decode cX8_near 78 = .ok (.aload_n 0, 1) := by decide +kernel
theorem dX8_near_79 : decode cX8_near 79 = .ok (.iload 7, 2) := by decide +kernel
theorem dX8_near_81 : decode cX8_near 81 = .ok (.invokevirtual 192, 3) := by decide +kernel
theorem dX8_near_84 : decode cX8_near 84 = .ok (.aload_n 0, 1) := by decide +kernel
theorem dX8_near_85 : decode cX8_near 85 = .ok (.iload_n 1, 1) := by decide +kernel
theorem dX8_near_86 : decode cX8_near 86 = .ok (.iload_n 2, 1) := by decide +kernel
theorem dX8_near_87 : decode cX8_near 87 = .ok (.iload_n 3, 1) := by decide +kernel
theorem dX8_near_88 : decode cX8_near 88 = .ok (.invokevirtual 195, 3) := by decide +kernel
theorem dX8_near_91 : decode cX8_near 91 = .ok (.aload_n 0, 1) := by decide +kernel
theorem dX8_near_92 : decode cX8_near 92 = .ok (.getfield 58, 3) := by decide +kernel
theorem dX8_near_95 : decode cX8_near 95 = .ok (.aload_n 0, 1) := by decide +kernel
theorem dX8_near_96 : decode cX8_near 96 = .ok (.getfield 44, 3) := by decide +kernel
theorem dX8_near_99 : decode cX8_near 99 = .ok (.invokevirtual 198, 3) := by decide +kernel
theorem dX8_near_102 : decode cX8_near 102 = .ok (.iinc 7 1, 3) := by decide +kernel
theorem dX8_near_105 : decode cX8_near 105 = .ok (.goto (-36), 3) := by decide +kernel
theorem dX8_near_108 : decode cX8_near 108 = .ok (.aload_n 0, 1) := by decide +kernel
theorem dX8_near_109 : decode cX8_near 109 = .ok (.getfield 58, 3) := by decide +kernel
theorem dX8_near_112 : decode cX8_near 112 = .ok (.iload 6, 2) := by decide +kernel
theorem dX8_near_114 : decode cX8_near 114 = .ok (.invokevirtual 202, 3) := by decide +kernel
theorem dX8_near_117 : decode cX8_near 117 = .ok (.ireturn, 1) := by decide +kernel
set_option maxRecDepth 20000 in
theorem ggX8_first_X8_isKnown : GoodIn wsX8_first wsX8_isKnown := goodIn_r _ [10, 11, 161, 162, 163, 164, 165, 166, 167, 168, 169, 170, 171] (by decide +kernel) (by decide +kernel)
set_option maxRecDepth 20000 in
theorem gX8_first_X8_isKnown : GoodIn wsX8_first (wsV RX8 79 RX8 yX8_isKnown wsX8_isKnown) := goodIn_app (goodIn_of _ (by decide +kernel)) ggX8_first_X8_isKnown
set_option maxRecDepth 20000 in
theorem ggX8_first_X8_isSpanAsked : GoodIn wsX8_first wsX8_isSpanAsked := goodIn_r _ [14, 15, 16, 9, 17] (by decide +kernel) (by decide +kernel)
set_option maxRecDepth 20000 in
theorem gX8_first_X8_isSpanAsked : GoodIn wsX8_first (va_wsS RX8 180 yX8_isSpanAsked wsX8_isSpanAsked) := goodIn_app (goodIn_of _ (by decide +kernel)) ggX8_first_X8_isSpanAsked
set_option maxRecDepth 20000 in
theorem ggX8_first_X6_seek : GoodIn wsX8_first wsX6_seek := goodIn_r _ [21, 22, 23, 172, 173, 174, 175, 176] (by decide +kernel) (by decide +kernel)
set_option maxRecDepth 20000 in
theorem gX8_first_X6_seek_n183 : GoodIn wsX8_first (wsX6_seek) := ggX8_first_X6_seek
set_option maxRecDepth 20000 in
theorem ggX8_first_X8_gatherBends : GoodIn wsX8_first wsX8_gatherBends := goodIn_r _ [27, 28, 4, 29, 30, 31, 9, 32, 11, 33, 34, 35, 36, 37, 38, 39, 40, 41, 42, 43, 44, 161, 162, 163, 164, 165, 166, 167, 168, 169, 170, 171, 177, 178, 179, 180, 181] (by decide +kernel) (by decide +kernel)
set_option maxRecDepth 20000 in
theorem gX8_first_X8_gatherBends : GoodIn wsX8_first (wsV RX8 186 RX8 yX8_gatherBends wsX8_gatherBends) := goodIn_app (goodIn_of _ (by decide +kernel)) ggX8_first_X8_gatherBends
set_option maxRecDepth 20000 in
theorem ggX8_first_X8_openStretch : GoodIn wsX8_first wsX8_openStretch := goodIn_r _ [48, 28, 5, 4, 49, 50, 51, 9, 52, 53, 11, 33, 54, 55, 56, 57, 58, 59, 60, 61, 62, 63, 64, 65, 35, 66, 67, 39, 44, 68, 69, 70, 71, 72, 73, 74, 75, 76, 77, 78, 79, 80, 38, 81, 82, 83, 84, 85, 86, 87, 88, 89, 90, 91, 92, 93, 94, 95, 96, 97, 98, 99, 161, 162, 163, 164, 165, 166, 167, 168, 169, 170, 171, 182, 183, 184, 185, 177, 178, 179, 180, 181, 186, 187, 188, 189, 190] (by decide +kernel) (by decide +kernel)
set_option maxRecDepth 20000 in
theorem gX8_first_X8_openStretch : GoodIn wsX8_first (wsV RX8 192 RX8 yX8_openStretch wsX8_openStretch) := goodIn_app (goodIn_of _ (by decide +kernel)) ggX8_first_X8_openStretch
set_option maxRecDepth 20000 in
theorem ggX8_first_X8_keepFirst : GoodIn wsX8_first wsX8_keepFirst := goodIn_r _ [103, 53, 5, 11, 104, 55, 105, 106, 58, 62, 107, 85, 108, 109, 99, 110, 111, 112, 63, 113, 114, 115, 64, 116, 117, 118, 88, 98, 97, 119, 91, 120, 121, 122, 123, 124, 125, 42, 126, 127, 128, 129, 130, 90, 92, 131, 132, 133, 134, 135, 136, 137, 138, 139, 140, 141, 142, 143, 144, 161, 162, 163, 164, 165, 166, 167, 168, 169, 170, 171, 182, 183, 184, 185, 186, 187, 188, 189, 190] (by decide +kernel) (by decide +kernel)
set_option maxRecDepth 20000 in
theorem gX8_first_X8_keepFirst : GoodIn wsX8_first (wsV RX8 203 RX8 yX8_keepFirst wsX8_keepFirst) := goodIn_app (goodIn_of _ (by decide +kernel)) ggX8_first_X8_keepFirst
set_option maxRecDepth 20000 in
theorem ggX8_first_X6_addIfSo : GoodIn wsX8_first wsX6_addIfSo := goodIn_r _ [147, 148, 85, 149, 150, 97, 89, 88, 99, 98, 134, 91, 135, 131, 132, 133, 136, 137, 138, 139, 140, 141, 142, 143, 151, 152, 153, 19, 154, 23, 155, 22, 156, 157, 186, 187, 188, 189, 190, 172, 173, 174, 175, 176] (by decide +kernel) (by decide +kernel)
set_option maxRecDepth 20000 in
theorem gX8_first_X6_addIfSo_n198 : GoodIn wsX8_first (wsX6_addIfSo) := ggX8_first_X6_addIfSo
set_option maxRecDepth 20000 in
theorem ggX8_first_X6_tell : GoodIn wsX8_first wsX6_tell := goodIn_r _ [160, 22, 23, 156, 157, 134, 91, 135, 137, 138, 139, 172, 173, 174, 175, 176] (by decide +kernel) (by decide +kernel)
set_option maxRecDepth 20000 in
theorem gX8_first_X6_tell_n202 : GoodIn wsX8_first (wsX6_tell) := ggX8_first_X6_tell
theorem dX8_first_0 : decode cX8_first 0 = .ok (.aload_n 0, 1) := by decide +kernel
theorem dX8_first_1 : decode cX8_first 1 = .ok (.iload_n 1, 1) := by decide +kernel
theorem dX8_first_2 : decode cX8_first 2 = .ok (.invokevirtual 79, 3) := by decide +kernel
theorem dX8_first_5 : decode cX8_first 5 = .ok (.ifCond .ne 6, 3) := by decide +kernel
theorem dX8_first_8 : decode cX8_first 8 = .ok (.ldc 83, 2) := by decide +kernel
theorem dX8_first_10 : decode cX8_first 10 = .ok (.ireturn, 1) := by decide +kernel
theorem dX8_first_11 : decode cX8_first 11 = .ok (.iload_n 2, 1) := by decide +kernel
theorem dX8_first_12 : decode cX8_first 12 = .ok (.iload 4, 2) := by decide +kernel
theorem dX8_first_14 : decode cX8_first 14 = .ok (.invokestatic 180, 3) := by decide +kernel
theorem dX8_first_17 : decode cX8_first 17 = .ok (.ifCond .ne 6, 3) := by decide +kernel
theorem dX8_first_20 : decode cX8_first 20 = .ok (.ldc 66, 2) := by decide +kernel
theorem dX8_first_22 : decode cX8_first 22 = .ok (.ireturn, 1) := by decide +kernel
theorem dX8_first_23 : decode cX8_first 23 = .ok (.aload_n 0, 1) := by decide +kernel
theorem dX8_first_24 : decode cX8_first 24 = .ok (.getfield 58, 3) := by decide +kernel
theorem dX8_first_27 : decode cX8_first 27 = .ok (.iload_n 3, 1) := by decide +kernel
theorem dX8_first_28 : decode cX8_first 28 = .ok (.invokevirtual 183, 3) := by decide +kernel
theorem dX8_first_31 : decode cX8_first 31 = .ok (.aload_n 0, 1) := by decide +kernel
theorem dX8_first_32 : decode cX8_first 32 = .ok (.iload_n 2, 1) := by decide +kernel
theorem dX8_first_33 : decode cX8_first 33 = .ok (.invokevirtual 186, 3) := by decide +kernel
theorem dX8_first_36 : decode cX8_first 36 = .ok (.iconst 0, 1) := by decide +kernel
theorem dX8_first_37 : decode cX8_first 37 = .ok (.istore 5, 2) := by decide +kernel
theorem dX8_first_39 : decode cX8_first 39 = .ok (.iload 5, 2) := by decide +kernel
theorem dX8_first_41 : decode cX8_first 41 = .ok (.aload_n 0, 1) := by decide +kernel
theorem dX8_first_42 : decode cX8_first 42 = .ok (.getfield 189, 3) := by decide +kernel
theorem dX8_first_45 : decode cX8_first 45 = .ok (.if_icmp .ge 31, 3) := by decide +kernel
theorem dX8_first_48 : decode cX8_first 48 = .ok (.aload_n 0, 1) := by decide +kernel
theorem dX8_first_49 : decode cX8_first 49 = .ok (.iload 5, 2) := by decide +kernel
theorem dX8_first_51 : decode cX8_first 51 = .ok (.invokevirtual 192, 3) := by decide +kernel
theorem dX8_first_54 : decode cX8_first 54 = .ok (.aload_n 0, 1) := by decide +kernel
theorem dX8_first_55 : decode cX8_first 55 = .ok (.iload_n 1, 1) := by decide +kernel
theorem dX8_first_56 : decode cX8_first 56 = .ok (.invokevirtual 203, 3) := by decide +kernel
theorem dX8_first_59 : decode cX8_first 59 = .ok (.aload_n 0, 1) := by decide +kernel
theorem dX8_first_60 : decode cX8_first 60 = .ok (.getfield 58, 3) := by decide +kernel
theorem dX8_first_63 : decode cX8_first 63 = .ok (.aload_n 0, 1) := by decide +kernel
theorem dX8_first_64 : decode cX8_first 64 = .ok (.getfield 44, 3) := by decide +kernel
theorem dX8_first_67 : decode cX8_first 67 = .ok (.invokevirtual 198, 3) := by decide +kernel
theorem dX8_first_70 : decode cX8_first 70 = .ok (.iinc 5 1, 3) := by decide +kernel
theorem dX8_first_73 : decode cX8_first 73 = .ok (.goto (-34), 3) := by decide +kernel
theorem dX8_first_76 : decode cX8_first 76 = .ok (.aload_n 0, 1) := by decide +kernel
theorem dX8_first_77 : decode cX8_first 77 = .ok (.getfield 58, 3) := by decide +kernel
theorem dX8_first_80 : decode cX8_first 80 = .ok (.iload 4, 2) := by decide +kernel
theorem dX8_first_82 : decode cX8_first 82 = .ok (.invokevirtual 202, 3) := by decide +kernel
theorem dX8_first_85 : decode cX8_first 85 = .ok (.ireturn, 1) := by decide +kernel
set_option maxRecDepth 20000 in
theorem ggX8_within_X8_isWindow : GoodIn wsX8_within wsX8_isWindow := goodIn_r _ [7, 8, 9] (by decide +kernel) (by decide +kernel)
set_option maxRecDepth 20000 in
theorem gX8_within_X8_isWindow : GoodIn wsX8_within (va_wsS RX8 206 yX8_isWindow wsX8_isWindow) := goodIn_app (goodIn_of _ (by decide +kernel)) ggX8_within_X8_isWindow
set_option maxRecDepth 20000 in
theorem ggX8_within_X8_isFromTo : GoodIn wsX8_within wsX8_isFromTo := goodIn_r _ [12] (by decide +kernel) (by decide +kernel)
set_option maxRecDepth 20000 in
theorem gX8_within_X8_isFromTo : GoodIn wsX8_within (va_wsS RX8 62 yX8_isFromTo wsX8_isFromTo) := goodIn_app (goodIn_of _ (by decide +kernel)) ggX8_within_X8_isFromTo
set_option maxRecDepth 20000 in
theorem ggX8_within_X8_isSpanAsked : GoodIn wsX8_within wsX8_isSpanAsked := goodIn_r _ [15, 10, 11, 6, 12] (by decide +kernel) (by decide +kernel)
set_option maxRecDepth 20000 in
theorem gX8_within_X8_isSpanAsked : GoodIn wsX8_within (va_wsS RX8 180 yX8_isSpanAsked wsX8_isSpanAsked) := goodIn_app (goodIn_of _ (by decide +kernel)) ggX8_within_X8_isSpanAsked
set_option maxRecDepth 20000 in
theorem ggX8_within_X6_seek : GoodIn wsX8_within wsX6_seek := goodIn_r _ [19, 20, 21, 181, 182, 183, 184, 185] (by decide +kernel) (by decide +kernel)
set_option maxRecDepth 20000 in
theorem gX8_within_X6_seek_n183 : GoodIn wsX8_within (wsX6_seek) := ggX8_within_X6_seek
set_option maxRecDepth 20000 in
theorem ggX8_within_X8_gatherBends : GoodIn wsX8_within wsX8_gatherBends := goodIn_r _ [25, 26, 3, 27, 28, 29, 6, 30, 31, 32, 33, 34, 35, 36, 37, 38, 39, 40, 41, 42, 43, 170, 171, 172, 173, 174, 175, 176, 177, 178, 179, 180, 186, 187, 188, 189, 190] (by decide +kernel) (by decide +kernel)
set_option maxRecDepth 20000 in
theorem gX8_within_X8_gatherBends : GoodIn wsX8_within (wsV RX8 186 RX8 yX8_gatherBends wsX8_gatherBends) := goodIn_app (goodIn_of _ (by decide +kernel)) ggX8_within_X8_gatherBends
set_option maxRecDepth 20000 in
theorem ggX8_within_X8_openStretch : GoodIn wsX8_within wsX8_openStretch := goodIn_r _ [47, 26, 48, 3, 49, 50, 51, 6, 52, 53, 31, 32, 54, 55, 56, 57, 58, 59, 60, 61, 62, 63, 64, 65, 34, 66, 67, 38, 43, 68, 69, 70, 71, 72, 73, 74, 75, 76, 77, 78, 79, 80, 37, 81, 82, 83, 84, 85, 86, 87, 88, 89, 90, 91, 92, 93, 94, 95, 96, 97, 98, 99, 170, 171, 172, 173, 174, 175, 176, 177, 178, 179, 180, 191, 192, 193, 194, 186, 187, 188, 189, 190, 195, 196, 197, 198, 199] (by decide +kernel) (by decide +kernel)
set_option maxRecDepth 20000 in
theorem gX8_within_X8_openStretch : GoodIn wsX8_within (wsV RX8 192 RX8 yX8_openStretch wsX8_openStretch) := goodIn_app (goodIn_of _ (by decide +kernel)) ggX8_within_X8_openStretch
set_option maxRecDepth 20000 in
theorem ggX8_within_X8_gatherCrowd : GoodIn wsX8_within wsX8_gatherCrowd := goodIn_r _ [103, 104, 31, 53, 48, 105, 106, 107, 108, 109, 110, 55, 111, 112, 58, 62, 94, 85, 95, 96, 88, 97, 89, 98, 99, 90, 91, 92, 113, 114, 115, 116, 117, 118, 119, 120, 121, 122, 41, 123, 124, 125, 126, 127, 128, 129, 130, 131, 132, 133, 134, 135, 136, 137, 138, 139, 140, 141, 142, 143, 144, 145, 146, 147, 148, 149, 150, 151, 152, 153, 154, 155, 156, 170, 171, 172, 173, 174, 175, 176, 177, 178, 179, 180, 191, 192, 193, 194, 200, 201, 202, 195, 196, 197, 198, 199] (by decide +kernel) (by decide +kernel)
set_option maxRecDepth 20000 in
theorem gX8_within_X8_gatherCrowd : GoodIn wsX8_within (wsV RX8 209 RX8 yX8_gatherCrowd wsX8_gatherCrowd) := goodIn_app (goodIn_of _ (by decide +kernel)) ggX8_within_X8_gatherCrowd
set_option maxRecDepth 20000 in
theorem ggX8_within_X8_addCrowded : GoodIn wsX8_within wsX8_addCrowded := goodIn_r _ [160, 104, 2, 128, 91, 129, 130, 131, 132, 133, 134, 135, 136, 137, 138, 139, 140, 161, 17, 162, 163, 21, 164, 20, 165, 166, 170, 171, 172, 173, 174, 175, 176, 177, 178, 179, 180, 200, 201, 202, 181, 182, 183, 184, 185] (by decide +kernel) (by decide +kernel)
set_option maxRecDepth 20000 in
theorem gX8_within_X8_addCrowded : GoodIn wsX8_within (wsV RX8 212 RX8 yX8_addCrowded wsX8_addCrowded) := goodIn_app (goodIn_of _ (by decide +kernel)) ggX8_within_X8_addCrowded
set_option maxRecDepth 20000 in
theorem ggX8_within_X6_tell : GoodIn wsX8_within wsX6_tell := goodIn_r _ [169, 20, 21, 165, 166, 131, 91, 132, 134, 135, 136, 181, 182, 183, 184, 185] (by decide +kernel) (by decide +kernel)
set_option maxRecDepth 20000 in
theorem gX8_within_X6_tell_n202 : GoodIn wsX8_within (wsX6_tell) := ggX8_within_X6_tell
theorem dX8_within_0 : decode cX8_within 0 = .ok (.iload_n 1, 1) := by decide +kernel
theorem dX8_within_1 : decode cX8_within 1 = .ok (.iload_n 2, 1) := by decide +kernel
theorem dX8_within_2 : decode cX8_within 2 = .ok (.invokestatic 206, 3) := by decide +kernel
theorem dX8_within_5 : decode cX8_within 5 = .ok (.ifCond .eq 23, 3) := by decide +kernel
theorem dX8_within_8 : decode cX8_within 8 = .ok (.iload_n 3, 1) := by decide +kernel
theorem dX8_within_9 : decode cX8_within 9 = .ok (.iconst 1, 1) := by decide +kernel
theorem dX8_within_10 : decode cX8_within 10 = .ok (.bipush 10, 2) := by decide +kernel
theorem dX8_within_12 : decode cX8_within 12 = .ok (.invokestatic 62, 3) := by decide +kernel
theorem dX8_within_15 : decode cX8_within 15 = .ok (.ifCond .eq 13, 3) := by decide +kernel
theorem dX8_within_18 : decode cX8_within 18 = .ok (.iload 4, 2) := by decide +kernel
theorem dX8_within_20 : decode cX8_within 20 = .ok (.iload 6, 2) := by decide +kernel
theorem dX8_within_22 : decode cX8_within 22 = .ok (.invokestatic 180, 3) := by decide +kernel
theorem dX8_within_25 : decode cX8_within 25 = .ok (.ifCond .ne 6, 3) := by decide +kernel
theorem dX8_within_28 : decode cX8_within 28 = .ok (.ldc 66, 2) := by decide +kernel
theorem dX8_within_30 : decode cX8_within 30 = .ok (.ireturn, 1) := by decide +kernel
theorem dX8_within_31 : decode cX8_within 31 = .ok (.aload_n 0, 1) := by decide +kernel
theorem dX8_within_32 : decode cX8_within 32 = .ok (.getfield 58, 3) := by decide +kernel
theorem dX8_within_35 : decode cX8_within 35 = .ok (.iload 5, 2) := by decide +kernel
theorem dX8_within_37 : decode cX8_within 37 = .ok (.invokevirtual 183, 3) := by decide +kernel
theorem dX8_within_40 : decode cX8_within 40 = .ok (.aload_n 0, 1) := by decide +kernel
theorem dX8_within_41 : decode cX8_within 41 = .ok (.iload 4, 2) := by decide +kernel
theorem dX8_within_43 : decode cX8_within 43 = .ok (.invokevirtual 186, 3) := by decide +kernel
theorem dX8_within_46 : decode cX8_within 46 = .ok (.iconst 0, 1) := by decide +kernel
theorem dX8_within_47 : decode cX8_within 47 = .ok (.istore 7, 2) := by decide +kernel
theorem dX8_within_49 : decode cX8_within 49 = .ok (.iload 7, 2) := by decide +kernel
theorem dX8_within_51 : decode cX8_within 51 = .ok (.aload_n 0, 1) := by decide +kernel
theorem dX8_within_52 : decode cX8_within 52 = .ok (.getfield 189, 3) := by decide +kernel
theorem dX8_within_55 : decode cX8_within 55 = .ok (.if_icmp .ge 26, 3) := by decide +kernel
theorem dX8_within_58 : decode cX8_within 58 = .ok (.aload_n 0, 1) := by decide +kernel
theorem dX8_within_59 : decode cX8_within 59 = .ok (.iload 7, 2) := by decide +kernel
theorem dX8_within_61 : decode cX8_within 61 = .ok (.invokevirtual 192, 3) := by decide +kernel
theorem dX8_within_64 : decode cX8_within 64 = .ok (.aload_n 0, 1) := by decide +kernel
theorem dX8_within_65 : decode cX8_within 65 = .ok (.iload_n 1, 1) := by decide +kernel
theorem dX8_within_66 : decode cX8_within 66 = .ok (.iload_n 2, 1) := by decide +kernel
theorem dX8_within_67 : decode cX8_within 67 = .ok (.invokevirtual 209, 3) := by decide +kernel
theorem dX8_within_70 : decode cX8_within 70 = .ok (.aload_n 0, 1) := by decide +kernel
theorem dX8_within_71 : decode cX8_within 71 = .ok (.iload_n 3, 1) := by decide +kernel
theorem dX8_within_72 : decode cX8_within 72 = .ok (.invokevirtual 212, 3) := by decide +kernel
theorem dX8_within_75 : decode cX8_within 75 = .ok (.iinc 7 1, 3) := by decide +kernel
theorem dX8_within_78 : decode cX8_within 78 = .ok (.goto (-29), 3) := by decide +kernel
theorem dX8_within_81 : decode cX8_within 81 = .ok (.aload_n 0, 1) := by decide +kernel
theorem dX8_within_82 : decode cX8_within 82 = .ok (.getfield 58, 3) := by decide +kernel
theorem dX8_within_85 : decode cX8_within 85 = .ok (.iload 6, 2) := by decide +kernel
theorem dX8_within_87 : decode cX8_within 87 = .ok (.invokevirtual 202, 3) := by decide +kernel
theorem dX8_within_90 : decode cX8_within 90 = .ok (.ireturn, 1) := by decide +kernel
theorem dX8_isFromTo_0 : decode cX8_isFromTo 0 = .ok (.iload_n 0, 1) := by decide +kernel
theorem dX8_isFromTo_1 : decode cX8_isFromTo 1 = .ok (.iload_n 1, 1) := by decide +kernel
theorem dX8_isFromTo_2 : decode cX8_isFromTo 2 = .ok (.if_icmp .lt 12, 3) := by decide +kernel
theorem dX8_isFromTo_5 : decode cX8_isFromTo 5 = .ok (.iload_n 0, 1) := by decide +kernel
theorem dX8_isFromTo_6 : decode cX8_isFromTo 6 = .ok (.iload_n 2, 1) := by decide +kernel
theorem dX8_isFromTo_7 : decode cX8_isFromTo 7 = .ok (.if_icmp .gt 7, 3) := by decide +kernel
theorem dX8_isFromTo_10 : decode cX8_isFromTo 10 = .ok (.iconst 1, 1) := by decide +kernel
theorem dX8_isFromTo_11 : decode cX8_isFromTo 11 = .ok (.goto 4, 3) := by decide +kernel
theorem dX8_isFromTo_14 : decode cX8_isFromTo 14 = .ok (.iconst 0, 1) := by decide +kernel
theorem dX8_isFromTo_15 : decode cX8_isFromTo 15 = .ok (.ireturn, 1) := by decide +kernel
theorem dX8_isKnown_0 : decode cX8_isKnown 0 = .ok (.iload_n 1, 1) := by decide +kernel
theorem dX8_isKnown_1 : decode cX8_isKnown 1 = .ok (.ifCond .lt 15, 3) := by decide +kernel
theorem dX8_isKnown_4 : decode cX8_isKnown 4 = .ok (.iload_n 1, 1) := by decide +kernel
theorem dX8_isKnown_5 : decode cX8_isKnown 5 = .ok (.aload_n 0, 1) := by decide +kernel
theorem dX8_isKnown_6 : decode cX8_isKnown 6 = .ok (.getfield 67, 3) := by decide +kernel
theorem dX8_isKnown_9 : decode cX8_isKnown 9 = .ok (.if_icmp .ge 7, 3) := by decide +kernel
theorem dX8_isKnown_12 : decode cX8_isKnown 12 = .ok (.iconst 1, 1) := by decide +kernel
theorem dX8_isKnown_13 : decode cX8_isKnown 13 = .ok (.goto 4, 3) := by decide +kernel
theorem dX8_isKnown_16 : decode cX8_isKnown 16 = .ok (.iconst 0, 1) := by decide +kernel
theorem dX8_isKnown_17 : decode cX8_isKnown 17 = .ok (.ireturn, 1) := by decide +kernel
set_option maxRecDepth 20000 in
theorem ggX8_isMoment_X8_isFromTo : GoodIn wsX8_isMoment wsX8_isFromTo := goodIn_r _ [4] (by decide +kernel) (by decide +kernel)
set_option maxRecDepth 20000 in
theorem gX8_isMoment_X8_isFromTo : GoodIn wsX8_isMoment (va_wsS RX8 62 yX8_isFromTo wsX8_isFromTo) := goodIn_app (goodIn_of _ (by decide +kernel)) ggX8_isMoment_X8_isFromTo
theorem dX8_isMoment_0 : decode cX8_isMoment 0 = .ok (.iload_n 1, 1) := by decide +kernel
theorem dX8_isMoment_1 : decode cX8_isMoment 1 = .ok (.iconst 1, 1) := by decide +kernel
theorem dX8_isMoment_2 : decode cX8_isMoment 2 = .ok (.sipush 200, 3) := by decide +kernel
theorem dX8_isMoment_5 : decode cX8_isMoment 5 = .ok (.invokestatic 62, 3) := by decide +kernel
theorem dX8_isMoment_8 : decode cX8_isMoment 8 = .ok (.ifCond .eq 20, 3) := by decide +kernel
theorem dX8_isMoment_11 : decode cX8_isMoment 11 = .ok (.iload_n 0, 1) := by decide +kernel
theorem dX8_isMoment_12 : decode cX8_isMoment 12 = .ok (.iconst 0, 1) := by decide +kernel
theorem dX8_isMoment_13 : decode cX8_isMoment 13 = .ok (.sipush 600, 3) := by decide +kernel
theorem dX8_isMoment_16 : decode cX8_isMoment 16 = .ok (.iload_n 1, 1) := by decide +kernel
theorem dX8_isMoment_17 : decode cX8_isMoment 17 = .ok (.imul, 1) := by decide +kernel
theorem dX8_isMoment_18 : decode cX8_isMoment 18 = .ok (.invokestatic 62, 3) := by decide +kernel
theorem dX8_isMoment_21 : decode cX8_isMoment 21 = .ok (.ifCond .eq 7, 3) := by decide +kernel
theorem dX8_isMoment_24 : decode cX8_isMoment 24 = .ok (.iconst 1, 1) := by decide +kernel
theorem dX8_isMoment_25 : decode cX8_isMoment 25 = .ok (.goto 4, 3) := by decide +kernel
theorem dX8_isMoment_28 : decode cX8_isMoment 28 = .ok (.iconst 0, 1) := by decide +kernel
theorem dX8_isMoment_29 : decode cX8_isMoment 29 = .ok (.ireturn, 1) := by decide +kernel
set_option maxRecDepth 20000 in
theorem ggX8_isSpanAsked_X8_isFromTo : GoodIn wsX8_isSpanAsked wsX8_isFromTo := goodIn_r _ [4] (by decide +kernel) (by decide +kernel)
set_option maxRecDepth 20000 in
theorem gX8_isSpanAsked_X8_isFromTo : GoodIn wsX8_isSpanAsked (va_wsS RX8 62 yX8_isFromTo wsX8_isFromTo) := goodIn_app (goodIn_of _ (by decide +kernel)) ggX8_isSpanAsked_X8_isFromTo
theorem dX8_isSpanAsked_0 : decode cX8_isSpanAsked 0 = .ok (.iload_n 0, 1) := by decide +kernel
theorem dX8_isSpanAsked_1 : decode cX8_isSpanAsked 1 = .ok (.iconst 1, 1) := by decide +kernel
theorem dX8_isSpanAsked_2 : decode cX8_isSpanAsked 2 = .ok (.sipush 600, 3) := by decide +kernel
theorem dX8_isSpanAsked_5 : decode cX8_isSpanAsked 5 = .ok (.invokestatic 62, 3) := by decide +kernel
theorem dX8_isSpanAsked_8 : decode cX8_isSpanAsked 8 = .ok (.ifCond .eq 16, 3) := by decide +kernel
theorem dX8_isSpanAsked_11 : decode cX8_isSpanAsked 11 = .ok (.iload_n 1, 1) := by decide +kernel
theorem dX8_isSpanAsked_12 : decode cX8_isSpanAsked 12 = .ok (.iconst 0, 1) := by decide +kernel
theorem dX8_isSpanAsked_13 : decode cX8_isSpanAsked 13 = .ok (.iconst 3, 1) := by decide +kernel
theorem dX8_isSpanAsked_14 : decode cX8_isSpanAsked 14 = .ok (.invokestatic 62, 3) := by decide +kernel
theorem dX8_isSpanAsked_17 : decode cX8_isSpanAsked 17 = .ok (.ifCond .eq 7, 3) := by decide +kernel
theorem dX8_isSpanAsked_20 : decode cX8_isSpanAsked 20 = .ok (.iconst 1, 1) := by decide +kernel
theorem dX8_isSpanAsked_21 : decode cX8_isSpanAsked 21 = .ok (.goto 4, 3) := by decide +kernel
theorem dX8_isSpanAsked_24 : decode cX8_isSpanAsked 24 = .ok (.iconst 0, 1) := by decide +kernel
theorem dX8_isSpanAsked_25 : decode cX8_isSpanAsked 25 = .ok (.ireturn, 1) := by decide +kernel
theorem dX8_isWindow_0 : decode cX8_isWindow 0 = .ok (.iload_n 0, 1) := by decide +kernel
theorem dX8_isWindow_1 : decode cX8_isWindow 1 = .ok (.ldc 215, 2) := by decide +kernel
theorem dX8_isWindow_3 : decode cX8_isWindow 3 = .ok (.if_icmp .lt 18, 3) := by decide +kernel
theorem dX8_isWindow_6 : decode cX8_isWindow 6 = .ok (.iload_n 0, 1) := by decide +kernel
theorem dX8_isWindow_7 : decode cX8_isWindow 7 = .ok (.iload_n 1, 1) := by decide +kernel
theorem dX8_isWindow_8 : decode cX8_isWindow 8 = .ok (.if_icmp .gt 13, 3) := by decide +kernel
theorem dX8_isWindow_11 : decode cX8_isWindow 11 = .ok (.iload_n 1, 1) := by decide +kernel
theorem dX8_isWindow_12 : decode cX8_isWindow 12 = .ok (.ldc 216, 2) := by decide +kernel
theorem dX8_isWindow_14 : decode cX8_isWindow 14 = .ok (.if_icmp .gt 7, 3) := by decide +kernel
theorem dX8_isWindow_17 : decode cX8_isWindow 17 = .ok (.iconst 1, 1) := by decide +kernel
theorem dX8_isWindow_18 : decode cX8_isWindow 18 = .ok (.goto 4, 3) := by decide +kernel
theorem dX8_isWindow_21 : decode cX8_isWindow 21 = .ok (.iconst 0, 1) := by decide +kernel
theorem dX8_isWindow_22 : decode cX8_isWindow 22 = .ok (.ireturn, 1) := by decide +kernel
set_option maxRecDepth 20000 in
theorem ggX8_undoFromNow_X0_began : GoodIn wsX8_undoFromNow wsX0_began := goodIn_r _ [7, 8, 25, 26, 27, 28, 29] (by decide +kernel) (by decide +kernel)
set_option maxRecDepth 20000 in
theorem gX8_undoFromNow_X0_began_n100 : GoodIn wsX8_undoFromNow (wsX0_began) := ggX8_undoFromNow_X0_began
set_option maxRecDepth 20000 in
theorem ggX8_undoFromNow_X0_undoFrom : GoodIn wsX8_undoFromNow wsX0_undoFrom := goodIn_r _ [11, 12, 8, 13, 25, 26, 27, 28, 29] (by decide +kernel) (by decide +kernel)
set_option maxRecDepth 20000 in
theorem gX8_undoFromNow_X0_undoFrom_n217 : GoodIn wsX8_undoFromNow (wsX0_undoFrom) := ggX8_undoFromNow_X0_undoFrom
theorem dX8_undoFromNow_0 : decode cX8_undoFromNow 0 = .ok (.aload_n 0, 1) := by decide +kernel
theorem dX8_undoFromNow_1 : decode cX8_undoFromNow 1 = .ok (.getfield 67, 3) := by decide +kernel
theorem dX8_undoFromNow_4 : decode cX8_undoFromNow 4 = .ok (.ifCond .le 37, 3) := by decide +kernel
theorem dX8_undoFromNow_7 : decode cX8_undoFromNow 7 = .ok (.aload_n 0, 1) := by decide +kernel
theorem dX8_undoFromNow_8 : decode cX8_undoFromNow 8 = .ok (.getfield 11, 3) := by decide +kernel
theorem dX8_undoFromNow_11 : decode cX8_undoFromNow 11 = .ok (.aload_n 0, 1) := by decide +kernel
theorem dX8_undoFromNow_12 : decode cX8_undoFromNow 12 = .ok (.getfield 67, 3) := by decide +kernel
theorem dX8_undoFromNow_15 : decode cX8_undoFromNow 15 = .ok (.iconst 1, 1) := by decide +kernel
theorem dX8_undoFromNow_16 : decode cX8_undoFromNow 16 = .ok (.isub, 1) := by decide +kernel
theorem dX8_undoFromNow_17 : decode cX8_undoFromNow 17 = .ok (.aaload, 1) := by decide +kernel
theorem dX8_undoFromNow_18 : decode cX8_undoFromNow 18 = .ok (.invokevirtual 100, 3) := by decide +kernel
theorem dX8_undoFromNow_21 : decode cX8_undoFromNow 21 = .ok (.aload_n 0, 1) := by decide +kernel
theorem dX8_undoFromNow_22 : decode cX8_undoFromNow 22 = .ok (.getfield 72, 3) := by decide +kernel
theorem dX8_undoFromNow_25 : decode cX8_undoFromNow 25 = .ok (.if_icmp .lt 16, 3) := by decide +kernel
theorem dX8_undoFromNow_28 : decode cX8_undoFromNow 28 = .ok (.aload_n 0, 1) := by decide +kernel
theorem dX8_undoFromNow_29 : decode cX8_undoFromNow 29 = .ok (.dup, 1) := by decide +kernel
theorem dX8_undoFromNow_30 : decode cX8_undoFromNow 30 = .ok (.getfield 67, 3) := by decide +kernel
theorem dX8_undoFromNow_33 : decode cX8_undoFromNow 33 = .ok (.iconst 1, 1) := by decide +kernel
theorem dX8_undoFromNow_34 : decode cX8_undoFromNow 34 = .ok (.isub, 1) := by decide +kernel
theorem dX8_undoFromNow_35 : decode cX8_undoFromNow 35 = .ok (.putfield 67, 3) := by decide +kernel
theorem dX8_undoFromNow_38 : decode cX8_undoFromNow 38 = .ok (.goto (-38), 3) := by decide +kernel
theorem dX8_undoFromNow_41 : decode cX8_undoFromNow 41 = .ok (.iconst 0, 1) := by decide +kernel
theorem dX8_undoFromNow_42 : decode cX8_undoFromNow 42 = .ok (.istore_n 1, 1) := by decide +kernel
theorem dX8_undoFromNow_43 : decode cX8_undoFromNow 43 = .ok (.iload_n 1, 1) := by decide +kernel
theorem dX8_undoFromNow_44 : decode cX8_undoFromNow 44 = .ok (.aload_n 0, 1) := by decide +kernel
theorem dX8_undoFromNow_45 : decode cX8_undoFromNow 45 = .ok (.getfield 67, 3) := by decide +kernel
theorem dX8_undoFromNow_48 : decode cX8_undoFromNow 48 = .ok (.if_icmp .ge 22, 3) := by decide +kernel
theorem dX8_undoFromNow_51 : decode cX8_undoFromNow 51 = .ok (.aload_n 0, 1) := by decide +kernel
theorem dX8_undoFromNow_52 : decode cX8_undoFromNow 52 = .ok (.getfield 11, 3) := by decide +kernel
theorem dX8_undoFromNow_55 : decode cX8_undoFromNow 55 = .ok (.iload_n 1, 1) := by decide +kernel
theorem dX8_undoFromNow_56 : decode cX8_undoFromNow 56 = .ok (.aaload, 1) := by decide +kernel
theorem dX8_undoFromNow_57 : decode cX8_undoFromNow 57 = .ok (.aload_n 0, 1) := by decide +kernel
theorem dX8_undoFromNow_58 : decode cX8_undoFromNow 58 = .ok (.getfield 72, 3) := by decide +kernel
theorem dX8_undoFromNow_61 : decode cX8_undoFromNow 61 = .ok (.invokevirtual 217, 3) := by decide +kernel
theorem dX8_undoFromNow_64 : decode cX8_undoFromNow 64 = .ok (.iinc 1 1, 3) := by decide +kernel
theorem dX8_undoFromNow_67 : decode cX8_undoFromNow 67 = .ok (.goto (-24), 3) := by decide +kernel
theorem dX8_undoFromNow_70 : decode cX8_undoFromNow 70 = .ok (.return_, 1) := by decide +kernel
set_option maxRecDepth 20000 in
theorem ggX8_lineUp_X3_clear : GoodIn wsX8_lineUp wsX3_clear := goodIn_r _ [7, 8, 41, 42, 43] (by decide +kernel) (by decide +kernel)
set_option maxRecDepth 20000 in
theorem gX8_lineUp_X3_clear_n220 : GoodIn wsX8_lineUp (wsX3_clear) := ggX8_lineUp_X3_clear
set_option maxRecDepth 20000 in
theorem ggX8_lineUp_X0_isThere : GoodIn wsX8_lineUp wsX0_isThere := goodIn_r _ [12, 13, 14, 44, 45, 46, 47, 48] (by decide +kernel) (by decide +kernel)
set_option maxRecDepth 20000 in
theorem gX8_lineUp_X0_isThere_n140 : GoodIn wsX8_lineUp (wsX0_isThere) := ggX8_lineUp_X0_isThere
set_option maxRecDepth 20000 in
theorem ggX8_lineUp_X0_upperAt : GoodIn wsX8_lineUp wsX0_upperAt := goodIn_r _ [17, 18, 19, 13, 20, 21, 22, 10, 23, 24, 44, 45, 46, 47, 48] (by decide +kernel) (by decide +kernel)
set_option maxRecDepth 20000 in
theorem gX8_lineUp_X0_upperAt_n145 : GoodIn wsX8_lineUp (wsX0_upperAt) := ggX8_lineUp_X0_upperAt
set_option maxRecDepth 20000 in
theorem ggX8_lineUp_X3_insert : GoodIn wsX8_lineUp wsX3_insert := goodIn_r _ [27, 8, 28, 29, 41, 42, 43] (by decide +kernel) (by decide +kernel)
set_option maxRecDepth 20000 in
theorem gX8_lineUp_X3_insert_n223 : GoodIn wsX8_lineUp (wsX3_insert) := ggX8_lineUp_X3_insert
theorem dX8_lineUp_0 : decode cX8_lineUp 0 = .ok (.aload_n 0, 1) := by decide +kernel
theorem dX8_lineUp_1 : decode cX8_lineUp 1 = .ok (.getfield 19, 3) := by decide +kernel
theorem dX8_lineUp_4 : decode cX8_lineUp 4 = .ok (.invokevirtual 220, 3) := by decide +kernel
theorem dX8_lineUp_7 : decode cX8_lineUp 7 = .ok (.iconst 0, 1) := by decide +kernel
theorem dX8_lineUp_8 : decode cX8_lineUp 8 = .ok (.istore_n 3, 1) := by decide +kernel
theorem dX8_lineUp_9 : decode cX8_lineUp 9 = .ok (.iload_n 3, 1) := by decide +kernel
theorem dX8_lineUp_10 : decode cX8_lineUp 10 = .ok (.aload_n 0, 1) := by decide +kernel
theorem dX8_lineUp_11 : decode cX8_lineUp 11 = .ok (.getfield 67, 3) := by decide +kernel
theorem dX8_lineUp_14 : decode cX8_lineUp 14 = .ok (.if_icmp .ge 42, 3) := by decide +kernel
theorem dX8_lineUp_17 : decode cX8_lineUp 17 = .ok (.aload_n 0, 1) := by decide +kernel
theorem dX8_lineUp_18 : decode cX8_lineUp 18 = .ok (.getfield 11, 3) := by decide +kernel
theorem dX8_lineUp_21 : decode cX8_lineUp 21 = .ok (.iload_n 3, 1) := by decide +kernel
theorem dX8_lineUp_22 : decode cX8_lineUp 22 = .ok (.aaload, 1) := by decide +kernel
theorem dX8_lineUp_23 : decode cX8_lineUp 23 = .ok (.iload_n 1, 1) := by decide +kernel
theorem dX8_lineUp_24 : decode cX8_lineUp 24 = .ok (.iload_n 2, 1) := by decide +kernel
theorem dX8_lineUp_25 : decode cX8_lineUp 25 = .ok (.invokevirtual 140, 3) := by decide +kernel
theorem dX8_lineUp_28 : decode cX8_lineUp 28 = .ok (.ifCond .eq 22, 3) := by decide +kernel
theorem dX8_lineUp_31 : decode cX8_lineUp 31 = .ok (.aload_n 0, 1) := by decide +kernel
theorem dX8_lineUp_32 : decode cX8_lineUp 32 = .ok (.getfield 19, 3) := by decide +kernel
theorem dX8_lineUp_35 : decode cX8_lineUp 35 = .ok (.iload_n 3, 1) := by decide +kernel
theorem dX8_lineUp_36 : decode cX8_lineUp 36 = .ok (.aload_n 0, 1) := by decide +kernel
theorem dX8_lineUp_37 : decode cX8_lineUp 37 = .ok (.getfield 11, 3) := by decide +kernel
theorem dX8_lineUp_40 : decode cX8_lineUp 40 = .ok (.iload_n 3, 1) := by decide +kernel
theorem dX8_lineUp_41 : decode cX8_lineUp 41 = .ok (.aaload, 1) := by decide +kernel
theorem dX8_lineUp_42 : decode cX8_lineUp 42 = .ok (.iload_n 1, 1) := by decide +kernel
theorem dX8_lineUp_43 : decode cX8_lineUp 43 = .ok (.iload_n 2, 1) := by decide +kernel
theorem dX8_lineUp_44 : decode cX8_lineUp 44 = .ok (.invokevirtual 145, 3) := by decide +kernel
theorem dX8_lineUp_47 : decode cX8_lineUp 47 = .ok (.invokevirtual 223, 3) := by decide +kernel
theorem dX8_lineUp_50 : decode cX8_lineUp 50 = .ok (.iinc 3 1, 3) := by decide +kernel
theorem dX8_lineUp_53 : decode cX8_lineUp 53 = .ok (.goto (-44), 3) := by decide +kernel
theorem dX8_lineUp_56 : decode cX8_lineUp 56 = .ok (.return_, 1) := by decide +kernel
set_option maxRecDepth 20000 in
theorem ggX8_gatherBends_X8_nextBend : GoodIn wsX8_gatherBends wsX8_nextBend := goodIn_r _ [7, 8, 9, 10, 11, 12, 13, 14, 15, 16, 17, 18, 19, 20, 21, 22, 23, 24, 25, 26, 27, 28, 29, 30, 31, 32, 33, 34, 35, 36] (by decide +kernel) (by decide +kernel)
set_option maxRecDepth 20000 in
theorem gX8_gatherBends_X8_nextBend : GoodIn wsX8_gatherBends (wsV RX8 226 RX8 yX8_nextBend wsX8_nextBend) := goodIn_app (goodIn_of _ (by decide +kernel)) ggX8_gatherBends_X8_nextBend
theorem dX8_gatherBends_0 : decode cX8_gatherBends 0 = .ok (.aload_n 0, 1) := by decide +kernel
theorem dX8_gatherBends_1 : decode cX8_gatherBends 1 = .ok (.getfield 23, 3) := by decide +kernel
theorem dX8_gatherBends_4 : decode cX8_gatherBends 4 = .ok (.iconst 0, 1) := by decide +kernel
theorem dX8_gatherBends_5 : decode cX8_gatherBends 5 = .ok (.iconst 0, 1) := by decide +kernel
theorem dX8_gatherBends_6 : decode cX8_gatherBends 6 = .ok (.iastore, 1) := by decide +kernel
theorem dX8_gatherBends_7 : decode cX8_gatherBends 7 = .ok (.aload_n 0, 1) := by decide +kernel
theorem dX8_gatherBends_8 : decode cX8_gatherBends 8 = .ok (.iconst 1, 1) := by decide +kernel
theorem dX8_gatherBends_9 : decode cX8_gatherBends 9 = .ok (.putfield 189, 3) := by decide +kernel
theorem dX8_gatherBends_12 : decode cX8_gatherBends 12 = .ok (.aload_n 0, 1) := by decide +kernel
theorem dX8_gatherBends_13 : decode cX8_gatherBends 13 = .ok (.getfield 189, 3) := by decide +kernel
theorem dX8_gatherBends_16 : decode cX8_gatherBends 16 = .ok (.aload_n 0, 1) := by decide +kernel
theorem dX8_gatherBends_17 : decode cX8_gatherBends 17 = .ok (.getfield 23, 3) := by decide +kernel
theorem dX8_gatherBends_20 : decode cX8_gatherBends 20 = .ok (.arraylength, 1) := by decide +kernel
theorem dX8_gatherBends_21 : decode cX8_gatherBends 21 = .ok (.if_icmp .ge 56, 3) := by decide +kernel
theorem dX8_gatherBends_24 : decode cX8_gatherBends 24 = .ok (.aload_n 0, 1) := by decide +kernel
theorem dX8_gatherBends_25 : decode cX8_gatherBends 25 = .ok (.getfield 23, 3) := by decide +kernel
theorem dX8_gatherBends_28 : decode cX8_gatherBends 28 = .ok (.aload_n 0, 1) := by decide +kernel
theorem dX8_gatherBends_29 : decode cX8_gatherBends 29 = .ok (.getfield 189, 3) := by decide +kernel
theorem dX8_gatherBends_32 : decode cX8_gatherBends 32 = .ok (.iconst 1, 1) := by decide +kernel
theorem dX8_gatherBends_33 : decode cX8_gatherBends 33 = .ok (.isub, 1) := by decide +kernel
theorem dX8_gatherBends_34 : decode cX8_gatherBends 34 = .ok (.iaload, 1) := by decide +kernel
theorem dX8_gatherBends_35 : decode cX8_gatherBends 35 = .ok (.iload_n 1, 1) := by decide +kernel
theorem dX8_gatherBends_36 : decode cX8_gatherBends 36 = .ok (.if_icmp .ge 41, 3) := by decide +kernel
theorem dX8_gatherBends_39 : decode cX8_gatherBends 39 = .ok (.aload_n 0, 1) := by decide +kernel
theorem dX8_gatherBends_40 : decode cX8_gatherBends 40 = .ok (.getfield 23, 3) := by decide +kernel
theorem dX8_gatherBends_43 : decode cX8_gatherBends 43 = .ok (.aload_n 0, 1) := by decide +kernel
theorem dX8_gatherBends_44 : decode cX8_gatherBends 44 = .ok (.getfield 189, 3) := by decide +kernel
theorem dX8_gatherBends_47 : decode cX8_gatherBends 47 = .ok (.aload_n 0, 1) := by decide +kernel
theorem dX8_gatherBends_48 : decode cX8_gatherBends 48 = .ok (.aload_n 0, 1) := by decide +kernel
theorem dX8_gatherBends_49 : decode cX8_gatherBends 49 = .ok (.getfield 23, 3) := by decide +kernel
theorem dX8_gatherBends_52 : decode cX8_gatherBends 52 = .ok (.aload_n 0, 1) := by decide +kernel
theorem dX8_gatherBends_53 : decode cX8_gatherBends 53 = .ok (.getfield 189, 3) := by decide +kernel
theorem dX8_gatherBends_56 : decode cX8_gatherBends 56 = .ok (.iconst 1, 1) := by decide +kernel
theorem dX8_gatherBends_57 : decode cX8_gatherBends 57 = .ok (.isub, 1) := by decide +kernel
theorem dX8_gatherBends_58 : decode cX8_gatherBends 58 = .ok (.iaload, 1) := by decide +kernel
theorem dX8_gatherBends_59 : decode cX8_gatherBends 59 = .ok (.iload_n 1, 1) := by decide +kernel
theorem dX8_gatherBends_60 : decode cX8_gatherBends 60 = .ok (.invokevirtual 226, 3) := by decide +kernel
theorem dX8_gatherBends_63 : decode cX8_gatherBends 63 = .ok (.iastore, 1) := by decide +kernel
theorem dX8_gatherBends_64 : decode cX8_gatherBends 64 = .ok (.aload_n 0, 1) := by decide +kernel
theorem dX8_gatherBends_65 : decode cX8_gatherBends 65 = .ok (.dup, 1) := by decide +kernel
theorem dX8_gatherBends_66 : decode cX8_gatherBends 66 = .ok (.getfield 189, 3) := by decide +kernel
theorem dX8_gatherBends_69 : decode cX8_gatherBends 69 = .ok (.iconst 1, 1) := by decide +kernel
theorem dX8_gatherBends_70 : decode cX8_gatherBends 70 = .ok (.iadd, 1) := by decide +kernel
theorem dX8_gatherBends_71 : decode cX8_gatherBends 71 = .ok (.putfield 189, 3) := by decide +kernel
theorem dX8_gatherBends_74 : decode cX8_gatherBends 74 = .ok (.goto (-62), 3) := by decide +kernel
theorem dX8_gatherBends_77 : decode cX8_gatherBends 77 = .ok (.return_, 1) := by decide +kernel
set_option maxRecDepth 20000 in
theorem ggX8_nextBend_X0_nextBend : GoodIn wsX8_nextBend wsX0_nextBend := goodIn_r _ [6, 7, 8, 9, 10, 11, 12, 13, 25, 26, 27, 28, 29] (by decide +kernel) (by decide +kernel)
set_option maxRecDepth 20000 in
theorem gX8_nextBend_X0_nextBend_n229 : GoodIn wsX8_nextBend (wsX0_nextBend) := ggX8_nextBend_X0_nextBend
theorem dX8_nextBend_0 : decode cX8_nextBend 0 = .ok (.iload_n 2, 1) := by decide +kernel
theorem dX8_nextBend_1 : decode cX8_nextBend 1 = .ok (.istore_n 3, 1) := by decide +kernel
theorem dX8_nextBend_2 : decode cX8_nextBend 2 = .ok (.iconst 0, 1) := by decide +kernel
theorem dX8_nextBend_3 : decode cX8_nextBend 3 = .ok (.istore 4, 2) := by decide +kernel
theorem dX8_nextBend_5 : decode cX8_nextBend 5 = .ok (.iload 4, 2) := by decide +kernel
theorem dX8_nextBend_7 : decode cX8_nextBend 7 = .ok (.aload_n 0, 1) := by decide +kernel
theorem dX8_nextBend_8 : decode cX8_nextBend 8 = .ok (.getfield 67, 3) := by decide +kernel
theorem dX8_nextBend_11 : decode cX8_nextBend 11 = .ok (.if_icmp .ge 22, 3) := by decide +kernel
theorem dX8_nextBend_14 : decode cX8_nextBend 14 = .ok (.aload_n 0, 1) := by decide +kernel
theorem dX8_nextBend_15 : decode cX8_nextBend 15 = .ok (.getfield 11, 3) := by decide +kernel
theorem dX8_nextBend_18 : decode cX8_nextBend 18 = .ok (.iload 4, 2) := by decide +kernel
theorem dX8_nextBend_20 : decode cX8_nextBend 20 = .ok (.aaload, 1) := by decide +kernel
theorem dX8_nextBend_21 : decode cX8_nextBend 21 = .ok (.iload_n 1, 1) := by decide +kernel
theorem dX8_nextBend_22 : decode cX8_nextBend 22 = .ok (.iload_n 3, 1) := by decide +kernel
theorem dX8_nextBend_23 : decode cX8_nextBend 23 = .ok (.invokevirtual 229, 3) := by decide +kernel
theorem dX8_nextBend_26 : decode cX8_nextBend 26 = .ok (.istore_n 3, 1) := by decide +kernel
theorem dX8_nextBend_27 : decode cX8_nextBend 27 = .ok (.iinc 4 1, 3) := by decide +kernel
theorem dX8_nextBend_30 : decode cX8_nextBend 30 = .ok (.goto (-25), 3) := by decide +kernel
theorem dX8_nextBend_33 : decode cX8_nextBend 33 = .ok (.iload_n 3, 1) := by decide +kernel
theorem dX8_nextBend_34 : decode cX8_nextBend 34 = .ok (.ireturn, 1) := by decide +kernel
set_option maxRecDepth 20000 in
theorem ggX8_countPast_X8_gatherBends : GoodIn wsX8_countPast wsX8_gatherBends := goodIn_r _ [9, 3, 2, 10, 11, 12, 8, 13, 14, 15, 16, 17, 18, 19, 20, 21, 22, 23, 24, 25, 26, 124, 125, 126, 127, 128, 129, 130, 131, 132, 133, 134, 140, 141, 142, 143, 144] (by decide +kernel) (by decide +kernel)
set_option maxRecDepth 20000 in
theorem gX8_countPast_X8_gatherBends : GoodIn wsX8_countPast (wsV RX8 186 RX8 yX8_gatherBends wsX8_gatherBends) := goodIn_app (goodIn_of _ (by decide +kernel)) ggX8_countPast_X8_gatherBends
set_option maxRecDepth 20000 in
theorem ggX8_countPast_X8_gatherMeetings : GoodIn wsX8_countPast wsX8_gatherMeetings := goodIn_r _ [30, 4, 14, 31, 32, 33, 34, 35, 36, 37, 38, 39, 40, 8, 41, 15, 42, 43, 44, 45, 46, 47, 48, 49, 50, 51, 52, 53, 17, 54, 55, 21, 26, 56, 57, 58, 59, 60, 61, 62, 63, 64, 65, 66, 67, 68, 20, 69, 70, 71, 72, 73, 74, 75, 76, 77, 78, 79, 80, 24, 81, 82, 83, 84, 85, 86, 87, 88, 89, 90, 91, 92, 93, 94, 95, 96, 97, 98, 99, 100, 101, 102, 103, 104, 105, 106, 107, 108, 109, 110, 111, 112, 113, 114, 115, 116, 117, 118, 119, 120, 121, 122, 123, 124, 125, 126, 127, 128, 129, 130, 131, 132, 133, 134, 135, 136, 137, 138, 139, 145, 146, 147, 148, 140, 141, 142, 143, 144] (by decide +kernel) (by decide +kernel)
set_option maxRecDepth 20000 in
theorem gX8_countPast_X8_gatherMeetings : GoodIn wsX8_countPast (wsV RX8 172 RX8 yX8_gatherMeetings wsX8_gatherMeetings) := goodIn_app (goodIn_of _ (by decide +kernel)) ggX8_countPast_X8_gatherMeetings
theorem dX8_countPast_0 : decode cX8_countPast 0 = .ok (.iconst 0, 1) := by decide +kernel
theorem dX8_countPast_1 : decode cX8_countPast 1 = .ok (.istore_n 2, 1) := by decide +kernel
theorem dX8_countPast_2 : decode cX8_countPast 2 = .ok (.aload_n 0, 1) := by decide +kernel
theorem dX8_countPast_3 : decode cX8_countPast 3 = .ok (.aload_n 0, 1) := by decide +kernel
theorem dX8_countPast_4 : decode cX8_countPast 4 = .ok (.getfield 72, 3) := by decide +kernel
theorem dX8_countPast_7 : decode cX8_countPast 7 = .ok (.invokevirtual 186, 3) := by decide +kernel
theorem dX8_countPast_10 : decode cX8_countPast 10 = .ok (.iconst 1, 1) := by decide +kernel
theorem dX8_countPast_11 : decode cX8_countPast 11 = .ok (.istore_n 3, 1) := by decide +kernel
theorem dX8_countPast_12 : decode cX8_countPast 12 = .ok (.iload_n 3, 1) := by decide +kernel
theorem dX8_countPast_13 : decode cX8_countPast 13 = .ok (.aload_n 0, 1) := by decide +kernel
theorem dX8_countPast_14 : decode cX8_countPast 14 = .ok (.getfield 189, 3) := by decide +kernel
theorem dX8_countPast_17 : decode cX8_countPast 17 = .ok (.if_icmp .ge 51, 3) := by decide +kernel
theorem dX8_countPast_20 : decode cX8_countPast 20 = .ok (.aload_n 0, 1) := by decide +kernel
theorem dX8_countPast_21 : decode cX8_countPast 21 = .ok (.aload_n 0, 1) := by decide +kernel
theorem dX8_countPast_22 : decode cX8_countPast 22 = .ok (.getfield 23, 3) := by decide +kernel
theorem dX8_countPast_25 : decode cX8_countPast 25 = .ok (.iload_n 3, 1) := by decide +kernel
theorem dX8_countPast_26 : decode cX8_countPast 26 = .ok (.iconst 1, 1) := by decide +kernel
theorem dX8_countPast_27 : decode cX8_countPast 27 = .ok (.isub, 1) := by decide +kernel
theorem dX8_countPast_28 : decode cX8_countPast 28 = .ok (.iaload, 1) := by decide +kernel
theorem dX8_countPast_29 : decode cX8_countPast 29 = .ok (.aload_n 0, 1) := by decide +kernel
theorem dX8_countPast_30 : decode cX8_countPast 30 = .ok (.getfield 23, 3) := by decide +kernel
theorem dX8_countPast_33 : decode cX8_countPast 33 = .ok (.iload_n 3, 1) := by decide +kernel
theorem dX8_countPast_34 : decode cX8_countPast 34 = .ok (.iaload, 1) := by decide +kernel
theorem dX8_countPast_35 : decode cX8_countPast 35 = .ok (.invokevirtual 172, 3) := by decide +kernel
theorem dX8_countPast_38 : decode cX8_countPast 38 = .ok (.iload_n 2, 1) := by decide +kernel
theorem dX8_countPast_39 : decode cX8_countPast 39 = .ok (.iload_n 1, 1) := by decide +kernel
theorem dX8_countPast_40 : decode cX8_countPast 40 = .ok (.ifCond .eq 13, 3) := by decide +kernel
theorem dX8_countPast_43 : decode cX8_countPast 43 = .ok (.aload_n 0, 1) := by decide +kernel
theorem dX8_countPast_44 : decode cX8_countPast 44 = .ok (.getfield 37, 3) := by decide +kernel
theorem dX8_countPast_47 : decode cX8_countPast 47 = .ok (.getfield 230, 3) := by decide +kernel
theorem dX8_countPast_50 : decode cX8_countPast 50 = .ok (.goto 10, 3) := by decide +kernel
theorem dX8_countPast_53 : decode cX8_countPast 53 = .ok (.aload_n 0, 1) := by decide +kernel
theorem dX8_countPast_54 : decode cX8_countPast 54 = .ok (.getfield 37, 3) := by decide +kernel
theorem dX8_countPast_57 : decode cX8_countPast 57 = .ok (.getfield 233, 3) := by decide +kernel
theorem dX8_countPast_60 : decode cX8_countPast 60 = .ok (.iadd, 1) := by decide +kernel
theorem dX8_countPast_61 : decode cX8_countPast 61 = .ok (.istore_n 2, 1) := by decide +kernel
theorem dX8_countPast_62 : decode cX8_countPast 62 = .ok (.iinc 3 1, 3) := by decide +kernel
theorem dX8_countPast_65 : decode cX8_countPast 65 = .ok (.goto (-53), 3) := by decide +kernel
theorem dX8_countPast_68 : decode cX8_countPast 68 = .ok (.iload_n 2, 1) := by decide +kernel
theorem dX8_countPast_69 : decode cX8_countPast 69 = .ok (.ireturn, 1) := by decide +kernel
set_option maxRecDepth 20000 in
theorem ggX8_gatherAround_X8_gatherBends : GoodIn wsX8_gatherAround wsX8_gatherBends := goodIn_r _ [9, 3, 2, 10, 11, 12, 8, 13, 14, 15, 16, 17, 18, 19, 20, 21, 22, 23, 24, 25, 26, 124, 125, 126, 127, 128, 129, 130, 131, 132, 133, 134, 140, 141, 142, 143, 144] (by decide +kernel) (by decide +kernel)
set_option maxRecDepth 20000 in
theorem gX8_gatherAround_X8_gatherBends : GoodIn wsX8_gatherAround (wsV RX8 186 RX8 yX8_gatherBends wsX8_gatherBends) := goodIn_app (goodIn_of _ (by decide +kernel)) ggX8_gatherAround_X8_gatherBends
set_option maxRecDepth 20000 in
theorem ggX8_gatherAround_X8_gatherMeetings : GoodIn wsX8_gatherAround wsX8_gatherMeetings := goodIn_r _ [30, 4, 14, 31, 32, 33, 34, 35, 36, 37, 38, 39, 40, 8, 41, 15, 42, 43, 44, 45, 46, 47, 48, 49, 50, 51, 52, 53, 17, 54, 55, 21, 26, 56, 57, 58, 59, 60, 61, 62, 63, 64, 65, 66, 67, 68, 20, 69, 70, 71, 72, 73, 74, 75, 76, 77, 78, 79, 80, 24, 81, 82, 83, 84, 85, 86, 87, 88, 89, 90, 91, 92, 93, 94, 95, 96, 97, 98, 99, 100, 101, 102, 103, 104, 105, 106, 107, 108, 109, 110, 111, 112, 113, 114, 115, 116, 117, 118, 119, 120, 121, 122, 123, 124, 125, 126, 127, 128, 129, 130, 131, 132, 133, 134, 135, 136, 137, 138, 139, 145, 146, 147, 148, 140, 141, 142, 143, 144] (by decide +kernel) (by decide +kernel)
set_option maxRecDepth 20000 in
theorem gX8_gatherAround_X8_gatherMeetings : GoodIn wsX8_gatherAround (wsV RX8 172 RX8 yX8_gatherMeetings wsX8_gatherMeetings) := goodIn_app (goodIn_of _ (by decide +kernel)) ggX8_gatherAround_X8_gatherMeetings
theorem dX8_gatherAround_0 : decode cX8_gatherAround 0 = .ok (.iload_n 1, 1) := by decide +kernel
theorem dX8_gatherAround_1 : decode cX8_gatherAround 1 = .ok (.istore_n 2, 1) := by decide +kernel
theorem dX8_gatherAround_2 : decode cX8_gatherAround 2 = .ok (.aload_n 0, 1) := by decide +kernel
theorem dX8_gatherAround_3 : decode cX8_gatherAround 3 = .ok (.aload_n 0, 1) := by decide +kernel
theorem dX8_gatherAround_4 : decode cX8_gatherAround 4 = .ok (.getfield 72, 3) := by decide +kernel
theorem dX8_gatherAround_7 : decode cX8_gatherAround 7 = .ok (.invokevirtual 186, 3) := by decide +kernel
theorem dX8_gatherAround_10 : decode cX8_gatherAround 10 = .ok (.iconst 1, 1) := by decide +kernel
theorem dX8_gatherAround_11 : decode cX8_gatherAround 11 = .ok (.istore_n 3, 1) := by decide +kernel
theorem dX8_gatherAround_12 : decode cX8_gatherAround 12 = .ok (.iload_n 3, 1) := by decide +kernel
theorem dX8_gatherAround_13 : decode cX8_gatherAround 13 = .ok (.aload_n 0, 1) := by decide +kernel
theorem dX8_gatherAround_14 : decode cX8_gatherAround 14 = .ok (.getfield 189, 3) := by decide +kernel
theorem dX8_gatherAround_17 : decode cX8_gatherAround 17 = .ok (.if_icmp .ge 54, 3) := by decide +kernel
theorem dX8_gatherAround_20 : decode cX8_gatherAround 20 = .ok (.iload_n 2, 1) := by decide +kernel
theorem dX8_gatherAround_21 : decode cX8_gatherAround 21 = .ok (.ifCond .lt 50, 3) := by decide +kernel
theorem dX8_gatherAround_24 : decode cX8_gatherAround 24 = .ok (.aload_n 0, 1) := by decide +kernel
theorem dX8_gatherAround_25 : decode cX8_gatherAround 25 = .ok (.aload_n 0, 1) := by decide +kernel
theorem dX8_gatherAround_26 : decode cX8_gatherAround 26 = .ok (.getfield 23, 3) := by decide +kernel
theorem dX8_gatherAround_29 : decode cX8_gatherAround 29 = .ok (.iload_n 3, 1) := by decide +kernel
theorem dX8_gatherAround_30 : decode cX8_gatherAround 30 = .ok (.iconst 1, 1) := by decide +kernel
theorem dX8_gatherAround_31 : decode cX8_gatherAround 31 = .ok (.isub, 1) := by decide +kernel
theorem dX8_gatherAround_32 : decode cX8_gatherAround 32 = .ok (.iaload, 1) := by decide +kernel
theorem dX8_gatherAround_33 : decode cX8_gatherAround 33 = .ok (.aload_n 0, 1) := by decide +kernel
theorem dX8_gatherAround_34 : decode cX8_gatherAround 34 = .ok (.getfield 23, 3) := by decide +kernel
theorem dX8_gatherAround_37 : decode cX8_gatherAround 37 = .ok (.iload_n 3, 1) := by decide +kernel
theorem dX8_gatherAround_38 : decode cX8_gatherAround 38 = .ok (.iaload, 1) := by decide +kernel
theorem dX8_gatherAround_39 : decode cX8_gatherAround 39 = .ok (.invokevirtual 172, 3) := by decide +kernel
theorem dX8_gatherAround_42 : decode cX8_gatherAround 42 = .ok (.iload_n 2, 1) := by decide +kernel
theorem dX8_gatherAround_43 : decode cX8_gatherAround 43 = .ok (.aload_n 0, 1) := by decide +kernel
theorem dX8_gatherAround_44 : decode cX8_gatherAround 44 = .ok (.getfield 37, 3) := by decide +kernel
theorem dX8_gatherAround_47 : decode cX8_gatherAround 47 = .ok (.getfield 233, 3) := by decide +kernel
theorem dX8_gatherAround_50 : decode cX8_gatherAround 50 = .ok (.if_icmp .ge 5, 3) := by decide +kernel
theorem dX8_gatherAround_53 : decode cX8_gatherAround 53 = .ok (.iload_n 2, 1) := by decide +kernel
theorem dX8_gatherAround_54 : decode cX8_gatherAround 54 = .ok (.ireturn, 1) := by decide +kernel
theorem dX8_gatherAround_55 : decode cX8_gatherAround 55 = .ok (.iload_n 2, 1) := by decide +kernel
theorem dX8_gatherAround_56 : decode cX8_gatherAround 56 = .ok (.aload_n 0, 1) := by decide +kernel
theorem dX8_gatherAround_57 : decode cX8_gatherAround 57 = .ok (.getfield 37, 3) := by decide +kernel
theorem dX8_gatherAround_60 : decode cX8_gatherAround 60 = .ok (.getfield 233, 3) := by decide +kernel
theorem dX8_gatherAround_63 : decode cX8_gatherAround 63 = .ok (.isub, 1) := by decide +kernel
theorem dX8_gatherAround_64 : decode cX8_gatherAround 64 = .ok (.istore_n 2, 1) := by decide +kernel
theorem dX8_gatherAround_65 : decode cX8_gatherAround 65 = .ok (.iinc 3 1, 3) := by decide +kernel
theorem dX8_gatherAround_68 : decode cX8_gatherAround 68 = .ok (.goto (-56), 3) := by decide +kernel
theorem dX8_gatherAround_71 : decode cX8_gatherAround 71 = .ok (.iconst (-1), 1) := by decide +kernel
theorem dX8_gatherAround_72 : decode cX8_gatherAround 72 = .ok (.ireturn, 1) := by decide +kernel
set_option maxRecDepth 20000 in
theorem ggX8_look_X5_clear : GoodIn wsX8_look wsX5_clear := goodIn_r _ [7, 8, 49, 50, 51, 52] (by decide +kernel) (by decide +kernel)
set_option maxRecDepth 20000 in
theorem gX8_look_X5_clear_n234 : GoodIn wsX8_look (wsX5_clear) := ggX8_look_X5_clear
set_option maxRecDepth 20000 in
theorem ggX8_look_X5_add : GoodIn wsX8_look wsX5_add := goodIn_r _ [11, 8, 12, 13, 14, 15, 16, 17, 18, 19, 20, 21, 22, 23, 24, 25, 26, 27, 28, 29, 30, 31, 32, 33, 34, 35, 36, 37, 49, 50, 51, 52, 53, 54, 55, 56, 57] (by decide +kernel) (by decide +kernel)
set_option maxRecDepth 20000 in
theorem gX8_look_X5_add_n235 : GoodIn wsX8_look (wsX5_add) := ggX8_look_X5_add
theorem dX8_look_0 : decode cX8_look 0 = .ok (.aload_n 0, 1) := by decide +kernel
theorem dX8_look_1 : decode cX8_look 1 = .ok (.getfield 30, 3) := by decide +kernel
theorem dX8_look_4 : decode cX8_look 4 = .ok (.invokevirtual 234, 3) := by decide +kernel
theorem dX8_look_7 : decode cX8_look 7 = .ok (.iconst 0, 1) := by decide +kernel
theorem dX8_look_8 : decode cX8_look 8 = .ok (.istore_n 2, 1) := by decide +kernel
theorem dX8_look_9 : decode cX8_look 9 = .ok (.iload_n 2, 1) := by decide +kernel
theorem dX8_look_10 : decode cX8_look 10 = .ok (.aload_n 0, 1) := by decide +kernel
theorem dX8_look_11 : decode cX8_look 11 = .ok (.getfield 67, 3) := by decide +kernel
theorem dX8_look_14 : decode cX8_look 14 = .ok (.if_icmp .ge 23, 3) := by decide +kernel
theorem dX8_look_17 : decode cX8_look 17 = .ok (.aload_n 0, 1) := by decide +kernel
theorem dX8_look_18 : decode cX8_look 18 = .ok (.getfield 30, 3) := by decide +kernel
theorem dX8_look_21 : decode cX8_look 21 = .ok (.aload_n 0, 1) := by decide +kernel
theorem dX8_look_22 : decode cX8_look 22 = .ok (.getfield 11, 3) := by decide +kernel
theorem dX8_look_25 : decode cX8_look 25 = .ok (.iload_n 2, 1) := by decide +kernel
theorem dX8_look_26 : decode cX8_look 26 = .ok (.aaload, 1) := by decide +kernel
theorem dX8_look_27 : decode cX8_look 27 = .ok (.iload_n 1, 1) := by decide +kernel
theorem dX8_look_28 : decode cX8_look 28 = .ok (.invokevirtual 235, 3) := by decide +kernel
theorem dX8_look_31 : decode cX8_look 31 = .ok (.iinc 2 1, 3) := by decide +kernel
theorem dX8_look_34 : decode cX8_look 34 = .ok (.goto (-25), 3) := by decide +kernel
theorem dX8_look_37 : decode cX8_look 37 = .ok (.return_, 1) := by decide +kernel
set_option maxRecDepth 20000 in
theorem ggX8_gatherMeetings_X4_clear : GoodIn wsX8_gatherMeetings wsX4_clear := goodIn_r _ [7, 8, 9, 114, 115, 116, 117, 118] (by decide +kernel) (by decide +kernel)
set_option maxRecDepth 20000 in
theorem gX8_gatherMeetings_X4_clear_n239 : GoodIn wsX8_gatherMeetings (wsX4_clear) := ggX8_gatherMeetings_X4_clear
set_option maxRecDepth 20000 in
theorem ggX8_gatherMeetings_X8_look : GoodIn wsX8_gatherMeetings wsX8_look := goodIn_r _ [14, 3, 2, 15, 16, 17, 18, 19, 20, 21, 22, 23, 24, 25, 26, 27, 28, 29, 30, 31, 32, 33, 34, 35, 36, 37, 38, 39, 40, 41, 42, 43, 44, 45, 46, 47, 48, 49, 103, 104, 105, 106, 107, 108, 109, 110, 111, 112, 113, 119, 120, 121, 122, 123, 124, 125, 126, 127] (by decide +kernel) (by decide +kernel)
set_option maxRecDepth 20000 in
theorem gX8_gatherMeetings_X8_look : GoodIn wsX8_gatherMeetings (wsV RX8 240 RX8 yX8_look wsX8_look) := goodIn_app (goodIn_of _ (by decide +kernel)) ggX8_gatherMeetings_X8_look
set_option maxRecDepth 20000 in
theorem ggX8_gatherMeetings_X5_has : GoodIn wsX8_gatherMeetings wsX5_has := goodIn_r _ [52, 20, 24, 119, 120, 121, 122] (by decide +kernel) (by decide +kernel)
set_option maxRecDepth 20000 in
theorem gX8_gatherMeetings_X5_has_n243 : GoodIn wsX8_gatherMeetings (wsX5_has) := ggX8_gatherMeetings_X5_has
set_option maxRecDepth 20000 in
theorem ggX8_gatherMeetings_X8_addMeeting : GoodIn wsX8_gatherMeetings wsX8_addMeeting := goodIn_r _ [56, 3, 57, 58, 59, 60, 1, 61, 17, 62, 63, 25, 64, 65, 66, 26, 67, 68, 69, 70, 71, 72, 73, 74, 75, 76, 77, 78, 79, 80, 81, 82, 83, 84, 85, 86, 87, 88, 89, 90, 91, 92, 93, 5, 94, 95, 8, 96, 97, 98, 9, 99, 100, 101, 13, 102, 15, 27, 28, 29, 30, 31, 32, 47, 48, 49, 41, 42, 43, 44, 45, 46, 103, 104, 105, 106, 107, 108, 109, 110, 111, 112, 113, 119, 120, 121, 122, 114, 115, 116, 117, 118, 123, 124, 125, 126, 127] (by decide +kernel) (by decide +kernel)
set_option maxRecDepth 20000 in
theorem gX8_gatherMeetings_X8_addMeeting : GoodIn wsX8_gatherMeetings (wsV RX8 246 RX8 yX8_addMeeting wsX8_addMeeting) := goodIn_app (goodIn_of _ (by decide +kernel)) ggX8_gatherMeetings_X8_addMeeting
theorem dX8_gatherMeetings_0 : decode cX8_gatherMeetings 0 = .ok (.aload_n 0, 1) := by decide +kernel
theorem dX8_gatherMeetings_1 : decode cX8_gatherMeetings 1 = .ok (.getfield 37, 3) := by decide +kernel
theorem dX8_gatherMeetings_4 : decode cX8_gatherMeetings 4 = .ok (.invokevirtual 239, 3) := by decide +kernel
theorem dX8_gatherMeetings_7 : decode cX8_gatherMeetings 7 = .ok (.aload_n 0, 1) := by decide +kernel
theorem dX8_gatherMeetings_8 : decode cX8_gatherMeetings 8 = .ok (.iload_n 1, 1) := by decide +kernel
theorem dX8_gatherMeetings_9 : decode cX8_gatherMeetings 9 = .ok (.invokevirtual 240, 3) := by decide +kernel
theorem dX8_gatherMeetings_12 : decode cX8_gatherMeetings 12 = .ok (.iconst 0, 1) := by decide +kernel
theorem dX8_gatherMeetings_13 : decode cX8_gatherMeetings 13 = .ok (.istore_n 3, 1) := by decide +kernel
theorem dX8_gatherMeetings_14 : decode cX8_gatherMeetings 14 = .ok (.iload_n 3, 1) := by decide +kernel
theorem dX8_gatherMeetings_15 : decode cX8_gatherMeetings 15 = .ok (.aload_n 0, 1) := by decide +kernel
theorem dX8_gatherMeetings_16 : decode cX8_gatherMeetings 16 = .ok (.getfield 67, 3) := by decide +kernel
theorem dX8_gatherMeetings_19 : decode cX8_gatherMeetings 19 = .ok (.if_icmp .ge 61, 3) := by decide +kernel
theorem dX8_gatherMeetings_22 : decode cX8_gatherMeetings 22 = .ok (.iload_n 3, 1) := by decide +kernel
theorem dX8_gatherMeetings_23 : decode cX8_gatherMeetings 23 = .ok (.iconst 1, 1) := by decide +kernel
theorem dX8_gatherMeetings_24 : decode cX8_gatherMeetings 24 = .ok (.iadd, 1) := by decide +kernel
theorem dX8_gatherMeetings_25 : decode cX8_gatherMeetings 25 = .ok (.istore 4, 2) := by decide +kernel
theorem dX8_gatherMeetings_27 : decode cX8_gatherMeetings 27 = .ok (.iload 4, 2) := by decide +kernel
theorem dX8_gatherMeetings_29 : decode cX8_gatherMeetings 29 = .ok (.aload_n 0, 1) := by decide +kernel
theorem dX8_gatherMeetings_30 : decode cX8_gatherMeetings 30 = .ok (.getfield 67, 3) := by decide +kernel
theorem dX8_gatherMeetings_33 : decode cX8_gatherMeetings 33 = .ok (.if_icmp .ge 41, 3) := by decide +kernel
theorem dX8_gatherMeetings_36 : decode cX8_gatherMeetings 36 = .ok (.aload_n 0, 1) := by decide +kernel
theorem dX8_gatherMeetings_37 : decode cX8_gatherMeetings 37 = .ok (.getfield 30, 3) := by decide +kernel
theorem dX8_gatherMeetings_40 : decode cX8_gatherMeetings 40 = .ok (.iload_n 3, 1) := by decide +kernel
theorem dX8_gatherMeetings_41 : decode cX8_gatherMeetings 41 = .ok (.invokevirtual 243, 3) := by decide +kernel
theorem dX8_gatherMeetings_44 : decode cX8_gatherMeetings 44 = .ok (.ifCond .eq 24, 3) := by decide +kernel
theorem dX8_gatherMeetings_47 : decode cX8_gatherMeetings 47 = .ok (.aload_n 0, 1) := by decide +kernel
theorem dX8_gatherMeetings_48 : decode cX8_gatherMeetings 48 = .ok (.getfield 30, 3) := by decide +kernel
theorem dX8_gatherMeetings_51 : decode cX8_gatherMeetings 51 = .ok (.iload 4, 2) := by decide +kernel
theorem dX8_gatherMeetings_53 : decode cX8_gatherMeetings 53 = .ok (.invokevirtual 243, 3) := by decide +kernel
theorem dX8_gatherMeetings_56 : decode cX8_gatherMeetings 56 = .ok (.ifCond .eq 12, 3) := by decide +kernel
theorem dX8_gatherMeetings_59 : decode cX8_gatherMeetings 59 = .ok (.aload_n 0, 1) := by decide +kernel
theorem dX8_gatherMeetings_60 : decode cX8_gatherMeetings 60 = .ok (.iload_n 3, 1) := by decide +kernel
theorem dX8_gatherMeetings_61 : decode cX8_gatherMeetings 61 = .ok (.iload 4, 2) := by decide +kernel
theorem dX8_gatherMeetings_63 : decode cX8_gatherMeetings 63 = .ok (.iload_n 1, 1) := by decide +kernel
theorem dX8_gatherMeetings_64 : decode cX8_gatherMeetings 64 = .ok (.iload_n 2, 1) := by decide +kernel
theorem dX8_gatherMeetings_65 : decode cX8_gatherMeetings 65 = .ok (.invokevirtual 246, 3) := by decide +kernel
theorem dX8_gatherMeetings_68 : decode cX8_gatherMeetings 68 = .ok (.iinc 4 1, 3) := by decide +kernel
theorem dX8_gatherMeetings_71 : decode cX8_gatherMeetings 71 = .ok (.goto (-44), 3) := by decide +kernel
theorem dX8_gatherMeetings_74 : decode cX8_gatherMeetings 74 = .ok (.iinc 3 1, 3) := by decide +kernel
theorem dX8_gatherMeetings_77 : decode cX8_gatherMeetings 77 = .ok (.goto (-63), 3) := by decide +kernel
theorem dX8_gatherMeetings_80 : decode cX8_gatherMeetings 80 = .ok (.return_, 1) := by decide +kernel
set_option maxRecDepth 20000 in
theorem ggX8_addMeeting_X5_gap : GoodIn wsX8_addMeeting wsX5_gap := goodIn_r _ [10, 11, 83, 84, 85, 86] (by decide +kernel) (by decide +kernel)
set_option maxRecDepth 20000 in
theorem gX8_addMeeting_X5_gap_n250 : GoodIn wsX8_addMeeting (wsX5_gap) := ggX8_addMeeting_X5_gap
set_option maxRecDepth 20000 in
theorem ggX8_addMeeting_X5_growth : GoodIn wsX8_addMeeting wsX5_growth := goodIn_r _ [14, 15, 83, 84, 85, 86] (by decide +kernel) (by decide +kernel)
set_option maxRecDepth 20000 in
theorem gX8_addMeeting_X5_growth_n253 : GoodIn wsX8_addMeeting (wsX5_growth) := ggX8_addMeeting_X5_growth
set_option maxRecDepth 20000 in
theorem ggX8_addMeeting_X2_past : GoodIn wsX8_addMeeting wsX2_past := goodIn_r _ [18, 19, 20, 17, 21, 22, 3, 4, 5, 23, 24, 25, 26, 27, 28] (by decide +kernel) (by decide +kernel)
set_option maxRecDepth 20000 in
theorem gX8_addMeeting_X2_past_n259 : GoodIn wsX8_addMeeting (wsX2_past) := ggX8_addMeeting_X2_past
set_option maxRecDepth 20000 in
theorem ggX8_addMeeting_X2_whole : GoodIn wsX8_addMeeting wsX2_whole := goodIn_r _ [28] (by decide +kernel) (by decide +kernel)
set_option maxRecDepth 20000 in
theorem gX8_addMeeting_X2_whole_n263 : GoodIn wsX8_addMeeting (wsX2_whole) := ggX8_addMeeting_X2_whole
set_option maxRecDepth 20000 in
theorem ggX8_addMeeting_X2_compare : GoodIn wsX8_addMeeting wsX2_compare := goodIn_r _ [30, 31, 32, 17, 33, 34, 35, 36, 37, 38, 39, 40, 41] (by decide +kernel) (by decide +kernel)
set_option maxRecDepth 20000 in
theorem gX8_addMeeting_X2_compare_n267 : GoodIn wsX8_addMeeting (wsX2_compare) := ggX8_addMeeting_X2_compare
set_option maxRecDepth 20000 in
theorem ggX8_addMeeting_X4_insert : GoodIn wsX8_addMeeting wsX4_insert := goodIn_r _ [45, 46, 47, 48, 49, 50, 29, 17, 30, 31, 32, 33, 34, 35, 36, 37, 38, 39, 40, 41, 87, 88, 89, 90, 91] (by decide +kernel) (by decide +kernel)
set_option maxRecDepth 20000 in
theorem gX8_addMeeting_X4_insert_n271 : GoodIn wsX8_addMeeting (wsX4_insert) := ggX8_addMeeting_X4_insert
set_option maxRecDepth 20000 in
theorem ggX8_addMeeting_X8_addMeetingAtBend : GoodIn wsX8_addMeeting wsX8_addMeetingAtBend := goodIn_r _ [55, 56, 6, 57, 58, 59, 60, 61, 62, 63, 64, 65, 66, 67, 68, 69, 70, 71, 27, 17, 28, 42, 43, 44, 45, 46, 47, 48, 49, 50, 29, 30, 31, 32, 33, 34, 35, 36, 37, 38, 39, 40, 41, 72, 73, 74, 75, 76, 77, 78, 79, 80, 81, 82, 92, 93, 94, 95, 96, 87, 88, 89, 90, 91] (by decide +kernel) (by decide +kernel)
set_option maxRecDepth 20000 in
theorem gX8_addMeeting_X8_addMeetingAtBend : GoodIn wsX8_addMeeting (wsV RX8 274 RX8 yX8_addMeetingAtBend wsX8_addMeetingAtBend) := goodIn_app (goodIn_of _ (by decide +kernel)) ggX8_addMeeting_X8_addMeetingAtBend
theorem dX8_addMeeting_0 : decode cX8_addMeeting 0 = .ok (.aload_n 0, 1) := by decide +kernel
theorem dX8_addMeeting_1 : decode cX8_addMeeting 1 = .ok (.getfield 30, 3) := by decide +kernel
theorem dX8_addMeeting_4 : decode cX8_addMeeting 4 = .ok (.iload_n 1, 1) := by decide +kernel
theorem dX8_addMeeting_5 : decode cX8_addMeeting 5 = .ok (.iload_n 2, 1) := by decide +kernel
theorem dX8_addMeeting_6 : decode cX8_addMeeting 6 = .ok (.invokevirtual 250, 3) := by decide +kernel
theorem dX8_addMeeting_9 : decode cX8_addMeeting 9 = .ok (.istore 5, 2) := by decide +kernel
theorem dX8_addMeeting_11 : decode cX8_addMeeting 11 = .ok (.aload_n 0, 1) := by decide +kernel
theorem dX8_addMeeting_12 : decode cX8_addMeeting 12 = .ok (.getfield 30, 3) := by decide +kernel
theorem dX8_addMeeting_15 : decode cX8_addMeeting 15 = .ok (.iload_n 1, 1) := by decide +kernel
theorem dX8_addMeeting_16 : decode cX8_addMeeting 16 = .ok (.iload_n 2, 1) := by decide +kernel
theorem dX8_addMeeting_17 : decode cX8_addMeeting 17 = .ok (.invokevirtual 253, 3) := by decide +kernel
theorem dX8_addMeeting_20 : decode cX8_addMeeting 20 = .ok (.istore 6, 2) := by decide +kernel
theorem dX8_addMeeting_22 : decode cX8_addMeeting 22 = .ok (.iload 5, 2) := by decide +kernel
theorem dX8_addMeeting_24 : decode cX8_addMeeting 24 = .ok (.ifCond .ge 8, 3) := by decide +kernel
theorem dX8_addMeeting_27 : decode cX8_addMeeting 27 = .ok (.iload 6, 2) := by decide +kernel
theorem dX8_addMeeting_29 : decode cX8_addMeeting 29 = .ok (.ifCond .gt 13, 3) := by decide +kernel
theorem dX8_addMeeting_32 : decode cX8_addMeeting 32 = .ok (.iload 5, 2) := by decide +kernel
theorem dX8_addMeeting_34 : decode cX8_addMeeting 34 = .ok (.ifCond .le 12, 3) := by decide +kernel
theorem dX8_addMeeting_37 : decode cX8_addMeeting 37 = .ok (.iload 6, 2) := by decide +kernel
theorem dX8_addMeeting_39 : decode cX8_addMeeting 39 = .ok (.ifCond .ge 7, 3) := by decide +kernel
theorem dX8_addMeeting_42 : decode cX8_addMeeting 42 = .ok (.iconst 1, 1) := by decide +kernel
theorem dX8_addMeeting_43 : decode cX8_addMeeting 43 = .ok (.goto 4, 3) := by decide +kernel
theorem dX8_addMeeting_46 : decode cX8_addMeeting 46 = .ok (.iconst 0, 1) := by decide +kernel
theorem dX8_addMeeting_47 : decode cX8_addMeeting 47 = .ok (.istore 7, 2) := by decide +kernel
theorem dX8_addMeeting_49 : decode cX8_addMeeting 49 = .ok (.iload 7, 2) := by decide +kernel
theorem dX8_addMeeting_51 : decode cX8_addMeeting 51 = .ok (.ifCond .ne 4, 3) := by decide +kernel
theorem dX8_addMeeting_54 : decode cX8_addMeeting 54 = .ok (.return_, 1) := by decide +kernel
theorem dX8_addMeeting_55 : decode cX8_addMeeting 55 = .ok (.iload_n 3, 1) := by decide +kernel
theorem dX8_addMeeting_56 : decode cX8_addMeeting 56 = .ok (.iload 5, 2) := by decide +kernel
theorem dX8_addMeeting_58 : decode cX8_addMeeting 58 = .ok (.invokestatic 256, 3) := by decide +kernel
theorem dX8_addMeeting_61 : decode cX8_addMeeting 61 = .ok (.iload 6, 2) := by decide +kernel
theorem dX8_addMeeting_63 : decode cX8_addMeeting 63 = .ok (.invokestatic 256, 3) := by decide +kernel
theorem dX8_addMeeting_66 : decode cX8_addMeeting 66 = .ok (.invokestatic 259, 3) := by decide +kernel
theorem dX8_addMeeting_69 : decode cX8_addMeeting 69 = .ok (.lstore 8, 2) := by decide +kernel
theorem dX8_addMeeting_71 : decode cX8_addMeeting 71 = .ok (.lload 8, 2) := by decide +kernel
theorem dX8_addMeeting_73 : decode cX8_addMeeting 73 = .ok (.iload 4, 2) := by decide +kernel
theorem dX8_addMeeting_75 : decode cX8_addMeeting 75 = .ok (.invokestatic 263, 3) := by decide +kernel
theorem dX8_addMeeting_78 : decode cX8_addMeeting 78 = .ok (.invokestatic 267, 3) := by decide +kernel
theorem dX8_addMeeting_81 : decode cX8_addMeeting 81 = .ok (.istore 10, 2) := by decide +kernel
theorem dX8_addMeeting_83 : decode cX8_addMeeting 83 = .ok (.iload 10, 2) := by decide +kernel
theorem dX8_addMeeting_85 : decode cX8_addMeeting 85 = .ok (.ifCond .ge 18, 3) := by decide +kernel
theorem dX8_addMeeting_88 : decode cX8_addMeeting 88 = .ok (.aload_n 0, 1) := by decide +kernel
theorem dX8_addMeeting_89 : decode cX8_addMeeting 89 = .ok (.getfield 37, 3) := by decide +kernel
theorem dX8_addMeeting_92 : decode cX8_addMeeting 92 = .ok (.lload 8, 2) := by decide +kernel
theorem dX8_addMeeting_94 : decode cX8_addMeeting 94 = .ok (.iload_n 1, 1) := by decide +kernel
theorem dX8_addMeeting_95 : decode cX8_addMeeting 95 = .ok (.iload_n 2, 1) := by decide +kernel
theorem dX8_addMeeting_96 : decode cX8_addMeeting 96 = .ok (.iconst 1, 1) := by decide +kernel
theorem dX8_addMeeting_97 : decode cX8_addMeeting 97 = .ok (.invokevirtual 271, 3) := by decide +kernel
theorem dX8_addMeeting_100 : decode cX8_addMeeting 100 = .ok (.goto 18, 3) := by decide +kernel
theorem dX8_addMeeting_103 : decode cX8_addMeeting 103 = .ok (.iload 10, 2) := by decide +kernel
theorem dX8_addMeeting_105 : decode cX8_addMeeting 105 = .ok (.ifCond .ne 13, 3) := by decide +kernel
theorem dX8_addMeeting_108 : decode cX8_addMeeting 108 = .ok (.aload_n 0, 1) := by decide +kernel
theorem dX8_addMeeting_109 : decode cX8_addMeeting 109 = .ok (.iload_n 1, 1) := by decide +kernel
theorem dX8_addMeeting_110 : decode cX8_addMeeting 110 = .ok (.iload_n 2, 1) := by decide +kernel
theorem dX8_addMeeting_111 : decode cX8_addMeeting 111 = .ok (.iload 4, 2) := by decide +kernel
theorem dX8_addMeeting_113 : decode cX8_addMeeting 113 = .ok (.iload 6, 2) := by decide +kernel
theorem dX8_addMeeting_115 : decode cX8_addMeeting 115 = .ok (.invokevirtual 274, 3) := by decide +kernel
theorem dX8_addMeeting_118 : decode cX8_addMeeting 118 = .ok (.return_, 1) := by decide +kernel
set_option maxRecDepth 20000 in
theorem ggX8_addMeetingAtBend_X0_isThere : GoodIn wsX8_addMeetingAtBend wsX0_isThere := goodIn_r _ [6, 7, 8, 54, 55, 56, 57, 58] (by decide +kernel) (by decide +kernel)
set_option maxRecDepth 20000 in
theorem gX8_addMeetingAtBend_X0_isThere_n140 : GoodIn wsX8_addMeetingAtBend (wsX0_isThere) := ggX8_addMeetingAtBend_X0_isThere
set_option maxRecDepth 20000 in
theorem ggX8_addMeetingAtBend_X0_speedAt : GoodIn wsX8_addMeetingAtBend wsX0_speedAt := goodIn_r _ [11, 12, 13, 14, 15, 4, 16, 17, 7, 54, 55, 56, 57, 58] (by decide +kernel) (by decide +kernel)
set_option maxRecDepth 20000 in
theorem gX8_addMeetingAtBend_X0_speedAt_n277 : GoodIn wsX8_addMeetingAtBend (wsX0_speedAt) := ggX8_addMeetingAtBend_X0_speedAt
set_option maxRecDepth 20000 in
theorem ggX8_addMeetingAtBend_X2_whole : GoodIn wsX8_addMeetingAtBend wsX2_whole := goodIn_r _ [20] (by decide +kernel) (by decide +kernel)
set_option maxRecDepth 20000 in
theorem gX8_addMeetingAtBend_X2_whole_n263 : GoodIn wsX8_addMeetingAtBend (wsX2_whole) := ggX8_addMeetingAtBend_X2_whole
set_option maxRecDepth 20000 in
theorem ggX8_addMeetingAtBend_X4_insert : GoodIn wsX8_addMeetingAtBend wsX4_insert := goodIn_r _ [24, 25, 26, 27, 28, 29, 30, 19, 31, 32, 33, 34, 35, 36, 37, 38, 39, 40, 41, 42, 59, 60, 61, 62, 63] (by decide +kernel) (by decide +kernel)
set_option maxRecDepth 20000 in
theorem gX8_addMeetingAtBend_X4_insert_n271 : GoodIn wsX8_addMeetingAtBend (wsX4_insert) := ggX8_addMeetingAtBend_X4_insert
theorem dX8_addMeetingAtBend_0 : decode cX8_addMeetingAtBend 0 = .ok (.aload_n 0, 1) := by decide +kernel
theorem dX8_addMeetingAtBend_1 : decode cX8_addMeetingAtBend 1 = .ok (.getfield 11, 3) := by decide +kernel
theorem dX8_addMeetingAtBend_4 : decode cX8_addMeetingAtBend 4 = .ok (.iload_n 1, 1) := by decide +kernel
theorem dX8_addMeetingAtBend_5 : decode cX8_addMeetingAtBend 5 = .ok (.aaload, 1) := by decide +kernel
theorem dX8_addMeetingAtBend_6 : decode cX8_addMeetingAtBend 6 = .ok (.astore 5, 2) := by decide +kernel
theorem dX8_addMeetingAtBend_8 : decode cX8_addMeetingAtBend 8 = .ok (.aload_n 0, 1) := by decide +kernel
theorem dX8_addMeetingAtBend_9 : decode cX8_addMeetingAtBend 9 = .ok (.getfield 11, 3) := by decide +kernel
theorem dX8_addMeetingAtBend_12 : decode cX8_addMeetingAtBend 12 = .ok (.iload_n 2, 1) := by decide +kernel
theorem dX8_addMeetingAtBend_13 : decode cX8_addMeetingAtBend 13 = .ok (.aaload, 1) := by decide +kernel
theorem dX8_addMeetingAtBend_14 : decode cX8_addMeetingAtBend 14 = .ok (.astore 6, 2) := by decide +kernel
theorem dX8_addMeetingAtBend_16 : decode cX8_addMeetingAtBend 16 = .ok (.aload 5, 2) := by decide +kernel
theorem dX8_addMeetingAtBend_18 : decode cX8_addMeetingAtBend 18 = .ok (.iload_n 3, 1) := by decide +kernel
theorem dX8_addMeetingAtBend_19 : decode cX8_addMeetingAtBend 19 = .ok (.iconst 1, 1) := by decide +kernel
theorem dX8_addMeetingAtBend_20 : decode cX8_addMeetingAtBend 20 = .ok (.invokevirtual 140, 3) := by decide +kernel
theorem dX8_addMeetingAtBend_23 : decode cX8_addMeetingAtBend 23 = .ok (.ifCond .eq 54, 3) := by decide +kernel
theorem dX8_addMeetingAtBend_26 : decode cX8_addMeetingAtBend 26 = .ok (.aload 6, 2) := by decide +kernel
theorem dX8_addMeetingAtBend_28 : decode cX8_addMeetingAtBend 28 = .ok (.iload_n 3, 1) := by decide +kernel
theorem dX8_addMeetingAtBend_29 : decode cX8_addMeetingAtBend 29 = .ok (.iconst 1, 1) := by decide +kernel
theorem dX8_addMeetingAtBend_30 : decode cX8_addMeetingAtBend 30 = .ok (.invokevirtual 140, 3) := by decide +kernel
theorem dX8_addMeetingAtBend_33 : decode cX8_addMeetingAtBend 33 = .ok (.ifCond .eq 44, 3) := by decide +kernel
theorem dX8_addMeetingAtBend_36 : decode cX8_addMeetingAtBend 36 = .ok (.aload 6, 2) := by decide +kernel
theorem dX8_addMeetingAtBend_38 : decode cX8_addMeetingAtBend 38 = .ok (.iload_n 3, 1) := by decide +kernel
theorem dX8_addMeetingAtBend_39 : decode cX8_addMeetingAtBend 39 = .ok (.invokevirtual 277, 3) := by decide +kernel
theorem dX8_addMeetingAtBend_42 : decode cX8_addMeetingAtBend 42 = .ok (.aload 5, 2) := by decide +kernel
theorem dX8_addMeetingAtBend_44 : decode cX8_addMeetingAtBend 44 = .ok (.iload_n 3, 1) := by decide +kernel
theorem dX8_addMeetingAtBend_45 : decode cX8_addMeetingAtBend 45 = .ok (.invokevirtual 277, 3) := by decide +kernel
theorem dX8_addMeetingAtBend_48 : decode cX8_addMeetingAtBend 48 = .ok (.isub, 1) := by decide +kernel
theorem dX8_addMeetingAtBend_49 : decode cX8_addMeetingAtBend 49 = .ok (.istore 7, 2) := by decide +kernel
theorem dX8_addMeetingAtBend_51 : decode cX8_addMeetingAtBend 51 = .ok (.aload_n 0, 1) := by decide +kernel
theorem dX8_addMeetingAtBend_52 : decode cX8_addMeetingAtBend 52 = .ok (.getfield 37, 3) := by decide +kernel
theorem dX8_addMeetingAtBend_55 : decode cX8_addMeetingAtBend 55 = .ok (.iload_n 3, 1) := by decide +kernel
theorem dX8_addMeetingAtBend_56 : decode cX8_addMeetingAtBend 56 = .ok (.invokestatic 263, 3) := by decide +kernel
theorem dX8_addMeetingAtBend_59 : decode cX8_addMeetingAtBend 59 = .ok (.iload_n 1, 1) := by decide +kernel
theorem dX8_addMeetingAtBend_60 : decode cX8_addMeetingAtBend 60 = .ok (.iload_n 2, 1) := by decide +kernel
theorem dX8_addMeetingAtBend_61 : decode cX8_addMeetingAtBend 61 = .ok (.iload 4, 2) := by decide +kernel
theorem dX8_addMeetingAtBend_63 : decode cX8_addMeetingAtBend 63 = .ok (.iload 7, 2) := by decide +kernel
theorem dX8_addMeetingAtBend_65 : decode cX8_addMeetingAtBend 65 = .ok (.imul, 1) := by decide +kernel
theorem dX8_addMeetingAtBend_66 : decode cX8_addMeetingAtBend 66 = .ok (.ifCond .le 7, 3) := by decide +kernel
theorem dX8_addMeetingAtBend_69 : decode cX8_addMeetingAtBend 69 = .ok (.iconst 1, 1) := by decide +kernel
theorem dX8_addMeetingAtBend_70 : decode cX8_addMeetingAtBend 70 = .ok (.goto 4, 3) := by decide +kernel
theorem dX8_addMeetingAtBend_73 : decode cX8_addMeetingAtBend 73 = .ok (.iconst 0, 1) := by decide +kernel
theorem dX8_addMeetingAtBend_74 : decode cX8_addMeetingAtBend 74 = .ok (.invokevirtual 271, 3) := by decide +kernel
theorem dX8_addMeetingAtBend_77 : decode cX8_addMeetingAtBend 77 = .ok (.return_, 1) := by decide +kernel
set_option maxRecDepth 20000 in
theorem ggX8_openStretch_X8_look : GoodIn wsX8_openStretch wsX8_look := goodIn_r _ [8, 9, 10, 11, 12, 13, 14, 15, 16, 17, 18, 19, 20, 21, 22, 23, 24, 25, 26, 27, 28, 29, 30, 31, 32, 33, 34, 35, 36, 37, 38, 39, 40, 41, 42, 43, 44, 45, 62, 63, 64, 65, 66, 67, 68, 69, 70, 71, 72, 73, 74, 75, 76, 77, 78, 79, 80, 81] (by decide +kernel) (by decide +kernel)
set_option maxRecDepth 20000 in
theorem gX8_openStretch_X8_look : GoodIn wsX8_openStretch (wsV RX8 240 RX8 yX8_look wsX8_look) := goodIn_app (goodIn_of _ (by decide +kernel)) ggX8_openStretch_X8_look
set_option maxRecDepth 20000 in
theorem ggX8_openStretch_X7_open : GoodIn wsX8_openStretch wsX7_open := goodIn_r _ [49, 50, 51, 52, 53, 54, 55, 56, 57, 47, 58, 59, 60, 61, 82, 83, 84, 85, 86] (by decide +kernel) (by decide +kernel)
set_option maxRecDepth 20000 in
theorem gX8_openStretch_X7_open_n280 : GoodIn wsX8_openStretch (wsX7_open) := ggX8_openStretch_X7_open
theorem dX8_openStretch_0 : decode cX8_openStretch 0 = .ok (.aload_n 0, 1) := by decide +kernel
theorem dX8_openStretch_1 : decode cX8_openStretch 1 = .ok (.aload_n 0, 1) := by decide +kernel
theorem dX8_openStretch_2 : decode cX8_openStretch 2 = .ok (.getfield 23, 3) := by decide +kernel
theorem dX8_openStretch_5 : decode cX8_openStretch 5 = .ok (.iload_n 1, 1) := by decide +kernel
theorem dX8_openStretch_6 : decode cX8_openStretch 6 = .ok (.iaload, 1) := by decide +kernel
theorem dX8_openStretch_7 : decode cX8_openStretch 7 = .ok (.invokevirtual 240, 3) := by decide +kernel
theorem dX8_openStretch_10 : decode cX8_openStretch 10 = .ok (.aload_n 0, 1) := by decide +kernel
theorem dX8_openStretch_11 : decode cX8_openStretch 11 = .ok (.getfield 44, 3) := by decide +kernel
theorem dX8_openStretch_14 : decode cX8_openStretch 14 = .ok (.aload_n 0, 1) := by decide +kernel
theorem dX8_openStretch_15 : decode cX8_openStretch 15 = .ok (.getfield 23, 3) := by decide +kernel
theorem dX8_openStretch_18 : decode cX8_openStretch 18 = .ok (.iload_n 1, 1) := by decide +kernel
theorem dX8_openStretch_19 : decode cX8_openStretch 19 = .ok (.iaload, 1) := by decide +kernel
theorem dX8_openStretch_20 : decode cX8_openStretch 20 = .ok (.iload_n 1, 1) := by decide +kernel
theorem dX8_openStretch_21 : decode cX8_openStretch 21 = .ok (.iconst 1, 1) := by decide +kernel
theorem dX8_openStretch_22 : decode cX8_openStretch 22 = .ok (.iadd, 1) := by decide +kernel
theorem dX8_openStretch_23 : decode cX8_openStretch 23 = .ok (.aload_n 0, 1) := by decide +kernel
theorem dX8_openStretch_24 : decode cX8_openStretch 24 = .ok (.getfield 189, 3) := by decide +kernel
theorem dX8_openStretch_27 : decode cX8_openStretch 27 = .ok (.if_icmp .ge 14, 3) := by decide +kernel
theorem dX8_openStretch_30 : decode cX8_openStretch 30 = .ok (.aload_n 0, 1) := by decide +kernel
theorem dX8_openStretch_31 : decode cX8_openStretch 31 = .ok (.getfield 23, 3) := by decide +kernel
theorem dX8_openStretch_34 : decode cX8_openStretch 34 = .ok (.iload_n 1, 1) := by decide +kernel
theorem dX8_openStretch_35 : decode cX8_openStretch 35 = .ok (.iconst 1, 1) := by decide +kernel
theorem dX8_openStretch_36 : decode cX8_openStretch 36 = .ok (.iadd, 1) := by decide +kernel
theorem dX8_openStretch_37 : decode cX8_openStretch 37 = .ok (.iaload, 1) := by decide +kernel
theorem dX8_openStretch_38 : decode cX8_openStretch 38 = .ok (.goto 9, 3) := by decide +kernel
theorem dX8_openStretch_41 : decode cX8_openStretch 41 = .ok (.aload_n 0, 1) := by decide +kernel
theorem dX8_openStretch_42 : decode cX8_openStretch 42 = .ok (.getfield 23, 3) := by decide +kernel
theorem dX8_openStretch_45 : decode cX8_openStretch 45 = .ok (.iload_n 1, 1) := by decide +kernel
theorem dX8_openStretch_46 : decode cX8_openStretch 46 = .ok (.iaload, 1) := by decide +kernel
theorem dX8_openStretch_47 : decode cX8_openStretch 47 = .ok (.invokevirtual 280, 3) := by decide +kernel
theorem dX8_openStretch_50 : decode cX8_openStretch 50 = .ok (.return_, 1) := by decide +kernel
set_option maxRecDepth 20000 in
theorem ggX8_keepNear_X5_has : GoodIn wsX8_keepNear wsX5_has := goodIn_r _ [6, 7, 8, 69, 70, 71, 72] (by decide +kernel) (by decide +kernel)
set_option maxRecDepth 20000 in
theorem gX8_keepNear_X5_has_n243 : GoodIn wsX8_keepNear (wsX5_has) := ggX8_keepNear_X5_has
set_option maxRecDepth 20000 in
theorem ggX8_keepNear_X7_keepNothing : GoodIn wsX8_keepNear wsX7_keepNothing := goodIn_r _ [12, 13, 73, 74, 75, 76, 77] (by decide +kernel) (by decide +kernel)
set_option maxRecDepth 20000 in
theorem gX8_keepNear_X7_keepNothing_n283 : GoodIn wsX8_keepNear (wsX7_keepNothing) := ggX8_keepNear_X7_keepNothing
set_option maxRecDepth 20000 in
theorem ggX8_keepNear_X5_gap : GoodIn wsX8_keepNear wsX5_gap := goodIn_r _ [16, 17, 69, 70, 71, 72] (by decide +kernel) (by decide +kernel)
set_option maxRecDepth 20000 in
theorem gX8_keepNear_X5_gap_n250 : GoodIn wsX8_keepNear (wsX5_gap) := ggX8_keepNear_X5_gap
set_option maxRecDepth 20000 in
theorem ggX8_keepNear_X5_growth : GoodIn wsX8_keepNear wsX5_growth := goodIn_r _ [20, 21, 69, 70, 71, 72] (by decide +kernel) (by decide +kernel)
set_option maxRecDepth 20000 in
theorem gX8_keepNear_X5_growth_n253 : GoodIn wsX8_keepNear (wsX5_growth) := ggX8_keepNear_X5_growth
set_option maxRecDepth 20000 in
theorem ggX8_keepNear_X7_keepAtMost : GoodIn wsX8_keepNear wsX7_keepAtMost := goodIn_r _ [24, 25, 26, 27, 28, 29, 30, 31, 32, 33, 34, 35, 36, 37, 38, 39, 40, 41, 42, 43, 44, 45, 46, 47, 48, 49, 50, 51, 52, 53, 54, 55, 56, 57, 9, 11, 10, 12, 13, 73, 74, 75, 76, 77] (by decide +kernel) (by decide +kernel)
set_option maxRecDepth 20000 in
theorem gX8_keepNear_X7_keepAtMost_n286 : GoodIn wsX8_keepNear (wsX7_keepAtMost) := ggX8_keepNear_X7_keepAtMost
theorem dX8_keepNear_0 : decode cX8_keepNear 0 = .ok (.aload_n 0, 1) := by decide +kernel
theorem dX8_keepNear_1 : decode cX8_keepNear 1 = .ok (.getfield 30, 3) := by decide +kernel
theorem dX8_keepNear_4 : decode cX8_keepNear 4 = .ok (.iload_n 1, 1) := by decide +kernel
theorem dX8_keepNear_5 : decode cX8_keepNear 5 = .ok (.invokevirtual 243, 3) := by decide +kernel
theorem dX8_keepNear_8 : decode cX8_keepNear 8 = .ok (.ifCond .eq 14, 3) := by decide +kernel
theorem dX8_keepNear_11 : decode cX8_keepNear 11 = .ok (.aload_n 0, 1) := by decide +kernel
theorem dX8_keepNear_12 : decode cX8_keepNear 12 = .ok (.getfield 30, 3) := by decide +kernel
theorem dX8_keepNear_15 : decode cX8_keepNear 15 = .ok (.iload_n 2, 1) := by decide +kernel
theorem dX8_keepNear_16 : decode cX8_keepNear 16 = .ok (.invokevirtual 243, 3) := by decide +kernel
theorem dX8_keepNear_19 : decode cX8_keepNear 19 = .ok (.ifCond .ne 11, 3) := by decide +kernel
theorem dX8_keepNear_22 : decode cX8_keepNear 22 = .ok (.aload_n 0, 1) := by decide +kernel
theorem dX8_keepNear_23 : decode cX8_keepNear 23 = .ok (.getfield 44, 3) := by decide +kernel
theorem dX8_keepNear_26 : decode cX8_keepNear 26 = .ok (.invokevirtual 283, 3) := by decide +kernel
theorem dX8_keepNear_29 : decode cX8_keepNear 29 = .ok (.return_, 1) := by decide +kernel
theorem dX8_keepNear_30 : decode cX8_keepNear 30 = .ok (.aload_n 0, 1) := by decide +kernel
theorem dX8_keepNear_31 : decode cX8_keepNear 31 = .ok (.getfield 44, 3) := by decide +kernel
theorem dX8_keepNear_34 : decode cX8_keepNear 34 = .ok (.aload_n 0, 1) := by decide +kernel
theorem dX8_keepNear_35 : decode cX8_keepNear 35 = .ok (.getfield 30, 3) := by decide +kernel
theorem dX8_keepNear_38 : decode cX8_keepNear 38 = .ok (.iload_n 1, 1) := by decide +kernel
theorem dX8_keepNear_39 : decode cX8_keepNear 39 = .ok (.iload_n 2, 1) := by decide +kernel
theorem dX8_keepNear_40 : decode cX8_keepNear 40 = .ok (.invokevirtual 250, 3) := by decide +kernel
theorem dX8_keepNear_43 : decode cX8_keepNear 43 = .ok (.aload_n 0, 1) := by decide +kernel
theorem dX8_keepNear_44 : decode cX8_keepNear 44 = .ok (.getfield 30, 3) := by decide +kernel
theorem dX8_keepNear_47 : decode cX8_keepNear 47 = .ok (.iload_n 1, 1) := by decide +kernel
theorem dX8_keepNear_48 : decode cX8_keepNear 48 = .ok (.iload_n 2, 1) := by decide +kernel
theorem dX8_keepNear_49 : decode cX8_keepNear 49 = .ok (.invokevirtual 253, 3) := by decide +kernel
theorem dX8_keepNear_52 : decode cX8_keepNear 52 = .ok (.iload_n 3, 1) := by decide +kernel
theorem dX8_keepNear_53 : decode cX8_keepNear 53 = .ok (.invokevirtual 286, 3) := by decide +kernel
theorem dX8_keepNear_56 : decode cX8_keepNear 56 = .ok (.aload_n 0, 1) := by decide +kernel
theorem dX8_keepNear_57 : decode cX8_keepNear 57 = .ok (.getfield 44, 3) := by decide +kernel
theorem dX8_keepNear_60 : decode cX8_keepNear 60 = .ok (.aload_n 0, 1) := by decide +kernel
theorem dX8_keepNear_61 : decode cX8_keepNear 61 = .ok (.getfield 30, 3) := by decide +kernel
theorem dX8_keepNear_64 : decode cX8_keepNear 64 = .ok (.iload_n 2, 1) := by decide +kernel
theorem dX8_keepNear_65 : decode cX8_keepNear 65 = .ok (.iload_n 1, 1) := by decide +kernel
theorem dX8_keepNear_66 : decode cX8_keepNear 66 = .ok (.invokevirtual 250, 3) := by decide +kernel
theorem dX8_keepNear_69 : decode cX8_keepNear 69 = .ok (.aload_n 0, 1) := by decide +kernel
theorem dX8_keepNear_70 : decode cX8_keepNear 70 = .ok (.getfield 30, 3) := by decide +kernel
theorem dX8_keepNear_73 : decode cX8_keepNear 73 = .ok (.iload_n 2, 1) := by decide +kernel
theorem dX8_keepNear_74 : decode cX8_keepNear 74 = .ok (.iload_n 1, 1) := by decide +kernel
theorem dX8_keepNear_75 : decode cX8_keepNear 75 = .ok (.invokevirtual 253, 3) := by decide +kernel
theorem dX8_keepNear_78 : decode cX8_keepNear 78 = .ok (.iload_n 3, 1) := by decide +kernel
theorem dX8_keepNear_79 : decode cX8_keepNear 79 = .ok (.invokevirtual 286, 3) := by decide +kernel
theorem dX8_keepNear_82 : decode cX8_keepNear 82 = .ok (.return_, 1) := by decide +kernel
set_option maxRecDepth 20000 in
theorem ggX8_keepFirst_X5_has : GoodIn wsX8_keepFirst wsX5_has := goodIn_r _ [7, 8, 9, 70, 71, 72, 73] (by decide +kernel) (by decide +kernel)
set_option maxRecDepth 20000 in
theorem gX8_keepFirst_X5_has_n243 : GoodIn wsX8_keepFirst (wsX5_has) := ggX8_keepFirst_X5_has
set_option maxRecDepth 20000 in
theorem ggX8_keepFirst_X7_keepNothing : GoodIn wsX8_keepFirst wsX7_keepNothing := goodIn_r _ [13, 14, 74, 75, 76, 77, 78] (by decide +kernel) (by decide +kernel)
set_option maxRecDepth 20000 in
theorem gX8_keepFirst_X7_keepNothing_n283 : GoodIn wsX8_keepFirst (wsX7_keepNothing) := ggX8_keepFirst_X7_keepNothing
set_option maxRecDepth 20000 in
theorem ggX8_keepFirst_X5_gap : GoodIn wsX8_keepFirst wsX5_gap := goodIn_r _ [17, 18, 70, 71, 72, 73] (by decide +kernel) (by decide +kernel)
set_option maxRecDepth 20000 in
theorem gX8_keepFirst_X5_gap_n250 : GoodIn wsX8_keepFirst (wsX5_gap) := ggX8_keepFirst_X5_gap
set_option maxRecDepth 20000 in
theorem ggX8_keepFirst_X5_growth : GoodIn wsX8_keepFirst wsX5_growth := goodIn_r _ [21, 22, 70, 71, 72, 73] (by decide +kernel) (by decide +kernel)
set_option maxRecDepth 20000 in
theorem gX8_keepFirst_X5_growth_n253 : GoodIn wsX8_keepFirst (wsX5_growth) := ggX8_keepFirst_X5_growth
set_option maxRecDepth 20000 in
theorem ggX8_keepFirst_X7_keepAtMost : GoodIn wsX8_keepFirst wsX7_keepAtMost := goodIn_r _ [25, 26, 27, 28, 29, 30, 31, 32, 33, 34, 35, 36, 37, 38, 39, 40, 41, 42, 43, 44, 45, 46, 47, 48, 49, 50, 51, 52, 53, 54, 55, 56, 57, 58, 10, 12, 11, 13, 14, 74, 75, 76, 77, 78] (by decide +kernel) (by decide +kernel)
set_option maxRecDepth 20000 in
theorem gX8_keepFirst_X7_keepAtMost_n286 : GoodIn wsX8_keepFirst (wsX7_keepAtMost) := ggX8_keepFirst_X7_keepAtMost
theorem dX8_keepFirst_0 : decode cX8_keepFirst 0 = .ok (.aload_n 0, 1) := by decide +kernel
theorem dX8_keepFirst_1 : decode cX8_keepFirst 1 = .ok (.getfield 30, 3) := by decide +kernel
theorem dX8_keepFirst_4 : decode cX8_keepFirst 4 = .ok (.iload_n 1, 1) := by decide +kernel
theorem dX8_keepFirst_5 : decode cX8_keepFirst 5 = .ok (.invokevirtual 243, 3) := by decide +kernel
theorem dX8_keepFirst_8 : decode cX8_keepFirst 8 = .ok (.ifCond .ne 11, 3) := by decide +kernel
theorem dX8_keepFirst_11 : decode cX8_keepFirst 11 = .ok (.aload_n 0, 1) := by decide +kernel
theorem dX8_keepFirst_12 : decode cX8_keepFirst 12 = .ok (.getfield 44, 3) := by decide +kernel
theorem dX8_keepFirst_15 : decode cX8_keepFirst 15 = .ok (.invokevirtual 283, 3) := by decide +kernel
theorem dX8_keepFirst_18 : decode cX8_keepFirst 18 = .ok (.return_, 1) := by decide +kernel
theorem dX8_keepFirst_19 : decode cX8_keepFirst 19 = .ok (.iconst 0, 1) := by decide +kernel
theorem dX8_keepFirst_20 : decode cX8_keepFirst 20 = .ok (.istore_n 2, 1) := by decide +kernel
theorem dX8_keepFirst_21 : decode cX8_keepFirst 21 = .ok (.iload_n 2, 1) := by decide +kernel
theorem dX8_keepFirst_22 : decode cX8_keepFirst 22 = .ok (.aload_n 0, 1) := by decide +kernel
theorem dX8_keepFirst_23 : decode cX8_keepFirst 23 = .ok (.getfield 67, 3) := by decide +kernel
theorem dX8_keepFirst_26 : decode cX8_keepFirst 26 = .ok (.if_icmp .ge 46, 3) := by decide +kernel
theorem dX8_keepFirst_29 : decode cX8_keepFirst 29 = .ok (.aload_n 0, 1) := by decide +kernel
theorem dX8_keepFirst_30 : decode cX8_keepFirst 30 = .ok (.getfield 30, 3) := by decide +kernel
theorem dX8_keepFirst_33 : decode cX8_keepFirst 33 = .ok (.iload_n 2, 1) := by decide +kernel
theorem dX8_keepFirst_34 : decode cX8_keepFirst 34 = .ok (.invokevirtual 243, 3) := by decide +kernel
theorem dX8_keepFirst_37 : decode cX8_keepFirst 37 = .ok (.ifCond .eq 29, 3) := by decide +kernel
theorem dX8_keepFirst_40 : decode cX8_keepFirst 40 = .ok (.aload_n 0, 1) := by decide +kernel
theorem dX8_keepFirst_41 : decode cX8_keepFirst 41 = .ok (.getfield 44, 3) := by decide +kernel
theorem dX8_keepFirst_44 : decode cX8_keepFirst 44 = .ok (.aload_n 0, 1) := by decide +kernel
theorem dX8_keepFirst_45 : decode cX8_keepFirst 45 = .ok (.getfield 30, 3) := by decide +kernel
theorem dX8_keepFirst_48 : decode cX8_keepFirst 48 = .ok (.iload_n 1, 1) := by decide +kernel
theorem dX8_keepFirst_49 : decode cX8_keepFirst 49 = .ok (.iload_n 2, 1) := by decide +kernel
theorem dX8_keepFirst_50 : decode cX8_keepFirst 50 = .ok (.invokevirtual 250, 3) := by decide +kernel
theorem dX8_keepFirst_53 : decode cX8_keepFirst 53 = .ok (.aload_n 0, 1) := by decide +kernel
theorem dX8_keepFirst_54 : decode cX8_keepFirst 54 = .ok (.getfield 30, 3) := by decide +kernel
theorem dX8_keepFirst_57 : decode cX8_keepFirst 57 = .ok (.iload_n 1, 1) := by decide +kernel
theorem dX8_keepFirst_58 : decode cX8_keepFirst 58 = .ok (.iload_n 2, 1) := by decide +kernel
theorem dX8_keepFirst_59 : decode cX8_keepFirst 59 = .ok (.invokevirtual 253, 3) := by decide +kernel
theorem dX8_keepFirst_62 : decode cX8_keepFirst 62 = .ok (.iconst 0, 1) := by decide +kernel
theorem dX8_keepFirst_63 : decode cX8_keepFirst 63 = .ok (.invokevirtual 286, 3) := by decide +kernel
theorem dX8_keepFirst_66 : decode cX8_keepFirst 66 = .ok (.iinc 2 1, 3) := by decide +kernel
theorem dX8_keepFirst_69 : decode cX8_keepFirst 69 = .ok (.goto (-48), 3) := by decide +kernel
theorem dX8_keepFirst_72 : decode cX8_keepFirst 72 = .ok (.return_, 1) := by decide +kernel
set_option maxRecDepth 20000 in
theorem ggX8_gatherCrowd_X1_clear : GoodIn wsX8_gatherCrowd wsX1_clear := goodIn_r _ [8, 9, 88, 89, 90] (by decide +kernel) (by decide +kernel)
set_option maxRecDepth 20000 in
theorem gX8_gatherCrowd_X1_clear_n289 : GoodIn wsX8_gatherCrowd (wsX1_clear) := ggX8_gatherCrowd_X1_clear
set_option maxRecDepth 20000 in
theorem ggX8_gatherCrowd_X5_has : GoodIn wsX8_gatherCrowd wsX5_has := goodIn_r _ [13, 14, 15, 84, 85, 86, 87] (by decide +kernel) (by decide +kernel)
set_option maxRecDepth 20000 in
theorem gX8_gatherCrowd_X5_has_n243 : GoodIn wsX8_gatherCrowd (wsX5_has) := ggX8_gatherCrowd_X5_has
set_option maxRecDepth 20000 in
theorem ggX8_gatherCrowd_X7_keepAll : GoodIn wsX8_gatherCrowd wsX7_keepAll := goodIn_r _ [19, 20, 21, 22, 23, 24, 25, 26, 27, 91, 92, 93, 94, 95] (by decide +kernel) (by decide +kernel)
set_option maxRecDepth 20000 in
theorem gX8_gatherCrowd_X7_keepAll_n290 : GoodIn wsX8_gatherCrowd (wsX7_keepAll) := ggX8_gatherCrowd_X7_keepAll
set_option maxRecDepth 20000 in
theorem ggX8_gatherCrowd_X7_keepAtMost : GoodIn wsX8_gatherCrowd wsX7_keepAtMost := goodIn_r _ [30, 20, 23, 21, 31, 26, 32, 33, 34, 35, 36, 37, 38, 39, 40, 41, 42, 43, 25, 27, 44, 45, 46, 47, 48, 49, 50, 51, 52, 53, 54, 55, 56, 57, 58, 59, 17, 60, 24, 91, 92, 93, 94, 95] (by decide +kernel) (by decide +kernel)
set_option maxRecDepth 20000 in
theorem gX8_gatherCrowd_X7_keepAtMost_n286 : GoodIn wsX8_gatherCrowd (wsX7_keepAtMost) := ggX8_gatherCrowd_X7_keepAtMost
set_option maxRecDepth 20000 in
theorem ggX8_gatherCrowd_X1_addIfSo : GoodIn wsX8_gatherCrowd wsX1_addIfSo := goodIn_r _ [63, 9, 64, 65, 66, 17, 67, 68, 21, 22, 20, 24, 23, 47, 26, 48, 44, 45, 46, 49, 50, 51, 52, 53, 54, 55, 56, 69, 70, 71, 6, 72, 88, 89, 90, 91, 92, 93, 94, 95] (by decide +kernel) (by decide +kernel)
set_option maxRecDepth 20000 in
theorem gX8_gatherCrowd_X1_addIfSo_n299 : GoodIn wsX8_gatherCrowd (wsX1_addIfSo) := ggX8_gatherCrowd_X1_addIfSo
theorem dX8_gatherCrowd_0 : decode cX8_gatherCrowd 0 = .ok (.aload_n 0, 1) := by decide +kernel
theorem dX8_gatherCrowd_1 : decode cX8_gatherCrowd 1 = .ok (.getfield 51, 3) := by decide +kernel
theorem dX8_gatherCrowd_4 : decode cX8_gatherCrowd 4 = .ok (.invokevirtual 289, 3) := by decide +kernel
theorem dX8_gatherCrowd_7 : decode cX8_gatherCrowd 7 = .ok (.iconst 0, 1) := by decide +kernel
theorem dX8_gatherCrowd_8 : decode cX8_gatherCrowd 8 = .ok (.istore_n 3, 1) := by decide +kernel
theorem dX8_gatherCrowd_9 : decode cX8_gatherCrowd 9 = .ok (.iload_n 3, 1) := by decide +kernel
theorem dX8_gatherCrowd_10 : decode cX8_gatherCrowd 10 = .ok (.aload_n 0, 1) := by decide +kernel
theorem dX8_gatherCrowd_11 : decode cX8_gatherCrowd 11 = .ok (.getfield 67, 3) := by decide +kernel
theorem dX8_gatherCrowd_14 : decode cX8_gatherCrowd 14 = .ok (.if_icmp .ge 93, 3) := by decide +kernel
theorem dX8_gatherCrowd_17 : decode cX8_gatherCrowd 17 = .ok (.aload_n 0, 1) := by decide +kernel
theorem dX8_gatherCrowd_18 : decode cX8_gatherCrowd 18 = .ok (.getfield 30, 3) := by decide +kernel
theorem dX8_gatherCrowd_21 : decode cX8_gatherCrowd 21 = .ok (.iload_n 3, 1) := by decide +kernel
theorem dX8_gatherCrowd_22 : decode cX8_gatherCrowd 22 = .ok (.invokevirtual 243, 3) := by decide +kernel
theorem dX8_gatherCrowd_25 : decode cX8_gatherCrowd 25 = .ok (.ifCond .eq 76, 3) := by decide +kernel
theorem dX8_gatherCrowd_28 : decode cX8_gatherCrowd 28 = .ok (.aload_n 0, 1) := by decide +kernel
theorem dX8_gatherCrowd_29 : decode cX8_gatherCrowd 29 = .ok (.getfield 44, 3) := by decide +kernel
theorem dX8_gatherCrowd_32 : decode cX8_gatherCrowd 32 = .ok (.invokevirtual 290, 3) := by decide +kernel
theorem dX8_gatherCrowd_35 : decode cX8_gatherCrowd 35 = .ok (.aload_n 0, 1) := by decide +kernel
theorem dX8_gatherCrowd_36 : decode cX8_gatherCrowd 36 = .ok (.getfield 44, 3) := by decide +kernel
theorem dX8_gatherCrowd_39 : decode cX8_gatherCrowd 39 = .ok (.aload_n 0, 1) := by decide +kernel
theorem dX8_gatherCrowd_40 : decode cX8_gatherCrowd 40 = .ok (.getfield 30, 3) := by decide +kernel
theorem dX8_gatherCrowd_43 : decode cX8_gatherCrowd 43 = .ok (.getfield 293, 3) := by decide +kernel
theorem dX8_gatherCrowd_46 : decode cX8_gatherCrowd 46 = .ok (.iload_n 3, 1) := by decide +kernel
theorem dX8_gatherCrowd_47 : decode cX8_gatherCrowd 47 = .ok (.iaload, 1) := by decide +kernel
theorem dX8_gatherCrowd_48 : decode cX8_gatherCrowd 48 = .ok (.aload_n 0, 1) := by decide +kernel
theorem dX8_gatherCrowd_49 : decode cX8_gatherCrowd 49 = .ok (.getfield 30, 3) := by decide +kernel
theorem dX8_gatherCrowd_52 : decode cX8_gatherCrowd 52 = .ok (.getfield 296, 3) := by decide +kernel
theorem dX8_gatherCrowd_55 : decode cX8_gatherCrowd 55 = .ok (.iload_n 3, 1) := by decide +kernel
theorem dX8_gatherCrowd_56 : decode cX8_gatherCrowd 56 = .ok (.iaload, 1) := by decide +kernel
theorem dX8_gatherCrowd_57 : decode cX8_gatherCrowd 57 = .ok (.iload_n 2, 1) := by decide +kernel
theorem dX8_gatherCrowd_58 : decode cX8_gatherCrowd 58 = .ok (.invokevirtual 286, 3) := by decide +kernel
theorem dX8_gatherCrowd_61 : decode cX8_gatherCrowd 61 = .ok (.aload_n 0, 1) := by decide +kernel
theorem dX8_gatherCrowd_62 : decode cX8_gatherCrowd 62 = .ok (.getfield 44, 3) := by decide +kernel
theorem dX8_gatherCrowd_65 : decode cX8_gatherCrowd 65 = .ok (.aload_n 0, 1) := by decide +kernel
theorem dX8_gatherCrowd_66 : decode cX8_gatherCrowd 66 = .ok (.getfield 30, 3) := by decide +kernel
theorem dX8_gatherCrowd_69 : decode cX8_gatherCrowd 69 = .ok (.getfield 293, 3) := by decide +kernel
theorem dX8_gatherCrowd_72 : decode cX8_gatherCrowd 72 = .ok (.iload_n 3, 1) := by decide +kernel
theorem dX8_gatherCrowd_73 : decode cX8_gatherCrowd 73 = .ok (.iaload, 1) := by decide +kernel
theorem dX8_gatherCrowd_74 : decode cX8_gatherCrowd 74 = .ok (.ineg, 1) := by decide +kernel
theorem dX8_gatherCrowd_75 : decode cX8_gatherCrowd 75 = .ok (.aload_n 0, 1) := by decide +kernel
theorem dX8_gatherCrowd_76 : decode cX8_gatherCrowd 76 = .ok (.getfield 30, 3) := by decide +kernel
theorem dX8_gatherCrowd_79 : decode cX8_gatherCrowd 79 = .ok (.getfield 296, 3) := by decide +kernel
theorem dX8_gatherCrowd_82 : decode cX8_gatherCrowd 82 = .ok (.iload_n 3, 1) := by decide +kernel
theorem dX8_gatherCrowd_83 : decode cX8_gatherCrowd 83 = .ok (.iaload, 1) := by decide +kernel
theorem dX8_gatherCrowd_84 : decode cX8_gatherCrowd 84 = .ok (.ineg, 1) := by decide +kernel
theorem dX8_gatherCrowd_85 : decode cX8_gatherCrowd 85 = .ok (.iload_n 1, 1) := by decide +kernel
theorem dX8_gatherCrowd_86 : decode cX8_gatherCrowd 86 = .ok (.ineg, 1) := by decide +kernel
theorem dX8_gatherCrowd_87 : decode cX8_gatherCrowd 87 = .ok (.invokevirtual 286, 3) := by decide +kernel
theorem dX8_gatherCrowd_90 : decode cX8_gatherCrowd 90 = .ok (.aload_n 0, 1) := by decide +kernel
theorem dX8_gatherCrowd_91 : decode cX8_gatherCrowd 91 = .ok (.getfield 51, 3) := by decide +kernel
theorem dX8_gatherCrowd_94 : decode cX8_gatherCrowd 94 = .ok (.aload_n 0, 1) := by decide +kernel
theorem dX8_gatherCrowd_95 : decode cX8_gatherCrowd 95 = .ok (.getfield 44, 3) := by decide +kernel
theorem dX8_gatherCrowd_98 : decode cX8_gatherCrowd 98 = .ok (.invokevirtual 299, 3) := by decide +kernel
theorem dX8_gatherCrowd_101 : decode cX8_gatherCrowd 101 = .ok (.iinc 3 1, 3) := by decide +kernel
theorem dX8_gatherCrowd_104 : decode cX8_gatherCrowd 104 = .ok (.goto (-95), 3) := by decide +kernel
theorem dX8_gatherCrowd_107 : decode cX8_gatherCrowd 107 = .ok (.return_, 1) := by decide +kernel
set_option maxRecDepth 20000 in
theorem ggX8_addCrowded_X2_compare : GoodIn wsX8_addCrowded wsX2_compare := goodIn_r _ [5, 6, 7, 4, 8, 9, 10, 11, 12, 13, 14, 15, 16] (by decide +kernel) (by decide +kernel)
set_option maxRecDepth 20000 in
theorem gX8_addCrowded_X2_compare_n267 : GoodIn wsX8_addCrowded (wsX2_compare) := ggX8_addCrowded_X2_compare
set_option maxRecDepth 20000 in
theorem ggX8_addCrowded_X6_add : GoodIn wsX8_addCrowded wsX6_add := goodIn_r _ [20, 21, 22, 23, 24, 25, 3, 4, 5, 6, 7, 8, 9, 10, 11, 12, 13, 14, 15, 16, 40, 41, 42, 43, 44] (by decide +kernel) (by decide +kernel)
set_option maxRecDepth 20000 in
theorem gX8_addCrowded_X6_add_n308 : GoodIn wsX8_addCrowded (wsX6_add) := ggX8_addCrowded_X6_add
theorem dX8_addCrowded_0 : decode cX8_addCrowded 0 = .ok (.iconst 0, 1) := by decide +kernel
theorem dX8_addCrowded_1 : decode cX8_addCrowded 1 = .ok (.istore_n 2, 1) := by decide +kernel
theorem dX8_addCrowded_2 : decode cX8_addCrowded 2 = .ok (.lconst 0, 1) := by decide +kernel
theorem dX8_addCrowded_3 : decode cX8_addCrowded 3 = .ok (.lstore_n 3, 1) := by decide +kernel
theorem dX8_addCrowded_4 : decode cX8_addCrowded 4 = .ok (.iconst 0, 1) := by decide +kernel
theorem dX8_addCrowded_5 : decode cX8_addCrowded 5 = .ok (.istore 5, 2) := by decide +kernel
theorem dX8_addCrowded_7 : decode cX8_addCrowded 7 = .ok (.iload 5, 2) := by decide +kernel
theorem dX8_addCrowded_9 : decode cX8_addCrowded 9 = .ok (.aload_n 0, 1) := by decide +kernel
theorem dX8_addCrowded_10 : decode cX8_addCrowded 10 = .ok (.getfield 51, 3) := by decide +kernel
theorem dX8_addCrowded_13 : decode cX8_addCrowded 13 = .ok (.getfield 300, 3) := by decide +kernel
theorem dX8_addCrowded_16 : decode cX8_addCrowded 16 = .ok (.if_icmp .ge 93, 3) := by decide +kernel
theorem dX8_addCrowded_19 : decode cX8_addCrowded 19 = .ok (.aload_n 0, 1) := by decide +kernel
theorem dX8_addCrowded_20 : decode cX8_addCrowded 20 = .ok (.getfield 51, 3) := by decide +kernel
theorem dX8_addCrowded_23 : decode cX8_addCrowded 23 = .ok (.getfield 301, 3) := by decide +kernel
theorem dX8_addCrowded_26 : decode cX8_addCrowded 26 = .ok (.iload 5, 2) := by decide +kernel
theorem dX8_addCrowded_28 : decode cX8_addCrowded 28 = .ok (.laload, 1) := by decide +kernel
theorem dX8_addCrowded_29 : decode cX8_addCrowded 29 = .ok (.lstore 6, 2) := by decide +kernel
theorem dX8_addCrowded_31 : decode cX8_addCrowded 31 = .ok (.iload_n 2, 1) := by decide +kernel
theorem dX8_addCrowded_32 : decode cX8_addCrowded 32 = .ok (.aload_n 0, 1) := by decide +kernel
theorem dX8_addCrowded_33 : decode cX8_addCrowded 33 = .ok (.getfield 51, 3) := by decide +kernel
theorem dX8_addCrowded_36 : decode cX8_addCrowded 36 = .ok (.getfield 300, 3) := by decide +kernel
theorem dX8_addCrowded_39 : decode cX8_addCrowded 39 = .ok (.if_icmp .ge 46, 3) := by decide +kernel
theorem dX8_addCrowded_42 : decode cX8_addCrowded 42 = .ok (.aload_n 0, 1) := by decide +kernel
theorem dX8_addCrowded_43 : decode cX8_addCrowded 43 = .ok (.getfield 51, 3) := by decide +kernel
theorem dX8_addCrowded_46 : decode cX8_addCrowded 46 = .ok (.getfield 305, 3) := by decide +kernel
theorem dX8_addCrowded_49 : decode cX8_addCrowded 49 = .ok (.iload_n 2, 1) := by decide +kernel
theorem dX8_addCrowded_50 : decode cX8_addCrowded 50 = .ok (.laload, 1) := by decide +kernel
theorem dX8_addCrowded_51 : decode cX8_addCrowded 51 = .ok (.lload 6, 2) := by decide +kernel
theorem dX8_addCrowded_53 : decode cX8_addCrowded 53 = .ok (.invokestatic 267, 3) := by decide +kernel
theorem dX8_addCrowded_56 : decode cX8_addCrowded 56 = .ok (.ifCond .gt 29, 3) := by decide +kernel
theorem dX8_addCrowded_59 : decode cX8_addCrowded 59 = .ok (.iinc 2 1, 3) := by decide +kernel
theorem dX8_addCrowded_62 : decode cX8_addCrowded 62 = .ok (.iload_n 2, 1) := by decide +kernel
theorem dX8_addCrowded_63 : decode cX8_addCrowded 63 = .ok (.iload 5, 2) := by decide +kernel
theorem dX8_addCrowded_65 : decode cX8_addCrowded 65 = .ok (.isub, 1) := by decide +kernel
theorem dX8_addCrowded_66 : decode cX8_addCrowded 66 = .ok (.iload_n 1, 1) := by decide +kernel
theorem dX8_addCrowded_67 : decode cX8_addCrowded 67 = .ok (.if_icmp .ne (-36), 3) := by decide +kernel
theorem dX8_addCrowded_70 : decode cX8_addCrowded 70 = .ok (.aload_n 0, 1) := by decide +kernel
theorem dX8_addCrowded_71 : decode cX8_addCrowded 71 = .ok (.getfield 51, 3) := by decide +kernel
theorem dX8_addCrowded_74 : decode cX8_addCrowded 74 = .ok (.getfield 305, 3) := by decide +kernel
theorem dX8_addCrowded_77 : decode cX8_addCrowded 77 = .ok (.iload_n 2, 1) := by decide +kernel
theorem dX8_addCrowded_78 : decode cX8_addCrowded 78 = .ok (.iconst 1, 1) := by decide +kernel
theorem dX8_addCrowded_79 : decode cX8_addCrowded 79 = .ok (.isub, 1) := by decide +kernel
theorem dX8_addCrowded_80 : decode cX8_addCrowded 80 = .ok (.laload, 1) := by decide +kernel
theorem dX8_addCrowded_81 : decode cX8_addCrowded 81 = .ok (.lstore_n 3, 1) := by decide +kernel
theorem dX8_addCrowded_82 : decode cX8_addCrowded 82 = .ok (.goto (-51), 3) := by decide +kernel
theorem dX8_addCrowded_85 : decode cX8_addCrowded 85 = .ok (.iload_n 2, 1) := by decide +kernel
theorem dX8_addCrowded_86 : decode cX8_addCrowded 86 = .ok (.iload 5, 2) := by decide +kernel
theorem dX8_addCrowded_88 : decode cX8_addCrowded 88 = .ok (.isub, 1) := by decide +kernel
theorem dX8_addCrowded_89 : decode cX8_addCrowded 89 = .ok (.iload_n 1, 1) := by decide +kernel
theorem dX8_addCrowded_90 : decode cX8_addCrowded 90 = .ok (.if_icmp .ne 13, 3) := by decide +kernel
theorem dX8_addCrowded_93 : decode cX8_addCrowded 93 = .ok (.aload_n 0, 1) := by decide +kernel
theorem dX8_addCrowded_94 : decode cX8_addCrowded 94 = .ok (.getfield 58, 3) := by decide +kernel
theorem dX8_addCrowded_97 : decode cX8_addCrowded 97 = .ok (.lload_n 3, 1) := by decide +kernel
theorem dX8_addCrowded_98 : decode cX8_addCrowded 98 = .ok (.lload 6, 2) := by decide +kernel
theorem dX8_addCrowded_100 : decode cX8_addCrowded 100 = .ok (.invokevirtual 308, 3) := by decide +kernel
theorem dX8_addCrowded_103 : decode cX8_addCrowded 103 = .ok (.iinc 5 1, 3) := by decide +kernel
theorem dX8_addCrowded_106 : decode cX8_addCrowded 106 = .ok (.goto (-99), 3) := by decide +kernel
theorem dX8_addCrowded_109 : decode cX8_addCrowded 109 = .ok (.return_, 1) := by decide +kernel
