theorem dX9_init_0 : decode cX9_init 0 = .ok (.aload_n 0, 1) := by decide +kernel
theorem dX9_init_1 : decode cX9_init 1 = .ok (.invokespecial 1, 3) := by decide +kernel
theorem dX9_init_4 : decode cX9_init 4 = .ok (.aload_n 0, 1) := by decide +kernel
theorem dX9_init_5 : decode cX9_init 5 = .ok (.bipush 10, 2) := by decide +kernel
theorem dX9_init_7 : decode cX9_init 7 = .ok (.newarray .int, 2) := by decide +kernel
theorem dX9_init_9 : decode cX9_init 9 = .ok (.putfield 7, 3) := by decide +kernel
theorem dX9_init_12 : decode cX9_init 12 = .ok (.aload_n 0, 1) := by decide +kernel
theorem dX9_init_13 : decode cX9_init 13 = .ok (.bipush 10, 2) := by decide +kernel
theorem dX9_init_15 : decode cX9_init 15 = .ok (.newarray .int, 2) := by decide +kernel
theorem dX9_init_17 : decode cX9_init 17 = .ok (.putfield 13, 3) := by decide +kernel
theorem dX9_init_20 : decode cX9_init 20 = .ok (.aload_n 0, 1) := by decide +kernel
theorem dX9_init_21 : decode cX9_init 21 = .ok (.bipush 80, 2) := by decide +kernel
theorem dX9_init_23 : decode cX9_init 23 = .ok (.newarray .int, 2) := by decide +kernel
theorem dX9_init_25 : decode cX9_init 25 = .ok (.putfield 16, 3) := by decide +kernel
theorem dX9_init_28 : decode cX9_init 28 = .ok (.aload_n 0, 1) := by decide +kernel
theorem dX9_init_29 : decode cX9_init 29 = .ok (.bipush 80, 2) := by decide +kernel
theorem dX9_init_31 : decode cX9_init 31 = .ok (.newarray .int, 2) := by decide +kernel
theorem dX9_init_33 : decode cX9_init 33 = .ok (.putfield 19, 3) := by decide +kernel
theorem dX9_init_36 : decode cX9_init 36 = .ok (.aload_n 0, 1) := by decide +kernel
theorem dX9_init_37 : decode cX9_init 37 = .ok (.bipush 80, 2) := by decide +kernel
theorem dX9_init_39 : decode cX9_init 39 = .ok (.newarray .int, 2) := by decide +kernel
theorem dX9_init_41 : decode cX9_init 41 = .ok (.putfield 22, 3) := by decide +kernel
theorem dX9_init_44 : decode cX9_init 44 = .ok (.aload_n 0, 1) := by decide +kernel
theorem dX9_init_45 : decode cX9_init 45 = .ok (.bipush 10, 2) := by decide +kernel
theorem dX9_init_47 : decode cX9_init 47 = .ok (.newarray .int, 2) := by decide +kernel
theorem dX9_init_49 : decode cX9_init 49 = .ok (.putfield 25, 3) := by decide +kernel
theorem dX9_init_52 : decode cX9_init 52 = .ok (.aload_n 0, 1) := by decide +kernel
theorem dX9_init_53 : decode cX9_init 53 = .ok (.sipush 800, 3) := by decide +kernel
theorem dX9_init_56 : decode cX9_init 56 = .ok (.newarray .long, 2) := by decide +kernel
theorem dX9_init_58 : decode cX9_init 58 = .ok (.putfield 28, 3) := by decide +kernel
theorem dX9_init_61 : decode cX9_init 61 = .ok (.aload_n 0, 1) := by decide +kernel
theorem dX9_init_62 : decode cX9_init 62 = .ok (.sipush 800, 3) := by decide +kernel
theorem dX9_init_65 : decode cX9_init 65 = .ok (.newarray .long, 2) := by decide +kernel
theorem dX9_init_67 : decode cX9_init 67 = .ok (.putfield 32, 3) := by decide +kernel
theorem dX9_init_70 : decode cX9_init 70 = .ok (.aload_n 0, 1) := by decide +kernel
theorem dX9_init_71 : decode cX9_init 71 = .ok (.sipush 800, 3) := by decide +kernel
theorem dX9_init_74 : decode cX9_init 74 = .ok (.newarray .int, 2) := by decide +kernel
theorem dX9_init_76 : decode cX9_init 76 = .ok (.putfield 35, 3) := by decide +kernel
theorem dX9_init_79 : decode cX9_init 79 = .ok (.aload_n 0, 1) := by decide +kernel
theorem dX9_init_80 : decode cX9_init 80 = .ok (.sipush 800, 3) := by decide +kernel
theorem dX9_init_83 : decode cX9_init 83 = .ok (.newarray .int, 2) := by decide +kernel
theorem dX9_init_85 : decode cX9_init 85 = .ok (.putfield 38, 3) := by decide +kernel
theorem dX9_init_88 : decode cX9_init 88 = .ok (.aload_n 0, 1) := by decide +kernel
theorem dX9_init_89 : decode cX9_init 89 = .ok (.sipush 800, 3) := by decide +kernel
theorem dX9_init_92 : decode cX9_init 92 = .ok (.newarray .boolean, 2) := by decide +kernel
theorem dX9_init_94 : decode cX9_init 94 = .ok (.putfield 41, 3) := by decide +kernel
theorem dX9_init_97 : decode cX9_init 97 = .ok (.aload_n 0, 1) := by decide +kernel
theorem dX9_init_98 : decode cX9_init 98 = .ok (.sipush 700, 3) := by decide +kernel
theorem dX9_init_101 : decode cX9_init 101 = .ok (.newarray .long, 2) := by decide +kernel
theorem dX9_init_103 : decode cX9_init 103 = .ok (.putfield 45, 3) := by decide +kernel
theorem dX9_init_106 : decode cX9_init 106 = .ok (.aload_n 0, 1) := by decide +kernel
theorem dX9_init_107 : decode cX9_init 107 = .ok (.sipush 700, 3) := by decide +kernel
theorem dX9_init_110 : decode cX9_init 110 = .ok (.newarray .long, 2) := by decide +kernel
theorem dX9_init_112 : decode cX9_init 112 = .ok (.putfield 48, 3) := by decide +kernel
theorem dX9_init_115 : decode cX9_init 115 = .ok (.aload_n 0, 1) := by decide +kernel
theorem dX9_init_116 : decode cX9_init 116 = .ok (.sipush 1400, 3) := by decide +kernel
theorem dX9_init_119 : decode cX9_init 119 = .ok (.newarray .long, 2) := by decide +kernel
theorem dX9_init_121 : decode cX9_init 121 = .ok (.putfield 51, 3) := by decide +kernel
theorem dX9_init_124 : decode cX9_init 124 = .ok (.aload_n 0, 1) := by decide +kernel
theorem dX9_init_125 : decode cX9_init 125 = .ok (.sipush 1400, 3) := by decide +kernel
theorem dX9_init_128 : decode cX9_init 128 = .ok (.newarray .long, 2) := by decide +kernel
theorem dX9_init_130 : decode cX9_init 130 = .ok (.putfield 54, 3) := by decide +kernel
theorem dX9_init_133 : decode cX9_init 133 = .ok (.return_, 1) := by decide +kernel
theorem dX9_in_0 : decode cX9_in 0 = .ok (.lload_n 0, 1) := by decide +kernel
theorem dX9_in_1 : decode cX9_in 1 = .ok (.lload_n 2, 1) := by decide +kernel
theorem dX9_in_2 : decode cX9_in 2 = .ok (.lcmp, 1) := by decide +kernel
theorem dX9_in_3 : decode cX9_in 3 = .ok (.ifCond .lt 14, 3) := by decide +kernel
theorem dX9_in_6 : decode cX9_in 6 = .ok (.lload_n 0, 1) := by decide +kernel
theorem dX9_in_7 : decode cX9_in 7 = .ok (.lload 4, 2) := by decide +kernel
theorem dX9_in_9 : decode cX9_in 9 = .ok (.lcmp, 1) := by decide +kernel
theorem dX9_in_10 : decode cX9_in 10 = .ok (.ifCond .gt 7, 3) := by decide +kernel
theorem dX9_in_13 : decode cX9_in 13 = .ok (.iconst 1, 1) := by decide +kernel
theorem dX9_in_14 : decode cX9_in 14 = .ok (.goto 4, 3) := by decide +kernel
theorem dX9_in_17 : decode cX9_in 17 = .ok (.iconst 0, 1) := by decide +kernel
theorem dX9_in_18 : decode cX9_in 18 = .ok (.ireturn, 1) := by decide +kernel
set_option maxRecDepth 20000 in
theorem ggX9_isPoint_X9_in : GoodIn wsX9_isPoint wsX9_in := goodIn_r _ [5] (by decide +kernel) (by decide +kernel)
set_option maxRecDepth 20000 in
theorem gX9_isPoint_X9_in : GoodIn wsX9_isPoint (va_wsS RX9 61 yX9_in wsX9_in) := goodIn_app (goodIn_of _ (by decide +kernel)) ggX9_isPoint_X9_in
theorem dX9_isPoint_0 : decode cX9_isPoint 0 = .ok (.iload_n 1, 1) := by decide +kernel
theorem dX9_isPoint_1 : decode cX9_isPoint 1 = .ok (.i2l, 1) := by decide +kernel
theorem dX9_isPoint_2 : decode cX9_isPoint 2 = .ok (.lconst 0, 1) := by decide +kernel
theorem dX9_isPoint_3 : decode cX9_isPoint 3 = .ok (.aload_n 0, 1) := by decide +kernel
theorem dX9_isPoint_4 : decode cX9_isPoint 4 = .ok (.getfield 57, 3) := by decide +kernel
theorem dX9_isPoint_7 : decode cX9_isPoint 7 = .ok (.iconst 1, 1) := by decide +kernel
theorem dX9_isPoint_8 : decode cX9_isPoint 8 = .ok (.isub, 1) := by decide +kernel
theorem dX9_isPoint_9 : decode cX9_isPoint 9 = .ok (.i2l, 1) := by decide +kernel
theorem dX9_isPoint_10 : decode cX9_isPoint 10 = .ok (.invokestatic 61, 3) := by decide +kernel
theorem dX9_isPoint_13 : decode cX9_isPoint 13 = .ok (.ireturn, 1) := by decide +kernel
set_option maxRecDepth 20000 in
theorem ggX9_point_X9_in : GoodIn wsX9_point wsX9_in := goodIn_r _ [17] (by decide +kernel) (by decide +kernel)
set_option maxRecDepth 20000 in
theorem gX9_point_X9_in : GoodIn wsX9_point (va_wsS RX9 61 yX9_in wsX9_in) := goodIn_app (goodIn_of _ (by decide +kernel)) ggX9_point_X9_in
theorem dX9_point_0 : decode cX9_point 0 = .ok (.iload_n 1, 1) := by decide +kernel
theorem dX9_point_1 : decode cX9_point 1 = .ok (.i2l, 1) := by decide +kernel
theorem dX9_point_2 : decode cX9_point 2 = .ok (.ldc2_w 65, 3) := by decide +kernel
theorem dX9_point_5 : decode cX9_point 5 = .ok (.ldc2_w 67, 3) := by decide +kernel
theorem dX9_point_8 : decode cX9_point 8 = .ok (.invokestatic 61, 3) := by decide +kernel
theorem dX9_point_11 : decode cX9_point 11 = .ok (.ifCond .eq 17, 3) := by decide +kernel
theorem dX9_point_14 : decode cX9_point 14 = .ok (.iload_n 2, 1) := by decide +kernel
theorem dX9_point_15 : decode cX9_point 15 = .ok (.i2l, 1) := by decide +kernel
theorem dX9_point_16 : decode cX9_point 16 = .ok (.ldc2_w 69, 3) := by decide +kernel
theorem dX9_point_19 : decode cX9_point 19 = .ok (.ldc2_w 71, 3) := by decide +kernel
theorem dX9_point_22 : decode cX9_point 22 = .ok (.invokestatic 61, 3) := by decide +kernel
theorem dX9_point_25 : decode cX9_point 25 = .ok (.ifCond .ne 6, 3) := by decide +kernel
theorem dX9_point_28 : decode cX9_point 28 = .ok (.ldc 73, 2) := by decide +kernel
theorem dX9_point_30 : decode cX9_point 30 = .ok (.ireturn, 1) := by decide +kernel
theorem dX9_point_31 : decode cX9_point 31 = .ok (.aload_n 0, 1) := by decide +kernel
theorem dX9_point_32 : decode cX9_point 32 = .ok (.getfield 57, 3) := by decide +kernel
theorem dX9_point_35 : decode cX9_point 35 = .ok (.bipush 10, 2) := by decide +kernel
theorem dX9_point_37 : decode cX9_point 37 = .ok (.if_icmp .ne 6, 3) := by decide +kernel
theorem dX9_point_40 : decode cX9_point 40 = .ok (.ldc 74, 2) := by decide +kernel
theorem dX9_point_42 : decode cX9_point 42 = .ok (.ireturn, 1) := by decide +kernel
theorem dX9_point_43 : decode cX9_point 43 = .ok (.aload_n 0, 1) := by decide +kernel
theorem dX9_point_44 : decode cX9_point 44 = .ok (.getfield 57, 3) := by decide +kernel
theorem dX9_point_47 : decode cX9_point 47 = .ok (.istore_n 3, 1) := by decide +kernel
theorem dX9_point_48 : decode cX9_point 48 = .ok (.aload_n 0, 1) := by decide +kernel
theorem dX9_point_49 : decode cX9_point 49 = .ok (.getfield 7, 3) := by decide +kernel
theorem dX9_point_52 : decode cX9_point 52 = .ok (.iload_n 3, 1) := by decide +kernel
theorem dX9_point_53 : decode cX9_point 53 = .ok (.iconst (-1), 1) := by decide +kernel
theorem dX9_point_54 : decode cX9_point 54 = .ok (.iastore, 1) := by decide +kernel
theorem dX9_point_55 : decode cX9_point 55 = .ok (.aload_n 0, 1) := by decide +kernel
theorem dX9_point_56 : decode cX9_point 56 = .ok (.getfield 13, 3) := by decide +kernel
theorem dX9_point_59 : decode cX9_point 59 = .ok (.iload_n 3, 1) := by decide +kernel
theorem dX9_point_60 : decode cX9_point 60 = .ok (.iconst 1, 1) := by decide +kernel
theorem dX9_point_61 : decode cX9_point 61 = .ok (.iastore, 1) := by decide +kernel
theorem dX9_point_62 : decode cX9_point 62 = .ok (.aload_n 0, 1) := by decide +kernel
theorem dX9_point_63 : decode cX9_point 63 = .ok (.getfield 16, 3) := by decide +kernel
theorem dX9_point_66 : decode cX9_point 66 = .ok (.bipush 8, 2) := by decide +kernel
theorem dX9_point_68 : decode cX9_point 68 = .ok (.iload_n 3, 1) := by decide +kernel
theorem dX9_point_69 : decode cX9_point 69 = .ok (.imul, 1) := by decide +kernel
theorem dX9_point_70 : decode cX9_point 70 = .ok (.aload_n 0, 1) := by decide +kernel
theorem dX9_point_71 : decode cX9_point 71 = .ok (.getfield 75, 3) := by decide +kernel
theorem dX9_point_74 : decode cX9_point 74 = .ok (.iastore, 1) := by decide +kernel
theorem dX9_point_75 : decode cX9_point 75 = .ok (.aload_n 0, 1) := by decide +kernel
theorem dX9_point_76 : decode cX9_point 76 = .ok (.getfield 19, 3) := by decide +kernel
theorem dX9_point_79 : decode cX9_point 79 = .ok (.bipush 8, 2) := by decide +kernel
theorem dX9_point_81 : decode cX9_point 81 = .ok (.iload_n 3, 1) := by decide +kernel
theorem dX9_point_82 : decode cX9_point 82 = .ok (.imul, 1) := by decide +kernel
theorem dX9_point_83 : decode cX9_point 83 = .ok (.iload_n 1, 1) := by decide +kernel
theorem dX9_point_84 : decode cX9_point 84 = .ok (.iastore, 1) := by decide +kernel
theorem dX9_point_85 : decode cX9_point 85 = .ok (.aload_n 0, 1) := by decide +kernel
theorem dX9_point_86 : decode cX9_point 86 = .ok (.getfield 22, 3) := by decide +kernel
theorem dX9_point_89 : decode cX9_point 89 = .ok (.bipush 8, 2) := by decide +kernel
theorem dX9_point_91 : decode cX9_point 91 = .ok (.iload_n 3, 1) := by decide +kernel
theorem dX9_point_92 : decode cX9_point 92 = .ok (.imul, 1) := by decide +kernel
theorem dX9_point_93 : decode cX9_point 93 = .ok (.iload_n 2, 1) := by decide +kernel
theorem dX9_point_94 : decode cX9_point 94 = .ok (.iastore, 1) := by decide +kernel
theorem dX9_point_95 : decode cX9_point 95 = .ok (.aload_n 0, 1) := by decide +kernel
theorem dX9_point_96 : decode cX9_point 96 = .ok (.dup, 1) := by decide +kernel
theorem dX9_point_97 : decode cX9_point 97 = .ok (.getfield 57, 3) := by decide +kernel
theorem dX9_point_100 : decode cX9_point 100 = .ok (.iconst 1, 1) := by decide +kernel
theorem dX9_point_101 : decode cX9_point 101 = .ok (.iadd, 1) := by decide +kernel
theorem dX9_point_102 : decode cX9_point 102 = .ok (.putfield 57, 3) := by decide +kernel
theorem dX9_point_105 : decode cX9_point 105 = .ok (.iload_n 3, 1) := by decide +kernel
theorem dX9_point_106 : decode cX9_point 106 = .ok (.ireturn, 1) := by decide +kernel
theorem dX9_latest_0 : decode cX9_latest 0 = .ok (.bipush 8, 2) := by decide +kernel
theorem dX9_latest_2 : decode cX9_latest 2 = .ok (.iload_n 1, 1) := by decide +kernel
theorem dX9_latest_3 : decode cX9_latest 3 = .ok (.imul, 1) := by decide +kernel
theorem dX9_latest_4 : decode cX9_latest 4 = .ok (.aload_n 0, 1) := by decide +kernel
theorem dX9_latest_5 : decode cX9_latest 5 = .ok (.getfield 13, 3) := by decide +kernel
theorem dX9_latest_8 : decode cX9_latest 8 = .ok (.iload_n 1, 1) := by decide +kernel
theorem dX9_latest_9 : decode cX9_latest 9 = .ok (.iaload, 1) := by decide +kernel
theorem dX9_latest_10 : decode cX9_latest 10 = .ok (.iadd, 1) := by decide +kernel
theorem dX9_latest_11 : decode cX9_latest 11 = .ok (.iconst 1, 1) := by decide +kernel
theorem dX9_latest_12 : decode cX9_latest 12 = .ok (.isub, 1) := by decide +kernel
theorem dX9_latest_13 : decode cX9_latest 13 = .ok (.ireturn, 1) := by decide +kernel
set_option maxRecDepth 20000 in
theorem ggX9_speed_X9_isPoint : GoodIn wsX9_speed wsX9_isPoint := goodIn_r _ [17, 18, 19, 20, 16, 21, 26, 27, 28, 29, 30, 31, 32, 33, 34, 35, 36, 37, 38, 39, 40, 41, 42, 43, 44, 45, 46, 47, 48, 49, 50, 51] (by decide +kernel) (by decide +kernel)
set_option maxRecDepth 20000 in
theorem gX9_speed_X9_isPoint : GoodIn wsX9_speed (wsV RX9 78 RX9 yX9_isPoint wsX9_isPoint) := goodIn_app (goodIn_of _ (by decide +kernel)) ggX9_speed_X9_isPoint
set_option maxRecDepth 20000 in
theorem ggX9_speed_X9_in : GoodIn wsX9_speed wsX9_in := goodIn_r _ [21] (by decide +kernel) (by decide +kernel)
set_option maxRecDepth 20000 in
theorem gX9_speed_X9_in : GoodIn wsX9_speed (va_wsS RX9 61 yX9_in wsX9_in) := goodIn_app (goodIn_of _ (by decide +kernel)) ggX9_speed_X9_in
set_option maxRecDepth 20000 in
theorem ggX9_speed_X9_latest : GoodIn wsX9_speed wsX9_latest := goodIn_r _ [25, 10, 26, 27, 28, 29, 30, 31, 32, 33, 34, 35, 36, 37, 38, 39, 40, 41, 42, 43, 44, 45, 46, 47, 48, 49, 50, 51] (by decide +kernel) (by decide +kernel)
set_option maxRecDepth 20000 in
theorem gX9_speed_X9_latest : GoodIn wsX9_speed (wsV RX9 84 RX9 yX9_latest wsX9_latest) := goodIn_app (goodIn_of _ (by decide +kernel)) ggX9_speed_X9_latest
theorem dX9_speed_0 : decode cX9_speed 0 = .ok (.aload_n 0, 1) := by decide +kernel
theorem dX9_speed_1 : decode cX9_speed 1 = .ok (.iload_n 1, 1) := by decide +kernel
theorem dX9_speed_2 : decode cX9_speed 2 = .ok (.invokevirtual 78, 3) := by decide +kernel
theorem dX9_speed_5 : decode cX9_speed 5 = .ok (.ifCond .ne 6, 3) := by decide +kernel
theorem dX9_speed_8 : decode cX9_speed 8 = .ok (.ldc 82, 2) := by decide +kernel
theorem dX9_speed_10 : decode cX9_speed 10 = .ok (.ireturn, 1) := by decide +kernel
theorem dX9_speed_11 : decode cX9_speed 11 = .ok (.iload_n 2, 1) := by decide +kernel
theorem dX9_speed_12 : decode cX9_speed 12 = .ok (.i2l, 1) := by decide +kernel
theorem dX9_speed_13 : decode cX9_speed 13 = .ok (.ldc2_w 69, 3) := by decide +kernel
theorem dX9_speed_16 : decode cX9_speed 16 = .ok (.ldc2_w 71, 3) := by decide +kernel
theorem dX9_speed_19 : decode cX9_speed 19 = .ok (.invokestatic 61, 3) := by decide +kernel
theorem dX9_speed_22 : decode cX9_speed 22 = .ok (.ifCond .ne 6, 3) := by decide +kernel
theorem dX9_speed_25 : decode cX9_speed 25 = .ok (.ldc 73, 2) := by decide +kernel
theorem dX9_speed_27 : decode cX9_speed 27 = .ok (.ireturn, 1) := by decide +kernel
theorem dX9_speed_28 : decode cX9_speed 28 = .ok (.aload_n 0, 1) := by decide +kernel
theorem dX9_speed_29 : decode cX9_speed 29 = .ok (.getfield 7, 3) := by decide +kernel
theorem dX9_speed_32 : decode cX9_speed 32 = .ok (.iload_n 1, 1) := by decide +kernel
theorem dX9_speed_33 : decode cX9_speed 33 = .ok (.iaload, 1) := by decide +kernel
theorem dX9_speed_34 : decode cX9_speed 34 = .ok (.ifCond .lt 6, 3) := by decide +kernel
theorem dX9_speed_37 : decode cX9_speed 37 = .ok (.ldc 83, 2) := by decide +kernel
theorem dX9_speed_39 : decode cX9_speed 39 = .ok (.ireturn, 1) := by decide +kernel
theorem dX9_speed_40 : decode cX9_speed 40 = .ok (.aload_n 0, 1) := by decide +kernel
theorem dX9_speed_41 : decode cX9_speed 41 = .ok (.iload_n 1, 1) := by decide +kernel
theorem dX9_speed_42 : decode cX9_speed 42 = .ok (.invokevirtual 84, 3) := by decide +kernel
theorem dX9_speed_45 : decode cX9_speed 45 = .ok (.istore_n 3, 1) := by decide +kernel
theorem dX9_speed_46 : decode cX9_speed 46 = .ok (.aload_n 0, 1) := by decide +kernel
theorem dX9_speed_47 : decode cX9_speed 47 = .ok (.getfield 22, 3) := by decide +kernel
theorem dX9_speed_50 : decode cX9_speed 50 = .ok (.iload_n 3, 1) := by decide +kernel
theorem dX9_speed_51 : decode cX9_speed 51 = .ok (.iaload, 1) := by decide +kernel
theorem dX9_speed_52 : decode cX9_speed 52 = .ok (.istore 4, 2) := by decide +kernel
theorem dX9_speed_54 : decode cX9_speed 54 = .ok (.aload_n 0, 1) := by decide +kernel
theorem dX9_speed_55 : decode cX9_speed 55 = .ok (.getfield 16, 3) := by decide +kernel
theorem dX9_speed_58 : decode cX9_speed 58 = .ok (.iload_n 3, 1) := by decide +kernel
theorem dX9_speed_59 : decode cX9_speed 59 = .ok (.iaload, 1) := by decide +kernel
theorem dX9_speed_60 : decode cX9_speed 60 = .ok (.aload_n 0, 1) := by decide +kernel
theorem dX9_speed_61 : decode cX9_speed 61 = .ok (.getfield 75, 3) := by decide +kernel
theorem dX9_speed_64 : decode cX9_speed 64 = .ok (.if_icmp .ne 13, 3) := by decide +kernel
theorem dX9_speed_67 : decode cX9_speed 67 = .ok (.aload_n 0, 1) := by decide +kernel
theorem dX9_speed_68 : decode cX9_speed 68 = .ok (.getfield 22, 3) := by decide +kernel
theorem dX9_speed_71 : decode cX9_speed 71 = .ok (.iload_n 3, 1) := by decide +kernel
theorem dX9_speed_72 : decode cX9_speed 72 = .ok (.iload_n 2, 1) := by decide +kernel
theorem dX9_speed_73 : decode cX9_speed 73 = .ok (.iastore, 1) := by decide +kernel
theorem dX9_speed_74 : decode cX9_speed 74 = .ok (.iload 4, 2) := by decide +kernel
theorem dX9_speed_76 : decode cX9_speed 76 = .ok (.ireturn, 1) := by decide +kernel
theorem dX9_speed_77 : decode cX9_speed 77 = .ok (.aload_n 0, 1) := by decide +kernel
theorem dX9_speed_78 : decode cX9_speed 78 = .ok (.getfield 13, 3) := by decide +kernel
theorem dX9_speed_81 : decode cX9_speed 81 = .ok (.iload_n 1, 1) := by decide +kernel
theorem dX9_speed_82 : decode cX9_speed 82 = .ok (.iaload, 1) := by decide +kernel
theorem dX9_speed_83 : decode cX9_speed 83 = .ok (.bipush 8, 2) := by decide +kernel
theorem dX9_speed_85 : decode cX9_speed 85 = .ok (.if_icmp .ne 6, 3) := by decide +kernel
theorem dX9_speed_88 : decode cX9_speed 88 = .ok (.ldc 74, 2) := by decide +kernel
theorem dX9_speed_90 : decode cX9_speed 90 = .ok (.ireturn, 1) := by decide +kernel
theorem dX9_speed_91 : decode cX9_speed 91 = .ok (.aload_n 0, 1) := by decide +kernel
theorem dX9_speed_92 : decode cX9_speed 92 = .ok (.getfield 16, 3) := by decide +kernel
theorem dX9_speed_95 : decode cX9_speed 95 = .ok (.iload_n 3, 1) := by decide +kernel
theorem dX9_speed_96 : decode cX9_speed 96 = .ok (.iconst 1, 1) := by decide +kernel
theorem dX9_speed_97 : decode cX9_speed 97 = .ok (.iadd, 1) := by decide +kernel
theorem dX9_speed_98 : decode cX9_speed 98 = .ok (.aload_n 0, 1) := by decide +kernel
theorem dX9_speed_99 : decode cX9_speed 99 = .ok (.getfield 75, 3) := by decide +kernel
theorem dX9_speed_102 : decode cX9_speed 102 = .ok (.iastore, 1) := by decide +kernel
theorem dX9_speed_103 : decode cX9_speed 103 = .ok (.aload_n 0, 1) := by decide +kernel
theorem dX9_speed_104 : decode cX9_speed 104 = .ok (.getfield 19, 3) := by decide +kernel
theorem dX9_speed_107 : decode cX9_speed 107 = .ok (.iload_n 3, 1) := by decide +kernel
theorem dX9_speed_108 : decode cX9_speed 108 = .ok (.iconst 1, 1) := by decide +kernel
theorem dX9_speed_109 : decode cX9_speed 109 = .ok (.iadd, 1) := by decide +kernel
theorem dX9_speed_110 : decode cX9_speed 110 = .ok (.aload_n 0, 1) := by decide +kernel
theorem dX9_speed_111 : decode cX9_speed 111 = .ok (.getfield 19, 3) := by decide +kernel
theorem dX9_speed_114 : decode cX9_speed 114 = .ok (.iload_n 3, 1) := by decide +kernel
theorem dX9_speed_115 : decode cX9_speed 115 = .ok (.iaload, 1) := by decide +kernel
theorem dX9_speed_116 : decode cX9_speed 116 = .ok (.aload_n 0, 1) := by decide +kernel
theorem dX9_speed_117 : decode cX9_speed 117 = .ok (.getfield 22, 3) := by decide +kernel
theorem dX9_speed_120 : decode cX9_speed 120 = .ok (.iload_n 3, 1) := by decide +kernel
theorem dX9_speed_121 : decode cX9_speed 121 = .ok (.iaload, 1) := by decide +kernel
theorem dX9_speed_122 : decode cX9_speed 122 = .ok (.aload_n 0, 1) := by decide +kernel
theorem dX9_speed_123 : decode cX9_speed 123 = .ok (.getfield 75, 3) := by decide +kernel
theorem dX9_speed_126 : decode cX9_speed 126 = .ok (.aload_n 0, 1) := by decide +kernel
theorem dX9_speed_127 : decode cX9_speed 127 = .ok (.getfield 16, 3) := by decide +kernel
theorem dX9_speed_130 : decode cX9_speed 130 = .ok (.iload_n 3, 1) := by decide +kernel
theorem dX9_speed_131 : decode cX9_speed 131 = .ok (.iaload, 1) := by decide +kernel
theorem dX9_speed_132 : decode cX9_speed 132 = .ok (.isub, 1) := by decide +kernel
theorem dX9_speed_133 : decode cX9_speed 133 = .ok (.imul, 1) := by decide +kernel
theorem dX9_speed_134 : decode cX9_speed 134 = .ok (.iadd, 1) := by decide +kernel
theorem dX9_speed_135 : decode cX9_speed 135 = .ok (.iastore, 1) := by decide +kernel
theorem dX9_speed_136 : decode cX9_speed 136 = .ok (.aload_n 0, 1) := by decide +kernel
theorem dX9_speed_137 : decode cX9_speed 137 = .ok (.getfield 22, 3) := by decide +kernel
theorem dX9_speed_140 : decode cX9_speed 140 = .ok (.iload_n 3, 1) := by decide +kernel
theorem dX9_speed_141 : decode cX9_speed 141 = .ok (.iconst 1, 1) := by decide +kernel
theorem dX9_speed_142 : decode cX9_speed 142 = .ok (.iadd, 1) := by decide +kernel
theorem dX9_speed_143 : decode cX9_speed 143 = .ok (.iload_n 2, 1) := by decide +kernel
theorem dX9_speed_144 : decode cX9_speed 144 = .ok (.iastore, 1) := by decide +kernel
theorem dX9_speed_145 : decode cX9_speed 145 = .ok (.aload_n 0, 1) := by decide +kernel
theorem dX9_speed_146 : decode cX9_speed 146 = .ok (.getfield 13, 3) := by decide +kernel
theorem dX9_speed_149 : decode cX9_speed 149 = .ok (.iload_n 1, 1) := by decide +kernel
theorem dX9_speed_150 : decode cX9_speed 150 = .ok (.dup2, 1) := by decide +kernel
theorem dX9_speed_151 : decode cX9_speed 151 = .ok (.iaload, 1) := by decide +kernel
theorem dX9_speed_152 : decode cX9_speed 152 = .ok (.iconst 1, 1) := by decide +kernel
theorem dX9_speed_153 : decode cX9_speed 153 = .ok (.iadd, 1) := by decide +kernel
theorem dX9_speed_154 : decode cX9_speed 154 = .ok (.iastore, 1) := by decide +kernel
theorem dX9_speed_155 : decode cX9_speed 155 = .ok (.iload 4, 2) := by decide +kernel
theorem dX9_speed_157 : decode cX9_speed 157 = .ok (.ireturn, 1) := by decide +kernel
set_option maxRecDepth 20000 in
theorem ggX9_gone_X9_isPoint : GoodIn wsX9_gone wsX9_isPoint := goodIn_r _ [10, 11, 12, 13, 9, 14, 15, 16, 17, 18, 19, 20, 21, 22, 23, 24, 25, 26, 27, 28, 29, 30, 31, 32, 33, 34, 35, 36, 37, 38, 39, 40] (by decide +kernel) (by decide +kernel)
set_option maxRecDepth 20000 in
theorem gX9_gone_X9_isPoint : GoodIn wsX9_gone (wsV RX9 78 RX9 yX9_isPoint wsX9_isPoint) := goodIn_app (goodIn_of _ (by decide +kernel)) ggX9_gone_X9_isPoint
theorem dX9_gone_0 : decode cX9_gone 0 = .ok (.aload_n 0, 1) := by decide +kernel
theorem dX9_gone_1 : decode cX9_gone 1 = .ok (.iload_n 1, 1) := by decide +kernel
theorem dX9_gone_2 : decode cX9_gone 2 = .ok (.invokevirtual 78, 3) := by decide +kernel
theorem dX9_gone_5 : decode cX9_gone 5 = .ok (.ifCond .ne 6, 3) := by decide +kernel
theorem dX9_gone_8 : decode cX9_gone 8 = .ok (.ldc 82, 2) := by decide +kernel
theorem dX9_gone_10 : decode cX9_gone 10 = .ok (.ireturn, 1) := by decide +kernel
theorem dX9_gone_11 : decode cX9_gone 11 = .ok (.aload_n 0, 1) := by decide +kernel
theorem dX9_gone_12 : decode cX9_gone 12 = .ok (.getfield 7, 3) := by decide +kernel
theorem dX9_gone_15 : decode cX9_gone 15 = .ok (.iload_n 1, 1) := by decide +kernel
theorem dX9_gone_16 : decode cX9_gone 16 = .ok (.iaload, 1) := by decide +kernel
theorem dX9_gone_17 : decode cX9_gone 17 = .ok (.ifCond .ge 19, 3) := by decide +kernel
theorem dX9_gone_20 : decode cX9_gone 20 = .ok (.aload_n 0, 1) := by decide +kernel
theorem dX9_gone_21 : decode cX9_gone 21 = .ok (.getfield 16, 3) := by decide +kernel
theorem dX9_gone_24 : decode cX9_gone 24 = .ok (.bipush 8, 2) := by decide +kernel
theorem dX9_gone_26 : decode cX9_gone 26 = .ok (.iload_n 1, 1) := by decide +kernel
theorem dX9_gone_27 : decode cX9_gone 27 = .ok (.imul, 1) := by decide +kernel
theorem dX9_gone_28 : decode cX9_gone 28 = .ok (.iaload, 1) := by decide +kernel
theorem dX9_gone_29 : decode cX9_gone 29 = .ok (.aload_n 0, 1) := by decide +kernel
theorem dX9_gone_30 : decode cX9_gone 30 = .ok (.getfield 75, 3) := by decide +kernel
theorem dX9_gone_33 : decode cX9_gone 33 = .ok (.if_icmp .ne 6, 3) := by decide +kernel
theorem dX9_gone_36 : decode cX9_gone 36 = .ok (.ldc 83, 2) := by decide +kernel
theorem dX9_gone_38 : decode cX9_gone 38 = .ok (.ireturn, 1) := by decide +kernel
theorem dX9_gone_39 : decode cX9_gone 39 = .ok (.aload_n 0, 1) := by decide +kernel
theorem dX9_gone_40 : decode cX9_gone 40 = .ok (.getfield 7, 3) := by decide +kernel
theorem dX9_gone_43 : decode cX9_gone 43 = .ok (.iload_n 1, 1) := by decide +kernel
theorem dX9_gone_44 : decode cX9_gone 44 = .ok (.aload_n 0, 1) := by decide +kernel
theorem dX9_gone_45 : decode cX9_gone 45 = .ok (.getfield 75, 3) := by decide +kernel
theorem dX9_gone_48 : decode cX9_gone 48 = .ok (.iastore, 1) := by decide +kernel
theorem dX9_gone_49 : decode cX9_gone 49 = .ok (.iconst 1, 1) := by decide +kernel
theorem dX9_gone_50 : decode cX9_gone 50 = .ok (.ireturn, 1) := by decide +kernel
set_option maxRecDepth 20000 in
theorem ggX9_go_X9_in : GoodIn wsX9_go wsX9_in := goodIn_r _ [8] (by decide +kernel) (by decide +kernel)
set_option maxRecDepth 20000 in
theorem gX9_go_X9_in : GoodIn wsX9_go (va_wsS RX9 61 yX9_in wsX9_in) := goodIn_app (goodIn_of _ (by decide +kernel)) ggX9_go_X9_in
theorem dX9_go_0 : decode cX9_go 0 = .ok (.iload_n 1, 1) := by decide +kernel
theorem dX9_go_1 : decode cX9_go 1 = .ok (.i2l, 1) := by decide +kernel
theorem dX9_go_2 : decode cX9_go 2 = .ok (.lconst 0, 1) := by decide +kernel
theorem dX9_go_3 : decode cX9_go 3 = .ok (.ldc2_w 88, 3) := by decide +kernel
theorem dX9_go_6 : decode cX9_go 6 = .ok (.invokestatic 61, 3) := by decide +kernel
theorem dX9_go_9 : decode cX9_go 9 = .ok (.ifCond .ne 6, 3) := by decide +kernel
theorem dX9_go_12 : decode cX9_go 12 = .ok (.ldc 73, 2) := by decide +kernel
theorem dX9_go_14 : decode cX9_go 14 = .ok (.ireturn, 1) := by decide +kernel
theorem dX9_go_15 : decode cX9_go 15 = .ok (.aload_n 0, 1) := by decide +kernel
theorem dX9_go_16 : decode cX9_go 16 = .ok (.getfield 75, 3) := by decide +kernel
theorem dX9_go_19 : decode cX9_go 19 = .ok (.iload_n 1, 1) := by decide +kernel
theorem dX9_go_20 : decode cX9_go 20 = .ok (.iadd, 1) := by decide +kernel
theorem dX9_go_21 : decode cX9_go 21 = .ok (.sipush 400, 3) := by decide +kernel
theorem dX9_go_24 : decode cX9_go 24 = .ok (.if_icmp .le 6, 3) := by decide +kernel
theorem dX9_go_27 : decode cX9_go 27 = .ok (.ldc 83, 2) := by decide +kernel
theorem dX9_go_29 : decode cX9_go 29 = .ok (.ireturn, 1) := by decide +kernel
theorem dX9_go_30 : decode cX9_go 30 = .ok (.aload_n 0, 1) := by decide +kernel
theorem dX9_go_31 : decode cX9_go 31 = .ok (.dup, 1) := by decide +kernel
theorem dX9_go_32 : decode cX9_go 32 = .ok (.getfield 75, 3) := by decide +kernel
theorem dX9_go_35 : decode cX9_go 35 = .ok (.iload_n 1, 1) := by decide +kernel
theorem dX9_go_36 : decode cX9_go 36 = .ok (.iadd, 1) := by decide +kernel
theorem dX9_go_37 : decode cX9_go 37 = .ok (.putfield 75, 3) := by decide +kernel
theorem dX9_go_40 : decode cX9_go 40 = .ok (.aload_n 0, 1) := by decide +kernel
theorem dX9_go_41 : decode cX9_go 41 = .ok (.getfield 75, 3) := by decide +kernel
theorem dX9_go_44 : decode cX9_go 44 = .ok (.ireturn, 1) := by decide +kernel
set_option maxRecDepth 20000 in
theorem ggX9_back_X9_in : GoodIn wsX9_back wsX9_in := goodIn_r _ [12] (by decide +kernel) (by decide +kernel)
set_option maxRecDepth 20000 in
theorem gX9_back_X9_in : GoodIn wsX9_back (va_wsS RX9 61 yX9_in wsX9_in) := goodIn_app (goodIn_of _ (by decide +kernel)) ggX9_back_X9_in
set_option maxRecDepth 20000 in
theorem ggX9_back_X9_latest : GoodIn wsX9_back wsX9_latest := goodIn_r _ [16, 7, 17, 18, 19, 20, 21, 22, 23, 24, 25, 26, 27, 28, 29, 30, 31, 32, 33, 34, 35, 36, 37, 38, 39, 40, 41, 42] (by decide +kernel) (by decide +kernel)
set_option maxRecDepth 20000 in
theorem gX9_back_X9_latest : GoodIn wsX9_back (wsV RX9 84 RX9 yX9_latest wsX9_latest) := goodIn_app (goodIn_of _ (by decide +kernel)) ggX9_back_X9_latest
theorem dX9_back_0 : decode cX9_back 0 = .ok (.iload_n 1, 1) := by decide +kernel
theorem dX9_back_1 : decode cX9_back 1 = .ok (.i2l, 1) := by decide +kernel
theorem dX9_back_2 : decode cX9_back 2 = .ok (.lconst 0, 1) := by decide +kernel
theorem dX9_back_3 : decode cX9_back 3 = .ok (.ldc2_w 88, 3) := by decide +kernel
theorem dX9_back_6 : decode cX9_back 6 = .ok (.invokestatic 61, 3) := by decide +kernel
theorem dX9_back_9 : decode cX9_back 9 = .ok (.ifCond .ne 6, 3) := by decide +kernel
theorem dX9_back_12 : decode cX9_back 12 = .ok (.ldc 73, 2) := by decide +kernel
theorem dX9_back_14 : decode cX9_back 14 = .ok (.ireturn, 1) := by decide +kernel
theorem dX9_back_15 : decode cX9_back 15 = .ok (.iload_n 1, 1) := by decide +kernel
theorem dX9_back_16 : decode cX9_back 16 = .ok (.aload_n 0, 1) := by decide +kernel
theorem dX9_back_17 : decode cX9_back 17 = .ok (.getfield 75, 3) := by decide +kernel
theorem dX9_back_20 : decode cX9_back 20 = .ok (.if_icmp .le 6, 3) := by decide +kernel
theorem dX9_back_23 : decode cX9_back 23 = .ok (.ldc 83, 2) := by decide +kernel
theorem dX9_back_25 : decode cX9_back 25 = .ok (.ireturn, 1) := by decide +kernel
theorem dX9_back_26 : decode cX9_back 26 = .ok (.aload_n 0, 1) := by decide +kernel
theorem dX9_back_27 : decode cX9_back 27 = .ok (.dup, 1) := by decide +kernel
theorem dX9_back_28 : decode cX9_back 28 = .ok (.getfield 75, 3) := by decide +kernel
theorem dX9_back_31 : decode cX9_back 31 = .ok (.iload_n 1, 1) := by decide +kernel
theorem dX9_back_32 : decode cX9_back 32 = .ok (.isub, 1) := by decide +kernel
theorem dX9_back_33 : decode cX9_back 33 = .ok (.putfield 75, 3) := by decide +kernel
theorem dX9_back_36 : decode cX9_back 36 = .ok (.aload_n 0, 1) := by decide +kernel
theorem dX9_back_37 : decode cX9_back 37 = .ok (.getfield 57, 3) := by decide +kernel
theorem dX9_back_40 : decode cX9_back 40 = .ok (.ifCond .le 38, 3) := by decide +kernel
theorem dX9_back_43 : decode cX9_back 43 = .ok (.aload_n 0, 1) := by decide +kernel
theorem dX9_back_44 : decode cX9_back 44 = .ok (.getfield 16, 3) := by decide +kernel
theorem dX9_back_47 : decode cX9_back 47 = .ok (.bipush 8, 2) := by decide +kernel
theorem dX9_back_49 : decode cX9_back 49 = .ok (.aload_n 0, 1) := by decide +kernel
theorem dX9_back_50 : decode cX9_back 50 = .ok (.getfield 57, 3) := by decide +kernel
theorem dX9_back_53 : decode cX9_back 53 = .ok (.imul, 1) := by decide +kernel
theorem dX9_back_54 : decode cX9_back 54 = .ok (.bipush 8, 2) := by decide +kernel
theorem dX9_back_56 : decode cX9_back 56 = .ok (.isub, 1) := by decide +kernel
theorem dX9_back_57 : decode cX9_back 57 = .ok (.iaload, 1) := by decide +kernel
theorem dX9_back_58 : decode cX9_back 58 = .ok (.aload_n 0, 1) := by decide +kernel
theorem dX9_back_59 : decode cX9_back 59 = .ok (.getfield 75, 3) := by decide +kernel
theorem dX9_back_62 : decode cX9_back 62 = .ok (.if_icmp .lt 16, 3) := by decide +kernel
theorem dX9_back_65 : decode cX9_back 65 = .ok (.aload_n 0, 1) := by decide +kernel
theorem dX9_back_66 : decode cX9_back 66 = .ok (.dup, 1) := by decide +kernel
theorem dX9_back_67 : decode cX9_back 67 = .ok (.getfield 57, 3) := by decide +kernel
theorem dX9_back_70 : decode cX9_back 70 = .ok (.iconst 1, 1) := by decide +kernel
theorem dX9_back_71 : decode cX9_back 71 = .ok (.isub, 1) := by decide +kernel
theorem dX9_back_72 : decode cX9_back 72 = .ok (.putfield 57, 3) := by decide +kernel
theorem dX9_back_75 : decode cX9_back 75 = .ok (.goto (-39), 3) := by decide +kernel
theorem dX9_back_78 : decode cX9_back 78 = .ok (.iconst 0, 1) := by decide +kernel
theorem dX9_back_79 : decode cX9_back 79 = .ok (.istore_n 2, 1) := by decide +kernel
theorem dX9_back_80 : decode cX9_back 80 = .ok (.iload_n 2, 1) := by decide +kernel
theorem dX9_back_81 : decode cX9_back 81 = .ok (.aload_n 0, 1) := by decide +kernel
theorem dX9_back_82 : decode cX9_back 82 = .ok (.getfield 57, 3) := by decide +kernel
theorem dX9_back_85 : decode cX9_back 85 = .ok (.if_icmp .ge 68, 3) := by decide +kernel
theorem dX9_back_88 : decode cX9_back 88 = .ok (.aload_n 0, 1) := by decide +kernel
theorem dX9_back_89 : decode cX9_back 89 = .ok (.getfield 16, 3) := by decide +kernel
theorem dX9_back_92 : decode cX9_back 92 = .ok (.aload_n 0, 1) := by decide +kernel
theorem dX9_back_93 : decode cX9_back 93 = .ok (.iload_n 2, 1) := by decide +kernel
theorem dX9_back_94 : decode cX9_back 94 = .ok (.invokevirtual 84, 3) := by decide +kernel
theorem dX9_back_97 : decode cX9_back 97 = .ok (.iaload, 1) := by decide +kernel
theorem dX9_back_98 : decode cX9_back 98 = .ok (.aload_n 0, 1) := by decide +kernel
theorem dX9_back_99 : decode cX9_back 99 = .ok (.getfield 75, 3) := by decide +kernel
theorem dX9_back_102 : decode cX9_back 102 = .ok (.if_icmp .lt 16, 3) := by decide +kernel
theorem dX9_back_105 : decode cX9_back 105 = .ok (.aload_n 0, 1) := by decide +kernel
theorem dX9_back_106 : decode cX9_back 106 = .ok (.getfield 13, 3) := by decide +kernel
theorem dX9_back_109 : decode cX9_back 109 = .ok (.iload_n 2, 1) := by decide +kernel
theorem dX9_back_110 : decode cX9_back 110 = .ok (.dup2, 1) := by decide +kernel
theorem dX9_back_111 : decode cX9_back 111 = .ok (.iaload, 1) := by decide +kernel
theorem dX9_back_112 : decode cX9_back 112 = .ok (.iconst 1, 1) := by decide +kernel
theorem dX9_back_113 : decode cX9_back 113 = .ok (.isub, 1) := by decide +kernel
theorem dX9_back_114 : decode cX9_back 114 = .ok (.iastore, 1) := by decide +kernel
theorem dX9_back_115 : decode cX9_back 115 = .ok (.goto (-27), 3) := by decide +kernel
theorem dX9_back_118 : decode cX9_back 118 = .ok (.aload_n 0, 1) := by decide +kernel
theorem dX9_back_119 : decode cX9_back 119 = .ok (.getfield 7, 3) := by decide +kernel
theorem dX9_back_122 : decode cX9_back 122 = .ok (.iload_n 2, 1) := by decide +kernel
theorem dX9_back_123 : decode cX9_back 123 = .ok (.aload_n 0, 1) := by decide +kernel
theorem dX9_back_124 : decode cX9_back 124 = .ok (.getfield 7, 3) := by decide +kernel
theorem dX9_back_127 : decode cX9_back 127 = .ok (.iload_n 2, 1) := by decide +kernel
theorem dX9_back_128 : decode cX9_back 128 = .ok (.iaload, 1) := by decide +kernel
theorem dX9_back_129 : decode cX9_back 129 = .ok (.aload_n 0, 1) := by decide +kernel
theorem dX9_back_130 : decode cX9_back 130 = .ok (.getfield 75, 3) := by decide +kernel
theorem dX9_back_133 : decode cX9_back 133 = .ok (.if_icmp .lt 7, 3) := by decide +kernel
theorem dX9_back_136 : decode cX9_back 136 = .ok (.iconst (-1), 1) := by decide +kernel
theorem dX9_back_137 : decode cX9_back 137 = .ok (.goto 9, 3) := by decide +kernel
theorem dX9_back_140 : decode cX9_back 140 = .ok (.aload_n 0, 1) := by decide +kernel
theorem dX9_back_141 : decode cX9_back 141 = .ok (.getfield 7, 3) := by decide +kernel
theorem dX9_back_144 : decode cX9_back 144 = .ok (.iload_n 2, 1) := by decide +kernel
theorem dX9_back_145 : decode cX9_back 145 = .ok (.iaload, 1) := by decide +kernel
theorem dX9_back_146 : decode cX9_back 146 = .ok (.iastore, 1) := by decide +kernel
theorem dX9_back_147 : decode cX9_back 147 = .ok (.iinc 2 1, 3) := by decide +kernel
theorem dX9_back_150 : decode cX9_back 150 = .ok (.goto (-70), 3) := by decide +kernel
theorem dX9_back_153 : decode cX9_back 153 = .ok (.aload_n 0, 1) := by decide +kernel
theorem dX9_back_154 : decode cX9_back 154 = .ok (.getfield 75, 3) := by decide +kernel
theorem dX9_back_157 : decode cX9_back 157 = .ok (.ireturn, 1) := by decide +kernel
theorem dX9_isThere_0 : decode cX9_isThere 0 = .ok (.aload_n 0, 1) := by decide +kernel
theorem dX9_isThere_1 : decode cX9_isThere 1 = .ok (.getfield 16, 3) := by decide +kernel
theorem dX9_isThere_4 : decode cX9_isThere 4 = .ok (.bipush 8, 2) := by decide +kernel
theorem dX9_isThere_6 : decode cX9_isThere 6 = .ok (.iload_n 1, 1) := by decide +kernel
theorem dX9_isThere_7 : decode cX9_isThere 7 = .ok (.imul, 1) := by decide +kernel
theorem dX9_isThere_8 : decode cX9_isThere 8 = .ok (.iaload, 1) := by decide +kernel
theorem dX9_isThere_9 : decode cX9_isThere 9 = .ok (.i2l, 1) := by decide +kernel
theorem dX9_isThere_10 : decode cX9_isThere 10 = .ok (.lload 4, 2) := by decide +kernel
theorem dX9_isThere_12 : decode cX9_isThere 12 = .ok (.lmul, 1) := by decide +kernel
theorem dX9_isThere_13 : decode cX9_isThere 13 = .ok (.lload_n 2, 1) := by decide +kernel
theorem dX9_isThere_14 : decode cX9_isThere 14 = .ok (.lcmp, 1) := by decide +kernel
theorem dX9_isThere_15 : decode cX9_isThere 15 = .ok (.ifCond .gt 31, 3) := by decide +kernel
theorem dX9_isThere_18 : decode cX9_isThere 18 = .ok (.aload_n 0, 1) := by decide +kernel
theorem dX9_isThere_19 : decode cX9_isThere 19 = .ok (.getfield 7, 3) := by decide +kernel
theorem dX9_isThere_22 : decode cX9_isThere 22 = .ok (.iload_n 1, 1) := by decide +kernel
theorem dX9_isThere_23 : decode cX9_isThere 23 = .ok (.iaload, 1) := by decide +kernel
theorem dX9_isThere_24 : decode cX9_isThere 24 = .ok (.ifCond .lt 18, 3) := by decide +kernel
theorem dX9_isThere_27 : decode cX9_isThere 27 = .ok (.lload_n 2, 1) := by decide +kernel
theorem dX9_isThere_28 : decode cX9_isThere 28 = .ok (.aload_n 0, 1) := by decide +kernel
theorem dX9_isThere_29 : decode cX9_isThere 29 = .ok (.getfield 7, 3) := by decide +kernel
theorem dX9_isThere_32 : decode cX9_isThere 32 = .ok (.iload_n 1, 1) := by decide +kernel
theorem dX9_isThere_33 : decode cX9_isThere 33 = .ok (.iaload, 1) := by decide +kernel
theorem dX9_isThere_34 : decode cX9_isThere 34 = .ok (.i2l, 1) := by decide +kernel
theorem dX9_isThere_35 : decode cX9_isThere 35 = .ok (.lload 4, 2) := by decide +kernel
theorem dX9_isThere_37 : decode cX9_isThere 37 = .ok (.lmul, 1) := by decide +kernel
theorem dX9_isThere_38 : decode cX9_isThere 38 = .ok (.lcmp, 1) := by decide +kernel
theorem dX9_isThere_39 : decode cX9_isThere 39 = .ok (.ifCond .ge 7, 3) := by decide +kernel
theorem dX9_isThere_42 : decode cX9_isThere 42 = .ok (.iconst 1, 1) := by decide +kernel
theorem dX9_isThere_43 : decode cX9_isThere 43 = .ok (.goto 4, 3) := by decide +kernel
theorem dX9_isThere_46 : decode cX9_isThere 46 = .ok (.iconst 0, 1) := by decide +kernel
theorem dX9_isThere_47 : decode cX9_isThere 47 = .ok (.ireturn, 1) := by decide +kernel
set_option maxRecDepth 20000 in
theorem ggX9_thereNow_X9_isThere : GoodIn wsX9_thereNow wsX9_isThere := goodIn_r _ [7, 8, 9, 10, 11, 12, 13, 14, 15, 16, 17, 18, 19, 20, 21, 22, 23, 24, 25, 26, 27, 28, 29, 30, 31, 32, 33, 34, 35] (by decide +kernel) (by decide +kernel)
set_option maxRecDepth 20000 in
theorem gX9_thereNow_X9_isThere : GoodIn wsX9_thereNow (wsV RX9 90 RX9 yX9_isThere wsX9_isThere) := goodIn_app (goodIn_of _ (by decide +kernel)) ggX9_thereNow_X9_isThere
theorem dX9_thereNow_0 : decode cX9_thereNow 0 = .ok (.iconst 0, 1) := by decide +kernel
theorem dX9_thereNow_1 : decode cX9_thereNow 1 = .ok (.istore_n 1, 1) := by decide +kernel
theorem dX9_thereNow_2 : decode cX9_thereNow 2 = .ok (.iconst 0, 1) := by decide +kernel
theorem dX9_thereNow_3 : decode cX9_thereNow 3 = .ok (.istore_n 2, 1) := by decide +kernel
theorem dX9_thereNow_4 : decode cX9_thereNow 4 = .ok (.iload_n 2, 1) := by decide +kernel
theorem dX9_thereNow_5 : decode cX9_thereNow 5 = .ok (.aload_n 0, 1) := by decide +kernel
theorem dX9_thereNow_6 : decode cX9_thereNow 6 = .ok (.getfield 57, 3) := by decide +kernel
theorem dX9_thereNow_9 : decode cX9_thereNow 9 = .ok (.if_icmp .ge 31, 3) := by decide +kernel
theorem dX9_thereNow_12 : decode cX9_thereNow 12 = .ok (.iload_n 1, 1) := by decide +kernel
theorem dX9_thereNow_13 : decode cX9_thereNow 13 = .ok (.aload_n 0, 1) := by decide +kernel
theorem dX9_thereNow_14 : decode cX9_thereNow 14 = .ok (.iload_n 2, 1) := by decide +kernel
theorem dX9_thereNow_15 : decode cX9_thereNow 15 = .ok (.aload_n 0, 1) := by decide +kernel
theorem dX9_thereNow_16 : decode cX9_thereNow 16 = .ok (.getfield 75, 3) := by decide +kernel
theorem dX9_thereNow_19 : decode cX9_thereNow 19 = .ok (.i2l, 1) := by decide +kernel
theorem dX9_thereNow_20 : decode cX9_thereNow 20 = .ok (.lconst 1, 1) := by decide +kernel
theorem dX9_thereNow_21 : decode cX9_thereNow 21 = .ok (.invokevirtual 90, 3) := by decide +kernel
theorem dX9_thereNow_24 : decode cX9_thereNow 24 = .ok (.ifCond .eq 7, 3) := by decide +kernel
theorem dX9_thereNow_27 : decode cX9_thereNow 27 = .ok (.iconst 1, 1) := by decide +kernel
theorem dX9_thereNow_28 : decode cX9_thereNow 28 = .ok (.goto 4, 3) := by decide +kernel
theorem dX9_thereNow_31 : decode cX9_thereNow 31 = .ok (.iconst 0, 1) := by decide +kernel
theorem dX9_thereNow_32 : decode cX9_thereNow 32 = .ok (.iadd, 1) := by decide +kernel
theorem dX9_thereNow_33 : decode cX9_thereNow 33 = .ok (.istore_n 1, 1) := by decide +kernel
theorem dX9_thereNow_34 : decode cX9_thereNow 34 = .ok (.iinc 2 1, 3) := by decide +kernel
theorem dX9_thereNow_37 : decode cX9_thereNow 37 = .ok (.goto (-33), 3) := by decide +kernel
theorem dX9_thereNow_40 : decode cX9_thereNow 40 = .ok (.iload_n 1, 1) := by decide +kernel
theorem dX9_thereNow_41 : decode cX9_thereNow 41 = .ok (.ireturn, 1) := by decide +kernel
set_option maxRecDepth 20000 in
theorem ggX9_count_X9_findMeetings : GoodIn wsX9_count wsX9_findMeetings := goodIn_r _ [12, 1, 6, 13, 14, 15, 11, 16, 17, 18, 19, 20, 21, 22, 23, 24, 25, 26, 27, 28, 29, 30, 31, 32, 33, 34, 35, 36, 37, 38, 39, 40, 41, 42, 43, 44, 45, 46, 47, 48, 49, 50, 51, 52, 53, 54, 55, 4, 2, 56, 57, 5, 62, 63, 64, 65, 66, 67, 68, 69, 70, 71, 72, 73, 74, 75, 76, 77, 78, 79, 80, 81, 82, 83, 84, 85, 86, 87] (by decide +kernel) (by decide +kernel)
set_option maxRecDepth 20000 in
theorem gX9_count_X9_findMeetings : GoodIn wsX9_count (wsV RX9 94 RX9 yX9_findMeetings wsX9_findMeetings) := goodIn_app (goodIn_of _ (by decide +kernel)) ggX9_count_X9_findMeetings
set_option maxRecDepth 20000 in
theorem ggX9_count_X9_thereNow : GoodIn wsX9_count wsX9_thereNow := goodIn_r _ [61, 6, 3, 41, 42, 43, 11, 44, 22, 33, 62, 63, 64, 65, 66, 67, 68, 69, 70, 71, 72, 73, 74, 75, 76, 77, 78, 79, 80, 81, 82, 83, 84, 85, 86, 87] (by decide +kernel) (by decide +kernel)
set_option maxRecDepth 20000 in
theorem gX9_count_X9_thereNow : GoodIn wsX9_count (wsV RX9 100 RX9 yX9_thereNow wsX9_thereNow) := goodIn_app (goodIn_of _ (by decide +kernel)) ggX9_count_X9_thereNow
theorem dX9_count_0 : decode cX9_count 0 = .ok (.aload_n 0, 1) := by decide +kernel
theorem dX9_count_1 : decode cX9_count 1 = .ok (.invokevirtual 94, 3) := by decide +kernel
theorem dX9_count_4 : decode cX9_count 4 = .ok (.iconst 0, 1) := by decide +kernel
theorem dX9_count_5 : decode cX9_count 5 = .ok (.istore_n 2, 1) := by decide +kernel
theorem dX9_count_6 : decode cX9_count 6 = .ok (.iconst 0, 1) := by decide +kernel
theorem dX9_count_7 : decode cX9_count 7 = .ok (.istore_n 3, 1) := by decide +kernel
theorem dX9_count_8 : decode cX9_count 8 = .ok (.iconst 0, 1) := by decide +kernel
theorem dX9_count_9 : decode cX9_count 9 = .ok (.istore 4, 2) := by decide +kernel
theorem dX9_count_11 : decode cX9_count 11 = .ok (.iload 4, 2) := by decide +kernel
theorem dX9_count_13 : decode cX9_count 13 = .ok (.aload_n 0, 1) := by decide +kernel
theorem dX9_count_14 : decode cX9_count 14 = .ok (.getfield 97, 3) := by decide +kernel
theorem dX9_count_17 : decode cX9_count 17 = .ok (.if_icmp .ge 76, 3) := by decide +kernel
theorem dX9_count_20 : decode cX9_count 20 = .ok (.aload_n 0, 1) := by decide +kernel
theorem dX9_count_21 : decode cX9_count 21 = .ok (.getfield 28, 3) := by decide +kernel
theorem dX9_count_24 : decode cX9_count 24 = .ok (.iload 4, 2) := by decide +kernel
theorem dX9_count_26 : decode cX9_count 26 = .ok (.laload, 1) := by decide +kernel
theorem dX9_count_27 : decode cX9_count 27 = .ok (.aload_n 0, 1) := by decide +kernel
theorem dX9_count_28 : decode cX9_count 28 = .ok (.getfield 75, 3) := by decide +kernel
theorem dX9_count_31 : decode cX9_count 31 = .ok (.i2l, 1) := by decide +kernel
theorem dX9_count_32 : decode cX9_count 32 = .ok (.aload_n 0, 1) := by decide +kernel
theorem dX9_count_33 : decode cX9_count 33 = .ok (.getfield 32, 3) := by decide +kernel
theorem dX9_count_36 : decode cX9_count 36 = .ok (.iload 4, 2) := by decide +kernel
theorem dX9_count_38 : decode cX9_count 38 = .ok (.laload, 1) := by decide +kernel
theorem dX9_count_39 : decode cX9_count 39 = .ok (.lmul, 1) := by decide +kernel
theorem dX9_count_40 : decode cX9_count 40 = .ok (.lcmp, 1) := by decide +kernel
theorem dX9_count_41 : decode cX9_count 41 = .ok (.ifCond .gt 7, 3) := by decide +kernel
theorem dX9_count_44 : decode cX9_count 44 = .ok (.iconst 1, 1) := by decide +kernel
theorem dX9_count_45 : decode cX9_count 45 = .ok (.goto 4, 3) := by decide +kernel
theorem dX9_count_48 : decode cX9_count 48 = .ok (.iconst 0, 1) := by decide +kernel
theorem dX9_count_49 : decode cX9_count 49 = .ok (.istore 5, 2) := by decide +kernel
theorem dX9_count_51 : decode cX9_count 51 = .ok (.iload_n 2, 1) := by decide +kernel
theorem dX9_count_52 : decode cX9_count 52 = .ok (.iload 5, 2) := by decide +kernel
theorem dX9_count_54 : decode cX9_count 54 = .ok (.ifCond .eq 7, 3) := by decide +kernel
theorem dX9_count_57 : decode cX9_count 57 = .ok (.iconst 1, 1) := by decide +kernel
theorem dX9_count_58 : decode cX9_count 58 = .ok (.goto 4, 3) := by decide +kernel
theorem dX9_count_61 : decode cX9_count 61 = .ok (.iconst 0, 1) := by decide +kernel
theorem dX9_count_62 : decode cX9_count 62 = .ok (.iadd, 1) := by decide +kernel
theorem dX9_count_63 : decode cX9_count 63 = .ok (.istore_n 2, 1) := by decide +kernel
theorem dX9_count_64 : decode cX9_count 64 = .ok (.iload_n 3, 1) := by decide +kernel
theorem dX9_count_65 : decode cX9_count 65 = .ok (.iload 5, 2) := by decide +kernel
theorem dX9_count_67 : decode cX9_count 67 = .ok (.ifCond .eq 17, 3) := by decide +kernel
theorem dX9_count_70 : decode cX9_count 70 = .ok (.aload_n 0, 1) := by decide +kernel
theorem dX9_count_71 : decode cX9_count 71 = .ok (.getfield 41, 3) := by decide +kernel
theorem dX9_count_74 : decode cX9_count 74 = .ok (.iload 4, 2) := by decide +kernel
theorem dX9_count_76 : decode cX9_count 76 = .ok (.baload, 1) := by decide +kernel
theorem dX9_count_77 : decode cX9_count 77 = .ok (.ifCond .eq 7, 3) := by decide +kernel
theorem dX9_count_80 : decode cX9_count 80 = .ok (.iconst 1, 1) := by decide +kernel
theorem dX9_count_81 : decode cX9_count 81 = .ok (.goto 4, 3) := by decide +kernel
theorem dX9_count_84 : decode cX9_count 84 = .ok (.iconst 0, 1) := by decide +kernel
theorem dX9_count_85 : decode cX9_count 85 = .ok (.iadd, 1) := by decide +kernel
theorem dX9_count_86 : decode cX9_count 86 = .ok (.istore_n 3, 1) := by decide +kernel
theorem dX9_count_87 : decode cX9_count 87 = .ok (.iinc 4 1, 3) := by decide +kernel
theorem dX9_count_90 : decode cX9_count 90 = .ok (.goto (-79), 3) := by decide +kernel
theorem dX9_count_93 : decode cX9_count 93 = .ok (.aload_n 0, 1) := by decide +kernel
theorem dX9_count_94 : decode cX9_count 94 = .ok (.invokevirtual 100, 3) := by decide +kernel
theorem dX9_count_97 : decode cX9_count 97 = .ok (.istore 4, 2) := by decide +kernel
theorem dX9_count_99 : decode cX9_count 99 = .ok (.iload_n 1, 1) := by decide +kernel
theorem dX9_count_100 : decode cX9_count 100 = .ok (.tableswitch 71 0 5 #[40, 45, 50, 53, 55, 57], 40) := by decide +kernel
theorem dX9_count_140 : decode cX9_count 140 = .ok (.aload_n 0, 1) := by decide +kernel
theorem dX9_count_141 : decode cX9_count 141 = .ok (.getfield 75, 3) := by decide +kernel
theorem dX9_count_144 : decode cX9_count 144 = .ok (.ireturn, 1) := by decide +kernel
theorem dX9_count_145 : decode cX9_count 145 = .ok (.aload_n 0, 1) := by decide +kernel
theorem dX9_count_146 : decode cX9_count 146 = .ok (.getfield 57, 3) := by decide +kernel
theorem dX9_count_149 : decode cX9_count 149 = .ok (.ireturn, 1) := by decide +kernel
theorem dX9_count_150 : decode cX9_count 150 = .ok (.iload 4, 2) := by decide +kernel
theorem dX9_count_152 : decode cX9_count 152 = .ok (.ireturn, 1) := by decide +kernel
theorem dX9_count_153 : decode cX9_count 153 = .ok (.iload_n 2, 1) := by decide +kernel
theorem dX9_count_154 : decode cX9_count 154 = .ok (.ireturn, 1) := by decide +kernel
theorem dX9_count_155 : decode cX9_count 155 = .ok (.iload_n 3, 1) := by decide +kernel
theorem dX9_count_156 : decode cX9_count 156 = .ok (.ireturn, 1) := by decide +kernel
theorem dX9_count_157 : decode cX9_count 157 = .ok (.iload 4, 2) := by decide +kernel
theorem dX9_count_159 : decode cX9_count 159 = .ok (.ifCond .le 10, 3) := by decide +kernel
theorem dX9_count_162 : decode cX9_count 162 = .ok (.iload 4, 2) := by decide +kernel
theorem dX9_count_164 : decode cX9_count 164 = .ok (.iconst 1, 1) := by decide +kernel
theorem dX9_count_165 : decode cX9_count 165 = .ok (.isub, 1) := by decide +kernel
theorem dX9_count_166 : decode cX9_count 166 = .ok (.goto 4, 3) := by decide +kernel
theorem dX9_count_169 : decode cX9_count 169 = .ok (.iconst 0, 1) := by decide +kernel
theorem dX9_count_170 : decode cX9_count 170 = .ok (.ireturn, 1) := by decide +kernel
theorem dX9_count_171 : decode cX9_count 171 = .ok (.ldc 73, 2) := by decide +kernel
theorem dX9_count_173 : decode cX9_count 173 = .ok (.ireturn, 1) := by decide +kernel
set_option maxRecDepth 20000 in
theorem ggX9_told_X9_isPoint : GoodIn wsX9_told wsX9_isPoint := goodIn_r _ [11, 12, 13, 14, 10, 15, 20, 21, 22, 23, 24, 25, 26, 27, 28, 29, 30, 31, 32, 33, 34, 35, 36, 37, 38, 39, 40, 41, 42, 43, 44, 45] (by decide +kernel) (by decide +kernel)
set_option maxRecDepth 20000 in
theorem gX9_told_X9_isPoint : GoodIn wsX9_told (wsV RX9 78 RX9 yX9_isPoint wsX9_isPoint) := goodIn_app (goodIn_of _ (by decide +kernel)) ggX9_told_X9_isPoint
set_option maxRecDepth 20000 in
theorem ggX9_told_X9_latest : GoodIn wsX9_told wsX9_latest := goodIn_r _ [19, 4, 20, 21, 22, 23, 24, 25, 26, 27, 28, 29, 30, 31, 32, 33, 34, 35, 36, 37, 38, 39, 40, 41, 42, 43, 44, 45] (by decide +kernel) (by decide +kernel)
set_option maxRecDepth 20000 in
theorem gX9_told_X9_latest : GoodIn wsX9_told (wsV RX9 84 RX9 yX9_latest wsX9_latest) := goodIn_app (goodIn_of _ (by decide +kernel)) ggX9_told_X9_latest
theorem dX9_told_0 : decode cX9_told 0 = .ok (.aload_n 0, 1) := by decide +kernel
theorem dX9_told_1 : decode cX9_told 1 = .ok (.iload_n 1, 1) := by decide +kernel
theorem dX9_told_2 : decode cX9_told 2 = .ok (.invokevirtual 78, 3) := by decide +kernel
theorem dX9_told_5 : decode cX9_told 5 = .ok (.ifCond .ne 6, 3) := by decide +kernel
theorem dX9_told_8 : decode cX9_told 8 = .ok (.ldc 82, 2) := by decide +kernel
theorem dX9_told_10 : decode cX9_told 10 = .ok (.ireturn, 1) := by decide +kernel
theorem dX9_told_11 : decode cX9_told 11 = .ok (.iload_n 2, 1) := by decide +kernel
theorem dX9_told_12 : decode cX9_told 12 = .ok (.tableswitch 67 0 3 #[32, 42, 49, 56], 32) := by decide +kernel
theorem dX9_told_44 : decode cX9_told 44 = .ok (.aload_n 0, 1) := by decide +kernel
theorem dX9_told_45 : decode cX9_told 45 = .ok (.getfield 16, 3) := by decide +kernel
theorem dX9_told_48 : decode cX9_told 48 = .ok (.bipush 8, 2) := by decide +kernel
theorem dX9_told_50 : decode cX9_told 50 = .ok (.iload_n 1, 1) := by decide +kernel
theorem dX9_told_51 : decode cX9_told 51 = .ok (.imul, 1) := by decide +kernel
theorem dX9_told_52 : decode cX9_told 52 = .ok (.iaload, 1) := by decide +kernel
theorem dX9_told_53 : decode cX9_told 53 = .ok (.ireturn, 1) := by decide +kernel
theorem dX9_told_54 : decode cX9_told 54 = .ok (.aload_n 0, 1) := by decide +kernel
theorem dX9_told_55 : decode cX9_told 55 = .ok (.getfield 7, 3) := by decide +kernel
theorem dX9_told_58 : decode cX9_told 58 = .ok (.iload_n 1, 1) := by decide +kernel
theorem dX9_told_59 : decode cX9_told 59 = .ok (.iaload, 1) := by decide +kernel
theorem dX9_told_60 : decode cX9_told 60 = .ok (.ireturn, 1) := by decide +kernel
theorem dX9_told_61 : decode cX9_told 61 = .ok (.aload_n 0, 1) := by decide +kernel
theorem dX9_told_62 : decode cX9_told 62 = .ok (.getfield 13, 3) := by decide +kernel
theorem dX9_told_65 : decode cX9_told 65 = .ok (.iload_n 1, 1) := by decide +kernel
theorem dX9_told_66 : decode cX9_told 66 = .ok (.iaload, 1) := by decide +kernel
theorem dX9_told_67 : decode cX9_told 67 = .ok (.ireturn, 1) := by decide +kernel
theorem dX9_told_68 : decode cX9_told 68 = .ok (.aload_n 0, 1) := by decide +kernel
theorem dX9_told_69 : decode cX9_told 69 = .ok (.getfield 22, 3) := by decide +kernel
theorem dX9_told_72 : decode cX9_told 72 = .ok (.aload_n 0, 1) := by decide +kernel
theorem dX9_told_73 : decode cX9_told 73 = .ok (.iload_n 1, 1) := by decide +kernel
theorem dX9_told_74 : decode cX9_told 74 = .ok (.invokevirtual 84, 3) := by decide +kernel
theorem dX9_told_77 : decode cX9_told 77 = .ok (.iaload, 1) := by decide +kernel
theorem dX9_told_78 : decode cX9_told 78 = .ok (.ireturn, 1) := by decide +kernel
theorem dX9_told_79 : decode cX9_told 79 = .ok (.ldc 73, 2) := by decide +kernel
theorem dX9_told_81 : decode cX9_told 81 = .ok (.ireturn, 1) := by decide +kernel
set_option maxRecDepth 20000 in
theorem ggX9_isMoment_X9_in : GoodIn wsX9_isMoment wsX9_in := goodIn_r _ [5] (by decide +kernel) (by decide +kernel)
set_option maxRecDepth 20000 in
theorem gX9_isMoment_X9_in : GoodIn wsX9_isMoment (va_wsS RX9 61 yX9_in wsX9_in) := goodIn_app (goodIn_of _ (by decide +kernel)) ggX9_isMoment_X9_in
theorem dX9_isMoment_0 : decode cX9_isMoment 0 = .ok (.iload_n 1, 1) := by decide +kernel
theorem dX9_isMoment_1 : decode cX9_isMoment 1 = .ok (.i2l, 1) := by decide +kernel
theorem dX9_isMoment_2 : decode cX9_isMoment 2 = .ok (.lconst 1, 1) := by decide +kernel
theorem dX9_isMoment_3 : decode cX9_isMoment 3 = .ok (.ldc2_w 104, 3) := by decide +kernel
theorem dX9_isMoment_6 : decode cX9_isMoment 6 = .ok (.invokestatic 61, 3) := by decide +kernel
theorem dX9_isMoment_9 : decode cX9_isMoment 9 = .ok (.ifCond .eq 20, 3) := by decide +kernel
theorem dX9_isMoment_12 : decode cX9_isMoment 12 = .ok (.iload_n 0, 1) := by decide +kernel
theorem dX9_isMoment_13 : decode cX9_isMoment 13 = .ok (.ifCond .lt 16, 3) := by decide +kernel
theorem dX9_isMoment_16 : decode cX9_isMoment 16 = .ok (.iload_n 0, 1) := by decide +kernel
theorem dX9_isMoment_17 : decode cX9_isMoment 17 = .ok (.sipush 600, 3) := by decide +kernel
theorem dX9_isMoment_20 : decode cX9_isMoment 20 = .ok (.iload_n 1, 1) := by decide +kernel
theorem dX9_isMoment_21 : decode cX9_isMoment 21 = .ok (.imul, 1) := by decide +kernel
theorem dX9_isMoment_22 : decode cX9_isMoment 22 = .ok (.if_icmp .gt 7, 3) := by decide +kernel
theorem dX9_isMoment_25 : decode cX9_isMoment 25 = .ok (.iconst 1, 1) := by decide +kernel
theorem dX9_isMoment_26 : decode cX9_isMoment 26 = .ok (.goto 4, 3) := by decide +kernel
theorem dX9_isMoment_29 : decode cX9_isMoment 29 = .ok (.iconst 0, 1) := by decide +kernel
theorem dX9_isMoment_30 : decode cX9_isMoment 30 = .ok (.ireturn, 1) := by decide +kernel
set_option maxRecDepth 20000 in
theorem ggX9_placeAt_X9_latest : GoodIn wsX9_placeAt wsX9_latest := goodIn_r _ [8, 9, 10, 11, 12, 13, 14, 15, 16, 17, 18, 19, 20, 21, 22, 23, 24, 25, 26, 27, 28, 29, 30, 31, 32, 33, 34, 35] (by decide +kernel) (by decide +kernel)
set_option maxRecDepth 20000 in
theorem gX9_placeAt_X9_latest : GoodIn wsX9_placeAt (wsV RX9 84 RX9 yX9_latest wsX9_latest) := goodIn_app (goodIn_of _ (by decide +kernel)) ggX9_placeAt_X9_latest
theorem dX9_placeAt_0 : decode cX9_placeAt 0 = .ok (.aload_n 0, 1) := by decide +kernel
theorem dX9_placeAt_1 : decode cX9_placeAt 1 = .ok (.iload_n 1, 1) := by decide +kernel
theorem dX9_placeAt_2 : decode cX9_placeAt 2 = .ok (.invokevirtual 84, 3) := by decide +kernel
theorem dX9_placeAt_5 : decode cX9_placeAt 5 = .ok (.istore 6, 2) := by decide +kernel
theorem dX9_placeAt_7 : decode cX9_placeAt 7 = .ok (.iload 6, 2) := by decide +kernel
theorem dX9_placeAt_9 : decode cX9_placeAt 9 = .ok (.bipush 8, 2) := by decide +kernel
theorem dX9_placeAt_11 : decode cX9_placeAt 11 = .ok (.iload_n 1, 1) := by decide +kernel
theorem dX9_placeAt_12 : decode cX9_placeAt 12 = .ok (.imul, 1) := by decide +kernel
theorem dX9_placeAt_13 : decode cX9_placeAt 13 = .ok (.if_icmp .le 25, 3) := by decide +kernel
theorem dX9_placeAt_16 : decode cX9_placeAt 16 = .ok (.aload_n 0, 1) := by decide +kernel
theorem dX9_placeAt_17 : decode cX9_placeAt 17 = .ok (.getfield 16, 3) := by decide +kernel
theorem dX9_placeAt_20 : decode cX9_placeAt 20 = .ok (.iload 6, 2) := by decide +kernel
theorem dX9_placeAt_22 : decode cX9_placeAt 22 = .ok (.iaload, 1) := by decide +kernel
theorem dX9_placeAt_23 : decode cX9_placeAt 23 = .ok (.i2l, 1) := by decide +kernel
theorem dX9_placeAt_24 : decode cX9_placeAt 24 = .ok (.lload 4, 2) := by decide +kernel
theorem dX9_placeAt_26 : decode cX9_placeAt 26 = .ok (.lmul, 1) := by decide +kernel
theorem dX9_placeAt_27 : decode cX9_placeAt 27 = .ok (.lload_n 2, 1) := by decide +kernel
theorem dX9_placeAt_28 : decode cX9_placeAt 28 = .ok (.lcmp, 1) := by decide +kernel
theorem dX9_placeAt_29 : decode cX9_placeAt 29 = .ok (.ifCond .le 9, 3) := by decide +kernel
theorem dX9_placeAt_32 : decode cX9_placeAt 32 = .ok (.iinc 6 (-1), 3) := by decide +kernel
theorem dX9_placeAt_35 : decode cX9_placeAt 35 = .ok (.goto (-28), 3) := by decide +kernel
theorem dX9_placeAt_38 : decode cX9_placeAt 38 = .ok (.aload_n 0, 1) := by decide +kernel
theorem dX9_placeAt_39 : decode cX9_placeAt 39 = .ok (.getfield 19, 3) := by decide +kernel
theorem dX9_placeAt_42 : decode cX9_placeAt 42 = .ok (.iload 6, 2) := by decide +kernel
theorem dX9_placeAt_44 : decode cX9_placeAt 44 = .ok (.iaload, 1) := by decide +kernel
theorem dX9_placeAt_45 : decode cX9_placeAt 45 = .ok (.i2l, 1) := by decide +kernel
theorem dX9_placeAt_46 : decode cX9_placeAt 46 = .ok (.lload 4, 2) := by decide +kernel
theorem dX9_placeAt_48 : decode cX9_placeAt 48 = .ok (.lmul, 1) := by decide +kernel
theorem dX9_placeAt_49 : decode cX9_placeAt 49 = .ok (.aload_n 0, 1) := by decide +kernel
theorem dX9_placeAt_50 : decode cX9_placeAt 50 = .ok (.getfield 22, 3) := by decide +kernel
theorem dX9_placeAt_53 : decode cX9_placeAt 53 = .ok (.iload 6, 2) := by decide +kernel
theorem dX9_placeAt_55 : decode cX9_placeAt 55 = .ok (.iaload, 1) := by decide +kernel
theorem dX9_placeAt_56 : decode cX9_placeAt 56 = .ok (.i2l, 1) := by decide +kernel
theorem dX9_placeAt_57 : decode cX9_placeAt 57 = .ok (.lload_n 2, 1) := by decide +kernel
theorem dX9_placeAt_58 : decode cX9_placeAt 58 = .ok (.aload_n 0, 1) := by decide +kernel
theorem dX9_placeAt_59 : decode cX9_placeAt 59 = .ok (.getfield 16, 3) := by decide +kernel
theorem dX9_placeAt_62 : decode cX9_placeAt 62 = .ok (.iload 6, 2) := by decide +kernel
theorem dX9_placeAt_64 : decode cX9_placeAt 64 = .ok (.iaload, 1) := by decide +kernel
theorem dX9_placeAt_65 : decode cX9_placeAt 65 = .ok (.i2l, 1) := by decide +kernel
theorem dX9_placeAt_66 : decode cX9_placeAt 66 = .ok (.lload 4, 2) := by decide +kernel
theorem dX9_placeAt_68 : decode cX9_placeAt 68 = .ok (.lmul, 1) := by decide +kernel
theorem dX9_placeAt_69 : decode cX9_placeAt 69 = .ok (.lsub, 1) := by decide +kernel
theorem dX9_placeAt_70 : decode cX9_placeAt 70 = .ok (.lmul, 1) := by decide +kernel
theorem dX9_placeAt_71 : decode cX9_placeAt 71 = .ok (.ladd, 1) := by decide +kernel
theorem dX9_placeAt_72 : decode cX9_placeAt 72 = .ok (.lreturn, 1) := by decide +kernel
theorem dX9_common_0 : decode cX9_common 0 = .ok (.lload_n 0, 1) := by decide +kernel
theorem dX9_common_1 : decode cX9_common 1 = .ok (.lconst 0, 1) := by decide +kernel
theorem dX9_common_2 : decode cX9_common 2 = .ok (.lcmp, 1) := by decide +kernel
theorem dX9_common_3 : decode cX9_common 3 = .ok (.ifCond .ge 8, 3) := by decide +kernel
theorem dX9_common_6 : decode cX9_common 6 = .ok (.lload_n 0, 1) := by decide +kernel
theorem dX9_common_7 : decode cX9_common 7 = .ok (.lneg, 1) := by decide +kernel
theorem dX9_common_8 : decode cX9_common 8 = .ok (.goto 4, 3) := by decide +kernel
theorem dX9_common_11 : decode cX9_common 11 = .ok (.lload_n 0, 1) := by decide +kernel
theorem dX9_common_12 : decode cX9_common 12 = .ok (.lstore 4, 2) := by decide +kernel
theorem dX9_common_14 : decode cX9_common 14 = .ok (.lload_n 2, 1) := by decide +kernel
theorem dX9_common_15 : decode cX9_common 15 = .ok (.lstore 6, 2) := by decide +kernel
theorem dX9_common_17 : decode cX9_common 17 = .ok (.lload 6, 2) := by decide +kernel
theorem dX9_common_19 : decode cX9_common 19 = .ok (.lconst 0, 1) := by decide +kernel
theorem dX9_common_20 : decode cX9_common 20 = .ok (.lcmp, 1) := by decide +kernel
theorem dX9_common_21 : decode cX9_common 21 = .ok (.ifCond .eq 21, 3) := by decide +kernel
theorem dX9_common_24 : decode cX9_common 24 = .ok (.lload 4, 2) := by decide +kernel
theorem dX9_common_26 : decode cX9_common 26 = .ok (.lload 6, 2) := by decide +kernel
theorem dX9_common_28 : decode cX9_common 28 = .ok (.lrem, 1) := by decide +kernel
theorem dX9_common_29 : decode cX9_common 29 = .ok (.lstore 8, 2) := by decide +kernel
theorem dX9_common_31 : decode cX9_common 31 = .ok (.lload 6, 2) := by decide +kernel
theorem dX9_common_33 : decode cX9_common 33 = .ok (.lstore 4, 2) := by decide +kernel
theorem dX9_common_35 : decode cX9_common 35 = .ok (.lload 8, 2) := by decide +kernel
theorem dX9_common_37 : decode cX9_common 37 = .ok (.lstore 6, 2) := by decide +kernel
theorem dX9_common_39 : decode cX9_common 39 = .ok (.goto (-22), 3) := by decide +kernel
theorem dX9_common_42 : decode cX9_common 42 = .ok (.lload 4, 2) := by decide +kernel
theorem dX9_common_44 : decode cX9_common 44 = .ok (.lreturn, 1) := by decide +kernel
set_option maxRecDepth 20000 in
theorem ggX9_share_X9_common : GoodIn wsX9_share wsX9_common := goodIn_r _ [4] (by decide +kernel) (by decide +kernel)
set_option maxRecDepth 20000 in
theorem gX9_share_X9_common : GoodIn wsX9_share (va_wsS RX9 106 yX9_common wsX9_common) := goodIn_app (goodIn_of _ (by decide +kernel)) ggX9_share_X9_common
theorem dX9_share_0 : decode cX9_share 0 = .ok (.lload_n 0, 1) := by decide +kernel
theorem dX9_share_1 : decode cX9_share 1 = .ok (.lload_n 2, 1) := by decide +kernel
theorem dX9_share_2 : decode cX9_share 2 = .ok (.invokestatic 106, 3) := by decide +kernel
theorem dX9_share_5 : decode cX9_share 5 = .ok (.lstore 5, 2) := by decide +kernel
theorem dX9_share_7 : decode cX9_share 7 = .ok (.iload 4, 2) := by decide +kernel
theorem dX9_share_9 : decode cX9_share 9 = .ok (.ifCond .ne 10, 3) := by decide +kernel
theorem dX9_share_12 : decode cX9_share 12 = .ok (.lload_n 0, 1) := by decide +kernel
theorem dX9_share_13 : decode cX9_share 13 = .ok (.lload 5, 2) := by decide +kernel
theorem dX9_share_15 : decode cX9_share 15 = .ok (.ldiv, 1) := by decide +kernel
theorem dX9_share_16 : decode cX9_share 16 = .ok (.goto 7, 3) := by decide +kernel
theorem dX9_share_19 : decode cX9_share 19 = .ok (.lload_n 2, 1) := by decide +kernel
theorem dX9_share_20 : decode cX9_share 20 = .ok (.lload 5, 2) := by decide +kernel
theorem dX9_share_22 : decode cX9_share 22 = .ok (.ldiv, 1) := by decide +kernel
theorem dX9_share_23 : decode cX9_share 23 = .ok (.lreturn, 1) := by decide +kernel
set_option maxRecDepth 20000 in
theorem ggX9_place_X9_isPoint : GoodIn wsX9_place wsX9_isPoint := goodIn_r _ [8, 9, 10, 11, 7, 12, 40, 41, 42, 43, 44, 45, 46, 47, 48, 49, 50, 51, 52, 53, 54, 55, 56, 57, 58, 59, 60, 61, 62, 63, 64, 65] (by decide +kernel) (by decide +kernel)
set_option maxRecDepth 20000 in
theorem gX9_place_X9_isPoint : GoodIn wsX9_place (wsV RX9 78 RX9 yX9_isPoint wsX9_isPoint) := goodIn_app (goodIn_of _ (by decide +kernel)) ggX9_place_X9_isPoint
set_option maxRecDepth 20000 in
theorem ggX9_place_X9_isMoment : GoodIn wsX9_place wsX9_isMoment := goodIn_r _ [15, 16, 10, 11, 7, 12] (by decide +kernel) (by decide +kernel)
set_option maxRecDepth 20000 in
theorem gX9_place_X9_isMoment : GoodIn wsX9_place (va_wsS RX9 112 yX9_isMoment wsX9_isMoment) := goodIn_app (goodIn_of _ (by decide +kernel)) ggX9_place_X9_isMoment
set_option maxRecDepth 20000 in
theorem ggX9_place_X9_in : GoodIn wsX9_place wsX9_in := goodIn_r _ [12] (by decide +kernel) (by decide +kernel)
set_option maxRecDepth 20000 in
theorem gX9_place_X9_in : GoodIn wsX9_place (va_wsS RX9 61 yX9_in wsX9_in) := goodIn_app (goodIn_of _ (by decide +kernel)) ggX9_place_X9_in
set_option maxRecDepth 20000 in
theorem ggX9_place_X9_isThere : GoodIn wsX9_place wsX9_isThere := goodIn_r _ [20, 21, 22, 40, 41, 42, 43, 44, 45, 46, 47, 48, 49, 50, 51, 52, 53, 54, 55, 56, 57, 58, 59, 60, 61, 62, 63, 64, 65] (by decide +kernel) (by decide +kernel)
set_option maxRecDepth 20000 in
theorem gX9_place_X9_isThere : GoodIn wsX9_place (wsV RX9 90 RX9 yX9_isThere wsX9_isThere) := goodIn_app (goodIn_of _ (by decide +kernel)) ggX9_place_X9_isThere
set_option maxRecDepth 20000 in
theorem ggX9_place_X9_placeAt : GoodIn wsX9_place wsX9_placeAt := goodIn_r _ [26, 21, 27, 28, 29, 30, 31, 7, 32, 33, 40, 41, 42, 43, 44, 45, 46, 47, 48, 49, 50, 51, 52, 53, 54, 55, 56, 57, 58, 59, 60, 61, 62, 63, 64, 65] (by decide +kernel) (by decide +kernel)
set_option maxRecDepth 20000 in
theorem gX9_place_X9_placeAt : GoodIn wsX9_place (wsV RX9 118 RX9 yX9_placeAt wsX9_placeAt) := goodIn_app (goodIn_of _ (by decide +kernel)) ggX9_place_X9_placeAt
set_option maxRecDepth 20000 in
theorem ggX9_place_X9_share : GoodIn wsX9_place wsX9_share := goodIn_r _ [36, 37, 38, 7, 39] (by decide +kernel) (by decide +kernel)
set_option maxRecDepth 20000 in
theorem gX9_place_X9_share : GoodIn wsX9_place (va_wsS RX9 122 yX9_share wsX9_share) := goodIn_app (goodIn_of _ (by decide +kernel)) ggX9_place_X9_share
theorem dX9_place_0 : decode cX9_place 0 = .ok (.aload_n 0, 1) := by decide +kernel
theorem dX9_place_1 : decode cX9_place 1 = .ok (.iload_n 1, 1) := by decide +kernel
theorem dX9_place_2 : decode cX9_place 2 = .ok (.invokevirtual 78, 3) := by decide +kernel
theorem dX9_place_5 : decode cX9_place 5 = .ok (.ifCond .ne 7, 3) := by decide +kernel
theorem dX9_place_8 : decode cX9_place 8 = .ok (.ldc2_w 110, 3) := by decide +kernel
theorem dX9_place_11 : decode cX9_place 11 = .ok (.lreturn, 1) := by decide +kernel
theorem dX9_place_12 : decode cX9_place 12 = .ok (.iload_n 2, 1) := by decide +kernel
theorem dX9_place_13 : decode cX9_place 13 = .ok (.iload_n 3, 1) := by decide +kernel
theorem dX9_place_14 : decode cX9_place 14 = .ok (.invokestatic 112, 3) := by decide +kernel
theorem dX9_place_17 : decode cX9_place 17 = .ok (.ifCond .eq 14, 3) := by decide +kernel
theorem dX9_place_20 : decode cX9_place 20 = .ok (.iload 4, 2) := by decide +kernel
theorem dX9_place_22 : decode cX9_place 22 = .ok (.i2l, 1) := by decide +kernel
theorem dX9_place_23 : decode cX9_place 23 = .ok (.lconst 0, 1) := by decide +kernel
theorem dX9_place_24 : decode cX9_place 24 = .ok (.lconst 1, 1) := by decide +kernel
theorem dX9_place_25 : decode cX9_place 25 = .ok (.invokestatic 61, 3) := by decide +kernel
theorem dX9_place_28 : decode cX9_place 28 = .ok (.ifCond .ne 7, 3) := by decide +kernel
theorem dX9_place_31 : decode cX9_place 31 = .ok (.ldc2_w 116, 3) := by decide +kernel
theorem dX9_place_34 : decode cX9_place 34 = .ok (.lreturn, 1) := by decide +kernel
theorem dX9_place_35 : decode cX9_place 35 = .ok (.aload_n 0, 1) := by decide +kernel
theorem dX9_place_36 : decode cX9_place 36 = .ok (.iload_n 1, 1) := by decide +kernel
theorem dX9_place_37 : decode cX9_place 37 = .ok (.iload_n 2, 1) := by decide +kernel
theorem dX9_place_38 : decode cX9_place 38 = .ok (.i2l, 1) := by decide +kernel
theorem dX9_place_39 : decode cX9_place 39 = .ok (.iload_n 3, 1) := by decide +kernel
theorem dX9_place_40 : decode cX9_place 40 = .ok (.i2l, 1) := by decide +kernel
theorem dX9_place_41 : decode cX9_place 41 = .ok (.invokevirtual 90, 3) := by decide +kernel
theorem dX9_place_44 : decode cX9_place 44 = .ok (.ifCond .eq 22, 3) := by decide +kernel
theorem dX9_place_47 : decode cX9_place 47 = .ok (.aload_n 0, 1) := by decide +kernel
theorem dX9_place_48 : decode cX9_place 48 = .ok (.iload_n 1, 1) := by decide +kernel
theorem dX9_place_49 : decode cX9_place 49 = .ok (.iload_n 2, 1) := by decide +kernel
theorem dX9_place_50 : decode cX9_place 50 = .ok (.i2l, 1) := by decide +kernel
theorem dX9_place_51 : decode cX9_place 51 = .ok (.iload_n 3, 1) := by decide +kernel
theorem dX9_place_52 : decode cX9_place 52 = .ok (.i2l, 1) := by decide +kernel
theorem dX9_place_53 : decode cX9_place 53 = .ok (.invokevirtual 118, 3) := by decide +kernel
theorem dX9_place_56 : decode cX9_place 56 = .ok (.iload_n 3, 1) := by decide +kernel
theorem dX9_place_57 : decode cX9_place 57 = .ok (.i2l, 1) := by decide +kernel
theorem dX9_place_58 : decode cX9_place 58 = .ok (.iload 4, 2) := by decide +kernel
theorem dX9_place_60 : decode cX9_place 60 = .ok (.invokestatic 122, 3) := by decide +kernel
theorem dX9_place_63 : decode cX9_place 63 = .ok (.goto 6, 3) := by decide +kernel
theorem dX9_place_66 : decode cX9_place 66 = .ok (.ldc2_w 126, 3) := by decide +kernel
theorem dX9_place_69 : decode cX9_place 69 = .ok (.lreturn, 1) := by decide +kernel
set_option maxRecDepth 20000 in
theorem ggX9_findOrder_X9_isThere : GoodIn wsX9_findOrder wsX9_isThere := goodIn_r _ [8, 9, 10, 22, 23, 24, 25, 26, 27, 28, 29, 30, 31, 32, 33, 34, 35, 36, 37, 38, 39, 40, 41, 42, 43, 44, 45, 46, 47] (by decide +kernel) (by decide +kernel)
set_option maxRecDepth 20000 in
theorem gX9_findOrder_X9_isThere : GoodIn wsX9_findOrder (wsV RX9 90 RX9 yX9_isThere wsX9_isThere) := goodIn_app (goodIn_of _ (by decide +kernel)) ggX9_findOrder_X9_isThere
set_option maxRecDepth 20000 in
theorem ggX9_findOrder_X9_placeAt : GoodIn wsX9_findOrder wsX9_placeAt := goodIn_r _ [14, 9, 15, 16, 17, 18, 19, 7, 20, 21, 22, 23, 24, 25, 26, 27, 28, 29, 30, 31, 32, 33, 34, 35, 36, 37, 38, 39, 40, 41, 42, 43, 44, 45, 46, 47] (by decide +kernel) (by decide +kernel)
set_option maxRecDepth 20000 in
theorem gX9_findOrder_X9_placeAt : GoodIn wsX9_findOrder (wsV RX9 118 RX9 yX9_placeAt wsX9_placeAt) := goodIn_app (goodIn_of _ (by decide +kernel)) ggX9_findOrder_X9_placeAt
theorem dX9_findOrder_0 : decode cX9_findOrder 0 = .ok (.aload_n 0, 1) := by decide +kernel
theorem dX9_findOrder_1 : decode cX9_findOrder 1 = .ok (.iconst 0, 1) := by decide +kernel
theorem dX9_findOrder_2 : decode cX9_findOrder 2 = .ok (.putfield 128, 3) := by decide +kernel
theorem dX9_findOrder_5 : decode cX9_findOrder 5 = .ok (.iconst 0, 1) := by decide +kernel
theorem dX9_findOrder_6 : decode cX9_findOrder 6 = .ok (.istore 5, 2) := by decide +kernel
theorem dX9_findOrder_8 : decode cX9_findOrder 8 = .ok (.iload 5, 2) := by decide +kernel
theorem dX9_findOrder_10 : decode cX9_findOrder 10 = .ok (.aload_n 0, 1) := by decide +kernel
theorem dX9_findOrder_11 : decode cX9_findOrder 11 = .ok (.getfield 57, 3) := by decide +kernel
theorem dX9_findOrder_14 : decode cX9_findOrder 14 = .ok (.if_icmp .ge 99, 3) := by decide +kernel
theorem dX9_findOrder_17 : decode cX9_findOrder 17 = .ok (.aload_n 0, 1) := by decide +kernel
theorem dX9_findOrder_18 : decode cX9_findOrder 18 = .ok (.iload 5, 2) := by decide +kernel
theorem dX9_findOrder_20 : decode cX9_findOrder 20 = .ok (.lload_n 1, 1) := by decide +kernel
theorem dX9_findOrder_21 : decode cX9_findOrder 21 = .ok (.lload_n 3, 1) := by decide +kernel
theorem dX9_findOrder_22 : decode cX9_findOrder 22 = .ok (.invokevirtual 90, 3) := by decide +kernel
theorem dX9_findOrder_25 : decode cX9_findOrder 25 = .ok (.ifCond .eq 82, 3) := by decide +kernel
theorem dX9_findOrder_28 : decode cX9_findOrder 28 = .ok (.aload_n 0, 1) := by decide +kernel
theorem dX9_findOrder_29 : decode cX9_findOrder 29 = .ok (.getfield 128, 3) := by decide +kernel
theorem dX9_findOrder_32 : decode cX9_findOrder 32 = .ok (.istore 6, 2) := by decide +kernel
theorem dX9_findOrder_34 : decode cX9_findOrder 34 = .ok (.iload 6, 2) := by decide +kernel
theorem dX9_findOrder_36 : decode cX9_findOrder 36 = .ok (.ifCond .le 52, 3) := by decide +kernel
theorem dX9_findOrder_39 : decode cX9_findOrder 39 = .ok (.aload_n 0, 1) := by decide +kernel
theorem dX9_findOrder_40 : decode cX9_findOrder 40 = .ok (.aload_n 0, 1) := by decide +kernel
theorem dX9_findOrder_41 : decode cX9_findOrder 41 = .ok (.getfield 25, 3) := by decide +kernel
theorem dX9_findOrder_44 : decode cX9_findOrder 44 = .ok (.iload 6, 2) := by decide +kernel
theorem dX9_findOrder_46 : decode cX9_findOrder 46 = .ok (.iconst 1, 1) := by decide +kernel
theorem dX9_findOrder_47 : decode cX9_findOrder 47 = .ok (.isub, 1) := by decide +kernel
theorem dX9_findOrder_48 : decode cX9_findOrder 48 = .ok (.iaload, 1) := by decide +kernel
theorem dX9_findOrder_49 : decode cX9_findOrder 49 = .ok (.lload_n 1, 1) := by decide +kernel
theorem dX9_findOrder_50 : decode cX9_findOrder 50 = .ok (.lload_n 3, 1) := by decide +kernel
theorem dX9_findOrder_51 : decode cX9_findOrder 51 = .ok (.invokevirtual 118, 3) := by decide +kernel
theorem dX9_findOrder_54 : decode cX9_findOrder 54 = .ok (.aload_n 0, 1) := by decide +kernel
theorem dX9_findOrder_55 : decode cX9_findOrder 55 = .ok (.iload 5, 2) := by decide +kernel
theorem dX9_findOrder_57 : decode cX9_findOrder 57 = .ok (.lload_n 1, 1) := by decide +kernel
theorem dX9_findOrder_58 : decode cX9_findOrder 58 = .ok (.lload_n 3, 1) := by decide +kernel
theorem dX9_findOrder_59 : decode cX9_findOrder 59 = .ok (.invokevirtual 118, 3) := by decide +kernel
theorem dX9_findOrder_62 : decode cX9_findOrder 62 = .ok (.lcmp, 1) := by decide +kernel
theorem dX9_findOrder_63 : decode cX9_findOrder 63 = .ok (.ifCond .le 25, 3) := by decide +kernel
theorem dX9_findOrder_66 : decode cX9_findOrder 66 = .ok (.aload_n 0, 1) := by decide +kernel
theorem dX9_findOrder_67 : decode cX9_findOrder 67 = .ok (.getfield 25, 3) := by decide +kernel
theorem dX9_findOrder_70 : decode cX9_findOrder 70 = .ok (.iload 6, 2) := by decide +kernel
theorem dX9_findOrder_72 : decode cX9_findOrder 72 = .ok (.aload_n 0, 1) := by decide +kernel
theorem dX9_findOrder_73 : decode cX9_findOrder 73 = .ok (.getfield 25, 3) := by decide +kernel
theorem dX9_findOrder_76 : decode cX9_findOrder 76 = .ok (.iload 6, 2) := by decide +kernel
theorem dX9_findOrder_78 : decode cX9_findOrder 78 = .ok (.iconst 1, 1) := by decide +kernel
theorem dX9_findOrder_79 : decode cX9_findOrder 79 = .ok (.isub, 1) := by decide +kernel
theorem dX9_findOrder_80 : decode cX9_findOrder 80 = .ok (.iaload, 1) := by decide +kernel
theorem dX9_findOrder_81 : decode cX9_findOrder 81 = .ok (.iastore, 1) := by decide +kernel
theorem dX9_findOrder_82 : decode cX9_findOrder 82 = .ok (.iinc 6 (-1), 3) := by decide +kernel
theorem dX9_findOrder_85 : decode cX9_findOrder 85 = .ok (.goto (-51), 3) := by decide +kernel
theorem dX9_findOrder_88 : decode cX9_findOrder 88 = .ok (.aload_n 0, 1) := by decide +kernel
theorem dX9_findOrder_89 : decode cX9_findOrder 89 = .ok (.getfield 25, 3) := by decide +kernel
theorem dX9_findOrder_92 : decode cX9_findOrder 92 = .ok (.iload 6, 2) := by decide +kernel
theorem dX9_findOrder_94 : decode cX9_findOrder 94 = .ok (.iload 5, 2) := by decide +kernel
theorem dX9_findOrder_96 : decode cX9_findOrder 96 = .ok (.iastore, 1) := by decide +kernel
theorem dX9_findOrder_97 : decode cX9_findOrder 97 = .ok (.aload_n 0, 1) := by decide +kernel
theorem dX9_findOrder_98 : decode cX9_findOrder 98 = .ok (.dup, 1) := by decide +kernel
theorem dX9_findOrder_99 : decode cX9_findOrder 99 = .ok (.getfield 128, 3) := by decide +kernel
theorem dX9_findOrder_102 : decode cX9_findOrder 102 = .ok (.iconst 1, 1) := by decide +kernel
theorem dX9_findOrder_103 : decode cX9_findOrder 103 = .ok (.iadd, 1) := by decide +kernel
theorem dX9_findOrder_104 : decode cX9_findOrder 104 = .ok (.putfield 128, 3) := by decide +kernel
theorem dX9_findOrder_107 : decode cX9_findOrder 107 = .ok (.iinc 5 1, 3) := by decide +kernel
theorem dX9_findOrder_110 : decode cX9_findOrder 110 = .ok (.goto (-102), 3) := by decide +kernel
theorem dX9_findOrder_113 : decode cX9_findOrder 113 = .ok (.return_, 1) := by decide +kernel
set_option maxRecDepth 20000 in
theorem ggX9_rowAt_X9_in : GoodIn wsX9_rowAt wsX9_in := goodIn_r _ [6] (by decide +kernel) (by decide +kernel)
set_option maxRecDepth 20000 in
theorem gX9_rowAt_X9_in : GoodIn wsX9_rowAt (va_wsS RX9 61 yX9_in wsX9_in) := goodIn_app (goodIn_of _ (by decide +kernel)) ggX9_rowAt_X9_in
theorem dX9_rowAt_0 : decode cX9_rowAt 0 = .ok (.iload_n 1, 1) := by decide +kernel
theorem dX9_rowAt_1 : decode cX9_rowAt 1 = .ok (.i2l, 1) := by decide +kernel
theorem dX9_rowAt_2 : decode cX9_rowAt 2 = .ok (.lconst 0, 1) := by decide +kernel
theorem dX9_rowAt_3 : decode cX9_rowAt 3 = .ok (.aload_n 0, 1) := by decide +kernel
theorem dX9_rowAt_4 : decode cX9_rowAt 4 = .ok (.getfield 128, 3) := by decide +kernel
theorem dX9_rowAt_7 : decode cX9_rowAt 7 = .ok (.iconst 1, 1) := by decide +kernel
theorem dX9_rowAt_8 : decode cX9_rowAt 8 = .ok (.isub, 1) := by decide +kernel
theorem dX9_rowAt_9 : decode cX9_rowAt 9 = .ok (.i2l, 1) := by decide +kernel
theorem dX9_rowAt_10 : decode cX9_rowAt 10 = .ok (.invokestatic 61, 3) := by decide +kernel
theorem dX9_rowAt_13 : decode cX9_rowAt 13 = .ok (.ifCond .eq 12, 3) := by decide +kernel
theorem dX9_rowAt_16 : decode cX9_rowAt 16 = .ok (.aload_n 0, 1) := by decide +kernel
theorem dX9_rowAt_17 : decode cX9_rowAt 17 = .ok (.getfield 25, 3) := by decide +kernel
theorem dX9_rowAt_20 : decode cX9_rowAt 20 = .ok (.iload_n 1, 1) := by decide +kernel
theorem dX9_rowAt_21 : decode cX9_rowAt 21 = .ok (.iaload, 1) := by decide +kernel
theorem dX9_rowAt_22 : decode cX9_rowAt 22 = .ok (.goto 4, 3) := by decide +kernel
theorem dX9_rowAt_25 : decode cX9_rowAt 25 = .ok (.iconst (-1), 1) := by decide +kernel
theorem dX9_rowAt_26 : decode cX9_rowAt 26 = .ok (.ireturn, 1) := by decide +kernel
set_option maxRecDepth 20000 in
theorem ggX9_order_X9_isMoment : GoodIn wsX9_order wsX9_isMoment := goodIn_r _ [5, 6, 7, 8, 4, 9] (by decide +kernel) (by decide +kernel)
set_option maxRecDepth 20000 in
theorem gX9_order_X9_isMoment : GoodIn wsX9_order (va_wsS RX9 112 yX9_isMoment wsX9_isMoment) := goodIn_app (goodIn_of _ (by decide +kernel)) ggX9_order_X9_isMoment
set_option maxRecDepth 20000 in
theorem ggX9_order_X9_findOrder : GoodIn wsX9_order wsX9_findOrder := goodIn_r _ [13, 14, 15, 16, 17, 18, 19, 4, 20, 21, 22, 23, 24, 25, 26, 27, 28, 29, 30, 31, 32, 33, 38, 39, 40, 41, 42, 43, 44, 45, 46, 47, 48, 49, 50, 51, 52, 53, 54, 55, 56, 57, 58, 59, 60, 61, 62, 63] (by decide +kernel) (by decide +kernel)
set_option maxRecDepth 20000 in
theorem gX9_order_X9_findOrder : GoodIn wsX9_order (wsV RX9 131 RX9 yX9_findOrder wsX9_findOrder) := goodIn_app (goodIn_of _ (by decide +kernel)) ggX9_order_X9_findOrder
set_option maxRecDepth 20000 in
theorem ggX9_order_X9_rowAt : GoodIn wsX9_order wsX9_rowAt := goodIn_r _ [37, 14, 16, 7, 8, 4, 9, 38, 39, 40, 41, 42, 43, 44, 45, 46, 47, 48, 49, 50, 51, 52, 53, 54, 55, 56, 57, 58, 59, 60, 61, 62, 63] (by decide +kernel) (by decide +kernel)
set_option maxRecDepth 20000 in
theorem gX9_order_X9_rowAt : GoodIn wsX9_order (wsV RX9 135 RX9 yX9_rowAt wsX9_rowAt) := goodIn_app (goodIn_of _ (by decide +kernel)) ggX9_order_X9_rowAt
theorem dX9_order_0 : decode cX9_order 0 = .ok (.iload_n 1, 1) := by decide +kernel
theorem dX9_order_1 : decode cX9_order 1 = .ok (.iload_n 2, 1) := by decide +kernel
theorem dX9_order_2 : decode cX9_order 2 = .ok (.invokestatic 112, 3) := by decide +kernel
theorem dX9_order_5 : decode cX9_order 5 = .ok (.ifCond .ne 6, 3) := by decide +kernel
theorem dX9_order_8 : decode cX9_order 8 = .ok (.ldc 73, 2) := by decide +kernel
theorem dX9_order_10 : decode cX9_order 10 = .ok (.ireturn, 1) := by decide +kernel
theorem dX9_order_11 : decode cX9_order 11 = .ok (.aload_n 0, 1) := by decide +kernel
theorem dX9_order_12 : decode cX9_order 12 = .ok (.iload_n 1, 1) := by decide +kernel
theorem dX9_order_13 : decode cX9_order 13 = .ok (.i2l, 1) := by decide +kernel
theorem dX9_order_14 : decode cX9_order 14 = .ok (.iload_n 2, 1) := by decide +kernel
theorem dX9_order_15 : decode cX9_order 15 = .ok (.i2l, 1) := by decide +kernel
theorem dX9_order_16 : decode cX9_order 16 = .ok (.invokevirtual 131, 3) := by decide +kernel
theorem dX9_order_19 : decode cX9_order 19 = .ok (.aload_n 0, 1) := by decide +kernel
theorem dX9_order_20 : decode cX9_order 20 = .ok (.iload_n 3, 1) := by decide +kernel
theorem dX9_order_21 : decode cX9_order 21 = .ok (.invokevirtual 135, 3) := by decide +kernel
theorem dX9_order_24 : decode cX9_order 24 = .ok (.ireturn, 1) := by decide +kernel
set_option maxRecDepth 20000 in
theorem ggX9_kept_X9_findOrder : GoodIn wsX9_kept wsX9_findOrder := goodIn_r _ [6, 7, 8, 9, 10, 11, 12, 5, 13, 14, 15, 16, 17, 18, 19, 20, 21, 22, 23, 24, 25, 26, 34, 35, 36, 37, 38, 39, 40, 41, 42, 43, 44, 45, 46, 47, 48, 49, 50, 51, 52, 53, 54, 55, 56, 57, 58, 59] (by decide +kernel) (by decide +kernel)
set_option maxRecDepth 20000 in
theorem gX9_kept_X9_findOrder : GoodIn wsX9_kept (wsV RX9 131 RX9 yX9_findOrder wsX9_findOrder) := goodIn_app (goodIn_of _ (by decide +kernel)) ggX9_kept_X9_findOrder
set_option maxRecDepth 20000 in
theorem ggX9_kept_X9_rowAt : GoodIn wsX9_kept wsX9_rowAt := goodIn_r _ [30, 7, 9, 31, 32, 5, 33, 34, 35, 36, 37, 38, 39, 40, 41, 42, 43, 44, 45, 46, 47, 48, 49, 50, 51, 52, 53, 54, 55, 56, 57, 58, 59] (by decide +kernel) (by decide +kernel)
set_option maxRecDepth 20000 in
theorem gX9_kept_X9_rowAt : GoodIn wsX9_kept (wsV RX9 135 RX9 yX9_rowAt wsX9_rowAt) := goodIn_app (goodIn_of _ (by decide +kernel)) ggX9_kept_X9_rowAt
theorem dX9_kept_0 : decode cX9_kept 0 = .ok (.aload_n 0, 1) := by decide +kernel
theorem dX9_kept_1 : decode cX9_kept 1 = .ok (.aload_n 0, 1) := by decide +kernel
theorem dX9_kept_2 : decode cX9_kept 2 = .ok (.getfield 75, 3) := by decide +kernel
theorem dX9_kept_5 : decode cX9_kept 5 = .ok (.i2l, 1) := by decide +kernel
theorem dX9_kept_6 : decode cX9_kept 6 = .ok (.lconst 1, 1) := by decide +kernel
theorem dX9_kept_7 : decode cX9_kept 7 = .ok (.invokevirtual 131, 3) := by decide +kernel
theorem dX9_kept_10 : decode cX9_kept 10 = .ok (.aload_n 0, 1) := by decide +kernel
theorem dX9_kept_11 : decode cX9_kept 11 = .ok (.iload_n 1, 1) := by decide +kernel
theorem dX9_kept_12 : decode cX9_kept 12 = .ok (.invokevirtual 135, 3) := by decide +kernel
theorem dX9_kept_15 : decode cX9_kept 15 = .ok (.ireturn, 1) := by decide +kernel
set_option maxRecDepth 20000 in
theorem ggX9_at_X9_isMoment : GoodIn wsX9_at wsX9_isMoment := goodIn_r _ [9, 10, 11, 12, 8, 13] (by decide +kernel) (by decide +kernel)
set_option maxRecDepth 20000 in
theorem gX9_at_X9_isMoment : GoodIn wsX9_at (va_wsS RX9 112 yX9_isMoment wsX9_isMoment) := goodIn_app (goodIn_of _ (by decide +kernel)) ggX9_at_X9_isMoment
set_option maxRecDepth 20000 in
theorem ggX9_at_X9_in : GoodIn wsX9_at wsX9_in := goodIn_r _ [13] (by decide +kernel) (by decide +kernel)
set_option maxRecDepth 20000 in
theorem gX9_at_X9_in : GoodIn wsX9_at (va_wsS RX9 61 yX9_in wsX9_in) := goodIn_app (goodIn_of _ (by decide +kernel)) ggX9_at_X9_in
set_option maxRecDepth 20000 in
theorem ggX9_at_X9_findOrder : GoodIn wsX9_at wsX9_findOrder := goodIn_r _ [17, 4, 18, 5, 19, 20, 21, 8, 22, 23, 24, 25, 26, 27, 28, 29, 30, 31, 32, 33, 34, 35, 40, 41, 42, 43, 44, 45, 46, 47, 48, 49, 50, 51, 52, 53, 54, 55, 56, 57, 58, 59, 60, 61, 62, 63, 64, 65] (by decide +kernel) (by decide +kernel)
set_option maxRecDepth 20000 in
theorem gX9_at_X9_findOrder : GoodIn wsX9_at (wsV RX9 131 RX9 yX9_findOrder wsX9_findOrder) := goodIn_app (goodIn_of _ (by decide +kernel)) ggX9_at_X9_findOrder
set_option maxRecDepth 20000 in
theorem ggX9_at_X9_placeAt : GoodIn wsX9_at wsX9_placeAt := goodIn_r _ [28, 23, 29, 30, 31, 32, 33, 8, 34, 35, 40, 41, 42, 43, 44, 45, 46, 47, 48, 49, 50, 51, 52, 53, 54, 55, 56, 57, 58, 59, 60, 61, 62, 63, 64, 65] (by decide +kernel) (by decide +kernel)
set_option maxRecDepth 20000 in
theorem gX9_at_X9_placeAt : GoodIn wsX9_at (wsV RX9 118 RX9 yX9_placeAt wsX9_placeAt) := goodIn_app (goodIn_of _ (by decide +kernel)) ggX9_at_X9_placeAt
set_option maxRecDepth 20000 in
theorem ggX9_at_X9_rowAt : GoodIn wsX9_at wsX9_rowAt := goodIn_r _ [39, 4, 5, 11, 12, 8, 13, 40, 41, 42, 43, 44, 45, 46, 47, 48, 49, 50, 51, 52, 53, 54, 55, 56, 57, 58, 59, 60, 61, 62, 63, 64, 65] (by decide +kernel) (by decide +kernel)
set_option maxRecDepth 20000 in
theorem gX9_at_X9_rowAt : GoodIn wsX9_at (wsV RX9 135 RX9 yX9_rowAt wsX9_rowAt) := goodIn_app (goodIn_of _ (by decide +kernel)) ggX9_at_X9_rowAt
theorem dX9_at_0 : decode cX9_at 0 = .ok (.iload_n 1, 1) := by decide +kernel
theorem dX9_at_1 : decode cX9_at 1 = .ok (.iload_n 2, 1) := by decide +kernel
theorem dX9_at_2 : decode cX9_at 2 = .ok (.invokestatic 112, 3) := by decide +kernel
theorem dX9_at_5 : decode cX9_at 5 = .ok (.ifCond .eq 28, 3) := by decide +kernel
theorem dX9_at_8 : decode cX9_at 8 = .ok (.iload_n 3, 1) := by decide +kernel
theorem dX9_at_9 : decode cX9_at 9 = .ok (.i2l, 1) := by decide +kernel
theorem dX9_at_10 : decode cX9_at 10 = .ok (.lconst 0, 1) := by decide +kernel
theorem dX9_at_11 : decode cX9_at 11 = .ok (.ldc2_w 138, 3) := by decide +kernel
theorem dX9_at_14 : decode cX9_at 14 = .ok (.invokestatic 61, 3) := by decide +kernel
theorem dX9_at_17 : decode cX9_at 17 = .ok (.ifCond .eq 16, 3) := by decide +kernel
theorem dX9_at_20 : decode cX9_at 20 = .ok (.iload 4, 2) := by decide +kernel
theorem dX9_at_22 : decode cX9_at 22 = .ok (.i2l, 1) := by decide +kernel
theorem dX9_at_23 : decode cX9_at 23 = .ok (.lconst 0, 1) := by decide +kernel
theorem dX9_at_24 : decode cX9_at 24 = .ok (.ldc2_w 140, 3) := by decide +kernel
theorem dX9_at_27 : decode cX9_at 27 = .ok (.invokestatic 61, 3) := by decide +kernel
theorem dX9_at_30 : decode cX9_at 30 = .ok (.ifCond .ne 6, 3) := by decide +kernel
theorem dX9_at_33 : decode cX9_at 33 = .ok (.ldc 73, 2) := by decide +kernel
theorem dX9_at_35 : decode cX9_at 35 = .ok (.ireturn, 1) := by decide +kernel
theorem dX9_at_36 : decode cX9_at 36 = .ok (.aload_n 0, 1) := by decide +kernel
theorem dX9_at_37 : decode cX9_at 37 = .ok (.iload_n 1, 1) := by decide +kernel
theorem dX9_at_38 : decode cX9_at 38 = .ok (.i2l, 1) := by decide +kernel
theorem dX9_at_39 : decode cX9_at 39 = .ok (.iload_n 2, 1) := by decide +kernel
theorem dX9_at_40 : decode cX9_at 40 = .ok (.i2l, 1) := by decide +kernel
theorem dX9_at_41 : decode cX9_at 41 = .ok (.invokevirtual 131, 3) := by decide +kernel
theorem dX9_at_44 : decode cX9_at 44 = .ok (.iconst (-1), 1) := by decide +kernel
theorem dX9_at_45 : decode cX9_at 45 = .ok (.istore 5, 2) := by decide +kernel
theorem dX9_at_47 : decode cX9_at 47 = .ok (.lconst 0, 1) := by decide +kernel
theorem dX9_at_48 : decode cX9_at 48 = .ok (.lstore 6, 2) := by decide +kernel
theorem dX9_at_50 : decode cX9_at 50 = .ok (.aload_n 0, 1) := by decide +kernel
theorem dX9_at_51 : decode cX9_at 51 = .ok (.getfield 128, 3) := by decide +kernel
theorem dX9_at_54 : decode cX9_at 54 = .ok (.ifCond .le 7, 3) := by decide +kernel
theorem dX9_at_57 : decode cX9_at 57 = .ok (.iconst 1, 1) := by decide +kernel
theorem dX9_at_58 : decode cX9_at 58 = .ok (.goto 4, 3) := by decide +kernel
theorem dX9_at_61 : decode cX9_at 61 = .ok (.iconst 0, 1) := by decide +kernel
theorem dX9_at_62 : decode cX9_at 62 = .ok (.istore 8, 2) := by decide +kernel
theorem dX9_at_64 : decode cX9_at 64 = .ok (.iconst 0, 1) := by decide +kernel
theorem dX9_at_65 : decode cX9_at 65 = .ok (.istore 9, 2) := by decide +kernel
theorem dX9_at_67 : decode cX9_at 67 = .ok (.iload 9, 2) := by decide +kernel
theorem dX9_at_69 : decode cX9_at 69 = .ok (.iconst 1, 1) := by decide +kernel
theorem dX9_at_70 : decode cX9_at 70 = .ok (.iadd, 1) := by decide +kernel
theorem dX9_at_71 : decode cX9_at 71 = .ok (.aload_n 0, 1) := by decide +kernel
theorem dX9_at_72 : decode cX9_at 72 = .ok (.getfield 128, 3) := by decide +kernel
theorem dX9_at_75 : decode cX9_at 75 = .ok (.if_icmp .ge 87, 3) := by decide +kernel
theorem dX9_at_78 : decode cX9_at 78 = .ok (.aload_n 0, 1) := by decide +kernel
theorem dX9_at_79 : decode cX9_at 79 = .ok (.aload_n 0, 1) := by decide +kernel
theorem dX9_at_80 : decode cX9_at 80 = .ok (.getfield 25, 3) := by decide +kernel
theorem dX9_at_83 : decode cX9_at 83 = .ok (.iload 9, 2) := by decide +kernel
theorem dX9_at_85 : decode cX9_at 85 = .ok (.iconst 1, 1) := by decide +kernel
theorem dX9_at_86 : decode cX9_at 86 = .ok (.iadd, 1) := by decide +kernel
theorem dX9_at_87 : decode cX9_at 87 = .ok (.iaload, 1) := by decide +kernel
theorem dX9_at_88 : decode cX9_at 88 = .ok (.iload_n 1, 1) := by decide +kernel
theorem dX9_at_89 : decode cX9_at 89 = .ok (.i2l, 1) := by decide +kernel
theorem dX9_at_90 : decode cX9_at 90 = .ok (.iload_n 2, 1) := by decide +kernel
theorem dX9_at_91 : decode cX9_at 91 = .ok (.i2l, 1) := by decide +kernel
theorem dX9_at_92 : decode cX9_at 92 = .ok (.invokevirtual 118, 3) := by decide +kernel
theorem dX9_at_95 : decode cX9_at 95 = .ok (.aload_n 0, 1) := by decide +kernel
theorem dX9_at_96 : decode cX9_at 96 = .ok (.aload_n 0, 1) := by decide +kernel
theorem dX9_at_97 : decode cX9_at 97 = .ok (.getfield 25, 3) := by decide +kernel
theorem dX9_at_100 : decode cX9_at 100 = .ok (.iload 9, 2) := by decide +kernel
theorem dX9_at_102 : decode cX9_at 102 = .ok (.iaload, 1) := by decide +kernel
theorem dX9_at_103 : decode cX9_at 103 = .ok (.iload_n 1, 1) := by decide +kernel
theorem dX9_at_104 : decode cX9_at 104 = .ok (.i2l, 1) := by decide +kernel
theorem dX9_at_105 : decode cX9_at 105 = .ok (.iload_n 2, 1) := by decide +kernel
theorem dX9_at_106 : decode cX9_at 106 = .ok (.i2l, 1) := by decide +kernel
theorem dX9_at_107 : decode cX9_at 107 = .ok (.invokevirtual 118, 3) := by decide +kernel
theorem dX9_at_110 : decode cX9_at 110 = .ok (.lsub, 1) := by decide +kernel
theorem dX9_at_111 : decode cX9_at 111 = .ok (.lstore 10, 2) := by decide +kernel
theorem dX9_at_113 : decode cX9_at 113 = .ok (.iload 8, 2) := by decide +kernel
theorem dX9_at_115 : decode cX9_at 115 = .ok (.lload 10, 2) := by decide +kernel
theorem dX9_at_117 : decode cX9_at 117 = .ok (.iload 4, 2) := by decide +kernel
theorem dX9_at_119 : decode cX9_at 119 = .ok (.i2l, 1) := by decide +kernel
theorem dX9_at_120 : decode cX9_at 120 = .ok (.iload_n 2, 1) := by decide +kernel
theorem dX9_at_121 : decode cX9_at 121 = .ok (.i2l, 1) := by decide +kernel
theorem dX9_at_122 : decode cX9_at 122 = .ok (.lmul, 1) := by decide +kernel
theorem dX9_at_123 : decode cX9_at 123 = .ok (.lcmp, 1) := by decide +kernel
theorem dX9_at_124 : decode cX9_at 124 = .ok (.ifCond .le 7, 3) := by decide +kernel
theorem dX9_at_127 : decode cX9_at 127 = .ok (.iconst 1, 1) := by decide +kernel
theorem dX9_at_128 : decode cX9_at 128 = .ok (.goto 4, 3) := by decide +kernel
theorem dX9_at_131 : decode cX9_at 131 = .ok (.iconst 0, 1) := by decide +kernel
theorem dX9_at_132 : decode cX9_at 132 = .ok (.iadd, 1) := by decide +kernel
theorem dX9_at_133 : decode cX9_at 133 = .ok (.istore 8, 2) := by decide +kernel
theorem dX9_at_135 : decode cX9_at 135 = .ok (.iload 5, 2) := by decide +kernel
theorem dX9_at_137 : decode cX9_at 137 = .ok (.ifCond .lt 11, 3) := by decide +kernel
theorem dX9_at_140 : decode cX9_at 140 = .ok (.lload 10, 2) := by decide +kernel
theorem dX9_at_142 : decode cX9_at 142 = .ok (.lload 6, 2) := by decide +kernel
theorem dX9_at_144 : decode cX9_at 144 = .ok (.lcmp, 1) := by decide +kernel
theorem dX9_at_145 : decode cX9_at 145 = .ok (.ifCond .ge 11, 3) := by decide +kernel
theorem dX9_at_148 : decode cX9_at 148 = .ok (.iload 9, 2) := by decide +kernel
theorem dX9_at_150 : decode cX9_at 150 = .ok (.istore 5, 2) := by decide +kernel
theorem dX9_at_152 : decode cX9_at 152 = .ok (.lload 10, 2) := by decide +kernel
theorem dX9_at_154 : decode cX9_at 154 = .ok (.lstore 6, 2) := by decide +kernel
theorem dX9_at_156 : decode cX9_at 156 = .ok (.iinc 9 1, 3) := by decide +kernel
theorem dX9_at_159 : decode cX9_at 159 = .ok (.goto (-92), 3) := by decide +kernel
theorem dX9_at_162 : decode cX9_at 162 = .ok (.iload_n 3, 1) := by decide +kernel
theorem dX9_at_163 : decode cX9_at 163 = .ok (.tableswitch 81 0 3 #[29, 34, 45, 62], 29) := by decide +kernel
theorem dX9_at_192 : decode cX9_at 192 = .ok (.aload_n 0, 1) := by decide +kernel
theorem dX9_at_193 : decode cX9_at 193 = .ok (.getfield 128, 3) := by decide +kernel
theorem dX9_at_196 : decode cX9_at 196 = .ok (.ireturn, 1) := by decide +kernel
theorem dX9_at_197 : decode cX9_at 197 = .ok (.aload_n 0, 1) := by decide +kernel
theorem dX9_at_198 : decode cX9_at 198 = .ok (.aload_n 0, 1) := by decide +kernel
theorem dX9_at_199 : decode cX9_at 199 = .ok (.getfield 128, 3) := by decide +kernel
theorem dX9_at_202 : decode cX9_at 202 = .ok (.iconst 1, 1) := by decide +kernel
theorem dX9_at_203 : decode cX9_at 203 = .ok (.isub, 1) := by decide +kernel
theorem dX9_at_204 : decode cX9_at 204 = .ok (.invokevirtual 135, 3) := by decide +kernel
theorem dX9_at_207 : decode cX9_at 207 = .ok (.ireturn, 1) := by decide +kernel
theorem dX9_at_208 : decode cX9_at 208 = .ok (.iload 5, 2) := by decide +kernel
theorem dX9_at_210 : decode cX9_at 210 = .ok (.ifCond .ge 7, 3) := by decide +kernel
theorem dX9_at_213 : decode cX9_at 213 = .ok (.iconst (-1), 1) := by decide +kernel
theorem dX9_at_214 : decode cX9_at 214 = .ok (.goto 10, 3) := by decide +kernel
theorem dX9_at_217 : decode cX9_at 217 = .ok (.aload_n 0, 1) := by decide +kernel
theorem dX9_at_218 : decode cX9_at 218 = .ok (.getfield 25, 3) := by decide +kernel
theorem dX9_at_221 : decode cX9_at 221 = .ok (.iload 5, 2) := by decide +kernel
theorem dX9_at_223 : decode cX9_at 223 = .ok (.iaload, 1) := by decide +kernel
theorem dX9_at_224 : decode cX9_at 224 = .ok (.ireturn, 1) := by decide +kernel
theorem dX9_at_225 : decode cX9_at 225 = .ok (.iload 5, 2) := by decide +kernel
theorem dX9_at_227 : decode cX9_at 227 = .ok (.ifCond .ge 7, 3) := by decide +kernel
theorem dX9_at_230 : decode cX9_at 230 = .ok (.iconst (-1), 1) := by decide +kernel
theorem dX9_at_231 : decode cX9_at 231 = .ok (.goto 12, 3) := by decide +kernel
theorem dX9_at_234 : decode cX9_at 234 = .ok (.aload_n 0, 1) := by decide +kernel
theorem dX9_at_235 : decode cX9_at 235 = .ok (.getfield 25, 3) := by decide +kernel
theorem dX9_at_238 : decode cX9_at 238 = .ok (.iload 5, 2) := by decide +kernel
theorem dX9_at_240 : decode cX9_at 240 = .ok (.iconst 1, 1) := by decide +kernel
theorem dX9_at_241 : decode cX9_at 241 = .ok (.iadd, 1) := by decide +kernel
theorem dX9_at_242 : decode cX9_at 242 = .ok (.iaload, 1) := by decide +kernel
theorem dX9_at_243 : decode cX9_at 243 = .ok (.ireturn, 1) := by decide +kernel
theorem dX9_at_244 : decode cX9_at 244 = .ok (.iload 8, 2) := by decide +kernel
theorem dX9_at_246 : decode cX9_at 246 = .ok (.ireturn, 1) := by decide +kernel
theorem dX9_most_0 : decode cX9_most 0 = .ok (.iload_n 0, 1) := by decide +kernel
theorem dX9_most_1 : decode cX9_most 1 = .ok (.iload_n 1, 1) := by decide +kernel
theorem dX9_most_2 : decode cX9_most 2 = .ok (.if_icmp .le 7, 3) := by decide +kernel
theorem dX9_most_5 : decode cX9_most 5 = .ok (.iload_n 0, 1) := by decide +kernel
theorem dX9_most_6 : decode cX9_most 6 = .ok (.goto 4, 3) := by decide +kernel
theorem dX9_most_9 : decode cX9_most 9 = .ok (.iload_n 1, 1) := by decide +kernel
theorem dX9_most_10 : decode cX9_most 10 = .ok (.ireturn, 1) := by decide +kernel
theorem dX9_least_0 : decode cX9_least 0 = .ok (.iload_n 0, 1) := by decide +kernel
theorem dX9_least_1 : decode cX9_least 1 = .ok (.iload_n 1, 1) := by decide +kernel
theorem dX9_least_2 : decode cX9_least 2 = .ok (.if_icmp .ge 7, 3) := by decide +kernel
theorem dX9_least_5 : decode cX9_least 5 = .ok (.iload_n 0, 1) := by decide +kernel
theorem dX9_least_6 : decode cX9_least 6 = .ok (.goto 4, 3) := by decide +kernel
theorem dX9_least_9 : decode cX9_least 9 = .ok (.iload_n 1, 1) := by decide +kernel
theorem dX9_least_10 : decode cX9_least 10 = .ok (.ireturn, 1) := by decide +kernel
set_option maxRecDepth 20000 in
theorem ggX9_endOf_X9_latest : GoodIn wsX9_endOf wsX9_latest := goodIn_r _ [8, 9, 13, 14, 15, 16, 17, 18, 19, 20, 21, 22, 23, 24, 25, 26, 27, 28, 29, 30, 31, 32, 33, 34, 35, 36, 37, 38] (by decide +kernel) (by decide +kernel)
set_option maxRecDepth 20000 in
theorem gX9_endOf_X9_latest : GoodIn wsX9_endOf (wsV RX9 84 RX9 yX9_latest wsX9_latest) := goodIn_app (goodIn_of _ (by decide +kernel)) ggX9_endOf_X9_latest
set_option maxRecDepth 20000 in
theorem ggX9_endOf_X9_least : GoodIn wsX9_endOf wsX9_least := goodIn_r _ [12] (by decide +kernel) (by decide +kernel)
set_option maxRecDepth 20000 in
theorem gX9_endOf_X9_least : GoodIn wsX9_endOf (va_wsS RX9 143 yX9_least wsX9_least) := goodIn_app (goodIn_of _ (by decide +kernel)) ggX9_endOf_X9_least
theorem dX9_endOf_0 : decode cX9_endOf 0 = .ok (.iload_n 2, 1) := by decide +kernel
theorem dX9_endOf_1 : decode cX9_endOf 1 = .ok (.aload_n 0, 1) := by decide +kernel
theorem dX9_endOf_2 : decode cX9_endOf 2 = .ok (.iload_n 1, 1) := by decide +kernel
theorem dX9_endOf_3 : decode cX9_endOf 3 = .ok (.invokevirtual 84, 3) := by decide +kernel
theorem dX9_endOf_6 : decode cX9_endOf 6 = .ok (.if_icmp .ge 14, 3) := by decide +kernel
theorem dX9_endOf_9 : decode cX9_endOf 9 = .ok (.aload_n 0, 1) := by decide +kernel
theorem dX9_endOf_10 : decode cX9_endOf 10 = .ok (.getfield 16, 3) := by decide +kernel
theorem dX9_endOf_13 : decode cX9_endOf 13 = .ok (.iload_n 2, 1) := by decide +kernel
theorem dX9_endOf_14 : decode cX9_endOf 14 = .ok (.iconst 1, 1) := by decide +kernel
theorem dX9_endOf_15 : decode cX9_endOf 15 = .ok (.iadd, 1) := by decide +kernel
theorem dX9_endOf_16 : decode cX9_endOf 16 = .ok (.iaload, 1) := by decide +kernel
theorem dX9_endOf_17 : decode cX9_endOf 17 = .ok (.goto 5, 3) := by decide +kernel
theorem dX9_endOf_20 : decode cX9_endOf 20 = .ok (.ldc 142, 2) := by decide +kernel
theorem dX9_endOf_22 : decode cX9_endOf 22 = .ok (.istore_n 3, 1) := by decide +kernel
theorem dX9_endOf_23 : decode cX9_endOf 23 = .ok (.aload_n 0, 1) := by decide +kernel
theorem dX9_endOf_24 : decode cX9_endOf 24 = .ok (.getfield 7, 3) := by decide +kernel
theorem dX9_endOf_27 : decode cX9_endOf 27 = .ok (.iload_n 1, 1) := by decide +kernel
theorem dX9_endOf_28 : decode cX9_endOf 28 = .ok (.iaload, 1) := by decide +kernel
theorem dX9_endOf_29 : decode cX9_endOf 29 = .ok (.ifCond .lt 16, 3) := by decide +kernel
theorem dX9_endOf_32 : decode cX9_endOf 32 = .ok (.iload_n 3, 1) := by decide +kernel
theorem dX9_endOf_33 : decode cX9_endOf 33 = .ok (.aload_n 0, 1) := by decide +kernel
theorem dX9_endOf_34 : decode cX9_endOf 34 = .ok (.getfield 7, 3) := by decide +kernel
theorem dX9_endOf_37 : decode cX9_endOf 37 = .ok (.iload_n 1, 1) := by decide +kernel
theorem dX9_endOf_38 : decode cX9_endOf 38 = .ok (.iaload, 1) := by decide +kernel
theorem dX9_endOf_39 : decode cX9_endOf 39 = .ok (.invokestatic 143, 3) := by decide +kernel
theorem dX9_endOf_42 : decode cX9_endOf 42 = .ok (.goto 4, 3) := by decide +kernel
theorem dX9_endOf_45 : decode cX9_endOf 45 = .ok (.iload_n 3, 1) := by decide +kernel
theorem dX9_endOf_46 : decode cX9_endOf 46 = .ok (.ireturn, 1) := by decide +kernel
set_option maxRecDepth 20000 in
theorem ggX9_slopeBehind_X9_latest : GoodIn wsX9_slopeBehind wsX9_latest := goodIn_r _ [7, 8, 9, 10, 11, 12, 13, 14, 15, 16, 17, 18, 19, 20, 21, 22, 23, 24, 25, 26, 27, 28, 29, 30, 31, 32, 33, 34] (by decide +kernel) (by decide +kernel)
set_option maxRecDepth 20000 in
theorem gX9_slopeBehind_X9_latest : GoodIn wsX9_slopeBehind (wsV RX9 84 RX9 yX9_latest wsX9_latest) := goodIn_app (goodIn_of _ (by decide +kernel)) ggX9_slopeBehind_X9_latest
theorem dX9_slopeBehind_0 : decode cX9_slopeBehind 0 = .ok (.aload_n 0, 1) := by decide +kernel
theorem dX9_slopeBehind_1 : decode cX9_slopeBehind 1 = .ok (.iload_n 1, 1) := by decide +kernel
theorem dX9_slopeBehind_2 : decode cX9_slopeBehind 2 = .ok (.invokevirtual 84, 3) := by decide +kernel
theorem dX9_slopeBehind_5 : decode cX9_slopeBehind 5 = .ok (.istore 5, 2) := by decide +kernel
theorem dX9_slopeBehind_7 : decode cX9_slopeBehind 7 = .ok (.aload_n 0, 1) := by decide +kernel
theorem dX9_slopeBehind_8 : decode cX9_slopeBehind 8 = .ok (.getfield 16, 3) := by decide +kernel
theorem dX9_slopeBehind_11 : decode cX9_slopeBehind 11 = .ok (.iload 5, 2) := by decide +kernel
theorem dX9_slopeBehind_13 : decode cX9_slopeBehind 13 = .ok (.iaload, 1) := by decide +kernel
theorem dX9_slopeBehind_14 : decode cX9_slopeBehind 14 = .ok (.i2l, 1) := by decide +kernel
theorem dX9_slopeBehind_15 : decode cX9_slopeBehind 15 = .ok (.lload_n 3, 1) := by decide +kernel
theorem dX9_slopeBehind_16 : decode cX9_slopeBehind 16 = .ok (.lcmp, 1) := by decide +kernel
theorem dX9_slopeBehind_17 : decode cX9_slopeBehind 17 = .ok (.ifCond .le 9, 3) := by decide +kernel
theorem dX9_slopeBehind_20 : decode cX9_slopeBehind 20 = .ok (.iinc 5 (-1), 3) := by decide +kernel
theorem dX9_slopeBehind_23 : decode cX9_slopeBehind 23 = .ok (.goto (-16), 3) := by decide +kernel
theorem dX9_slopeBehind_26 : decode cX9_slopeBehind 26 = .ok (.aload_n 0, 1) := by decide +kernel
theorem dX9_slopeBehind_27 : decode cX9_slopeBehind 27 = .ok (.iload_n 2, 1) := by decide +kernel
theorem dX9_slopeBehind_28 : decode cX9_slopeBehind 28 = .ok (.invokevirtual 84, 3) := by decide +kernel
theorem dX9_slopeBehind_31 : decode cX9_slopeBehind 31 = .ok (.istore 6, 2) := by decide +kernel
theorem dX9_slopeBehind_33 : decode cX9_slopeBehind 33 = .ok (.aload_n 0, 1) := by decide +kernel
theorem dX9_slopeBehind_34 : decode cX9_slopeBehind 34 = .ok (.getfield 16, 3) := by decide +kernel
theorem dX9_slopeBehind_37 : decode cX9_slopeBehind 37 = .ok (.iload 6, 2) := by decide +kernel
theorem dX9_slopeBehind_39 : decode cX9_slopeBehind 39 = .ok (.iaload, 1) := by decide +kernel
theorem dX9_slopeBehind_40 : decode cX9_slopeBehind 40 = .ok (.i2l, 1) := by decide +kernel
theorem dX9_slopeBehind_41 : decode cX9_slopeBehind 41 = .ok (.lload_n 3, 1) := by decide +kernel
theorem dX9_slopeBehind_42 : decode cX9_slopeBehind 42 = .ok (.lcmp, 1) := by decide +kernel
theorem dX9_slopeBehind_43 : decode cX9_slopeBehind 43 = .ok (.ifCond .le 9, 3) := by decide +kernel
theorem dX9_slopeBehind_46 : decode cX9_slopeBehind 46 = .ok (.iinc 6 (-1), 3) := by decide +kernel
theorem dX9_slopeBehind_49 : decode cX9_slopeBehind 49 = .ok (.goto (-16), 3) := by decide +kernel
theorem dX9_slopeBehind_52 : decode cX9_slopeBehind 52 = .ok (.aload_n 0, 1) := by decide +kernel
theorem dX9_slopeBehind_53 : decode cX9_slopeBehind 53 = .ok (.getfield 22, 3) := by decide +kernel
theorem dX9_slopeBehind_56 : decode cX9_slopeBehind 56 = .ok (.iload 5, 2) := by decide +kernel
theorem dX9_slopeBehind_58 : decode cX9_slopeBehind 58 = .ok (.iaload, 1) := by decide +kernel
theorem dX9_slopeBehind_59 : decode cX9_slopeBehind 59 = .ok (.aload_n 0, 1) := by decide +kernel
theorem dX9_slopeBehind_60 : decode cX9_slopeBehind 60 = .ok (.getfield 22, 3) := by decide +kernel
theorem dX9_slopeBehind_63 : decode cX9_slopeBehind 63 = .ok (.iload 6, 2) := by decide +kernel
theorem dX9_slopeBehind_65 : decode cX9_slopeBehind 65 = .ok (.iaload, 1) := by decide +kernel
theorem dX9_slopeBehind_66 : decode cX9_slopeBehind 66 = .ok (.isub, 1) := by decide +kernel
theorem dX9_slopeBehind_67 : decode cX9_slopeBehind 67 = .ok (.ireturn, 1) := by decide +kernel
set_option maxRecDepth 20000 in
theorem ggX9_isThereBoth_X9_isThere : GoodIn wsX9_isThereBoth wsX9_isThere := goodIn_r _ [5, 6, 7, 8, 9, 10, 11, 12, 13, 14, 15, 16, 17, 18, 19, 20, 21, 22, 23, 24, 25, 26, 27, 28, 29, 30, 31, 32, 33] (by decide +kernel) (by decide +kernel)
set_option maxRecDepth 20000 in
theorem gX9_isThereBoth_X9_isThere : GoodIn wsX9_isThereBoth (wsV RX9 90 RX9 yX9_isThere wsX9_isThere) := goodIn_app (goodIn_of _ (by decide +kernel)) ggX9_isThereBoth_X9_isThere
theorem dX9_isThereBoth_0 : decode cX9_isThereBoth 0 = .ok (.aload_n 0, 1) := by decide +kernel
theorem dX9_isThereBoth_1 : decode cX9_isThereBoth 1 = .ok (.iload_n 1, 1) := by decide +kernel
theorem dX9_isThereBoth_2 : decode cX9_isThereBoth 2 = .ok (.lload_n 3, 1) := by decide +kernel
theorem dX9_isThereBoth_3 : decode cX9_isThereBoth 3 = .ok (.lload 5, 2) := by decide +kernel
theorem dX9_isThereBoth_5 : decode cX9_isThereBoth 5 = .ok (.invokevirtual 90, 3) := by decide +kernel
theorem dX9_isThereBoth_8 : decode cX9_isThereBoth 8 = .ok (.ifCond .eq 18, 3) := by decide +kernel
theorem dX9_isThereBoth_11 : decode cX9_isThereBoth 11 = .ok (.aload_n 0, 1) := by decide +kernel
theorem dX9_isThereBoth_12 : decode cX9_isThereBoth 12 = .ok (.iload_n 2, 1) := by decide +kernel
theorem dX9_isThereBoth_13 : decode cX9_isThereBoth 13 = .ok (.lload_n 3, 1) := by decide +kernel
theorem dX9_isThereBoth_14 : decode cX9_isThereBoth 14 = .ok (.lload 5, 2) := by decide +kernel
theorem dX9_isThereBoth_16 : decode cX9_isThereBoth 16 = .ok (.invokevirtual 90, 3) := by decide +kernel
theorem dX9_isThereBoth_19 : decode cX9_isThereBoth 19 = .ok (.ifCond .eq 7, 3) := by decide +kernel
theorem dX9_isThereBoth_22 : decode cX9_isThereBoth 22 = .ok (.iconst 1, 1) := by decide +kernel
theorem dX9_isThereBoth_23 : decode cX9_isThereBoth 23 = .ok (.goto 4, 3) := by decide +kernel
theorem dX9_isThereBoth_26 : decode cX9_isThereBoth 26 = .ok (.iconst 0, 1) := by decide +kernel
theorem dX9_isThereBoth_27 : decode cX9_isThereBoth 27 = .ok (.ireturn, 1) := by decide +kernel
theorem dX9_addMeeting_0 : decode cX9_addMeeting 0 = .ok (.aload_n 0, 1) := by decide +kernel
theorem dX9_addMeeting_1 : decode cX9_addMeeting 1 = .ok (.getfield 97, 3) := by decide +kernel
theorem dX9_addMeeting_4 : decode cX9_addMeeting 4 = .ok (.istore 8, 2) := by decide +kernel
theorem dX9_addMeeting_6 : decode cX9_addMeeting 6 = .ok (.iload 8, 2) := by decide +kernel
theorem dX9_addMeeting_8 : decode cX9_addMeeting 8 = .ok (.ifCond .le 115, 3) := by decide +kernel
theorem dX9_addMeeting_11 : decode cX9_addMeeting 11 = .ok (.lload_n 1, 1) := by decide +kernel
theorem dX9_addMeeting_12 : decode cX9_addMeeting 12 = .ok (.aload_n 0, 1) := by decide +kernel
theorem dX9_addMeeting_13 : decode cX9_addMeeting 13 = .ok (.getfield 32, 3) := by decide +kernel
theorem dX9_addMeeting_16 : decode cX9_addMeeting 16 = .ok (.iload 8, 2) := by decide +kernel
theorem dX9_addMeeting_18 : decode cX9_addMeeting 18 = .ok (.iconst 1, 1) := by decide +kernel
theorem dX9_addMeeting_19 : decode cX9_addMeeting 19 = .ok (.isub, 1) := by decide +kernel
theorem dX9_addMeeting_20 : decode cX9_addMeeting 20 = .ok (.laload, 1) := by decide +kernel
theorem dX9_addMeeting_21 : decode cX9_addMeeting 21 = .ok (.lmul, 1) := by decide +kernel
theorem dX9_addMeeting_22 : decode cX9_addMeeting 22 = .ok (.aload_n 0, 1) := by decide +kernel
theorem dX9_addMeeting_23 : decode cX9_addMeeting 23 = .ok (.getfield 28, 3) := by decide +kernel
theorem dX9_addMeeting_26 : decode cX9_addMeeting 26 = .ok (.iload 8, 2) := by decide +kernel
theorem dX9_addMeeting_28 : decode cX9_addMeeting 28 = .ok (.iconst 1, 1) := by decide +kernel
theorem dX9_addMeeting_29 : decode cX9_addMeeting 29 = .ok (.isub, 1) := by decide +kernel
theorem dX9_addMeeting_30 : decode cX9_addMeeting 30 = .ok (.laload, 1) := by decide +kernel
theorem dX9_addMeeting_31 : decode cX9_addMeeting 31 = .ok (.lload_n 3, 1) := by decide +kernel
theorem dX9_addMeeting_32 : decode cX9_addMeeting 32 = .ok (.lmul, 1) := by decide +kernel
theorem dX9_addMeeting_33 : decode cX9_addMeeting 33 = .ok (.lcmp, 1) := by decide +kernel
theorem dX9_addMeeting_34 : decode cX9_addMeeting 34 = .ok (.ifCond .ge 89, 3) := by decide +kernel
theorem dX9_addMeeting_37 : decode cX9_addMeeting 37 = .ok (.aload_n 0, 1) := by decide +kernel
theorem dX9_addMeeting_38 : decode cX9_addMeeting 38 = .ok (.getfield 28, 3) := by decide +kernel
theorem dX9_addMeeting_41 : decode cX9_addMeeting 41 = .ok (.iload 8, 2) := by decide +kernel
theorem dX9_addMeeting_43 : decode cX9_addMeeting 43 = .ok (.aload_n 0, 1) := by decide +kernel
theorem dX9_addMeeting_44 : decode cX9_addMeeting 44 = .ok (.getfield 28, 3) := by decide +kernel
theorem dX9_addMeeting_47 : decode cX9_addMeeting 47 = .ok (.iload 8, 2) := by decide +kernel
theorem dX9_addMeeting_49 : decode cX9_addMeeting 49 = .ok (.iconst 1, 1) := by decide +kernel
theorem dX9_addMeeting_50 : decode cX9_addMeeting 50 = .ok (.isub, 1) := by decide +kernel
theorem dX9_addMeeting_51 : decode cX9_addMeeting 51 = .ok (.laload, 1) := by decide +kernel
theorem dX9_addMeeting_52 : decode cX9_addMeeting 52 = .ok (.lastore, 1) := by decide +kernel
theorem dX9_addMeeting_53 : decode cX9_addMeeting 53 = .ok (.aload_n 0, 1) := by decide +kernel
theorem dX9_addMeeting_54 : decode cX9_addMeeting 54 = .ok (.getfield 32, 3) := by decide +kernel
theorem dX9_addMeeting_57 : decode cX9_addMeeting 57 = .ok (.iload 8, 2) := by decide +kernel
theorem dX9_addMeeting_59 : decode cX9_addMeeting 59 = .ok (.aload_n 0, 1) := by decide +kernel
theorem dX9_addMeeting_60 : decode cX9_addMeeting 60 = .ok (.getfield 32, 3) := by decide +kernel
theorem dX9_addMeeting_63 : decode cX9_addMeeting 63 = .ok (.iload 8, 2) := by decide +kernel
theorem dX9_addMeeting_65 : decode cX9_addMeeting 65 = .ok (.iconst 1, 1) := by decide +kernel
theorem dX9_addMeeting_66 : decode cX9_addMeeting 66 = .ok (.isub, 1) := by decide +kernel
theorem dX9_addMeeting_67 : decode cX9_addMeeting 67 = .ok (.laload, 1) := by decide +kernel
theorem dX9_addMeeting_68 : decode cX9_addMeeting 68 = .ok (.lastore, 1) := by decide +kernel
theorem dX9_addMeeting_69 : decode cX9_addMeeting 69 = .ok (.aload_n 0, 1) := by decide +kernel
theorem dX9_addMeeting_70 : decode cX9_addMeeting 70 = .ok (.getfield 35, 3) := by decide +kernel
theorem dX9_addMeeting_73 : decode cX9_addMeeting 73 = .ok (.iload 8, 2) := by decide +kernel
theorem dX9_addMeeting_75 : decode cX9_addMeeting 75 = .ok (.aload_n 0, 1) := by decide +kernel
theorem dX9_addMeeting_76 : decode cX9_addMeeting 76 = .ok (.getfield 35, 3) := by decide +kernel
theorem dX9_addMeeting_79 : decode cX9_addMeeting 79 = .ok (.iload 8, 2) := by decide +kernel
theorem dX9_addMeeting_81 : decode cX9_addMeeting 81 = .ok (.iconst 1, 1) := by decide +kernel
theorem dX9_addMeeting_82 : decode cX9_addMeeting 82 = .ok (.isub, 1) := by decide +kernel
theorem dX9_addMeeting_83 : decode cX9_addMeeting 83 = .ok (.iaload, 1) := by decide +kernel
theorem dX9_addMeeting_84 : decode cX9_addMeeting 84 = .ok (.iastore, 1) := by decide +kernel
theorem dX9_addMeeting_85 : decode cX9_addMeeting 85 = .ok (.aload_n 0, 1) := by decide +kernel
theorem dX9_addMeeting_86 : decode cX9_addMeeting 86 = .ok (.getfield 38, 3) := by decide +kernel
theorem dX9_addMeeting_89 : decode cX9_addMeeting 89 = .ok (.iload 8, 2) := by decide +kernel
theorem dX9_addMeeting_91 : decode cX9_addMeeting 91 = .ok (.aload_n 0, 1) := by decide +kernel
theorem dX9_addMeeting_92 : decode cX9_addMeeting 92 = .ok (.getfield 38, 3) := by decide +kernel
theorem dX9_addMeeting_95 : decode cX9_addMeeting 95 = .ok (.iload 8, 2) := by decide +kernel
theorem dX9_addMeeting_97 : decode cX9_addMeeting 97 = .ok (.iconst 1, 1) := by decide +kernel
theorem dX9_addMeeting_98 : decode cX9_addMeeting 98 = .ok (.isub, 1) := by decide +kernel
theorem dX9_addMeeting_99 : decode cX9_addMeeting 99 = .ok (.iaload, 1) := by decide +kernel
theorem dX9_addMeeting_100 : decode cX9_addMeeting 100 = .ok (.iastore, 1) := by decide +kernel
theorem dX9_addMeeting_101 : decode cX9_addMeeting 101 = .ok (.aload_n 0, 1) := by decide +kernel
theorem dX9_addMeeting_102 : decode cX9_addMeeting 102 = .ok (.getfield 41, 3) := by decide +kernel
theorem dX9_addMeeting_105 : decode cX9_addMeeting 105 = .ok (.iload 8, 2) := by decide +kernel
theorem dX9_addMeeting_107 : decode cX9_addMeeting 107 = .ok (.aload_n 0, 1) := by decide +kernel
theorem dX9_addMeeting_108 : decode cX9_addMeeting 108 = .ok (.getfield 41, 3) := by decide +kernel
theorem dX9_addMeeting_111 : decode cX9_addMeeting 111 = .ok (.iload 8, 2) := by decide +kernel
theorem dX9_addMeeting_113 : decode cX9_addMeeting 113 = .ok (.iconst 1, 1) := by decide +kernel
theorem dX9_addMeeting_114 : decode cX9_addMeeting 114 = .ok (.isub, 1) := by decide +kernel
theorem dX9_addMeeting_115 : decode cX9_addMeeting 115 = .ok (.baload, 1) := by decide +kernel
theorem dX9_addMeeting_116 : decode cX9_addMeeting 116 = .ok (.bastore, 1) := by decide +kernel
theorem dX9_addMeeting_117 : decode cX9_addMeeting 117 = .ok (.iinc 8 (-1), 3) := by decide +kernel
theorem dX9_addMeeting_120 : decode cX9_addMeeting 120 = .ok (.goto (-114), 3) := by decide +kernel
theorem dX9_addMeeting_123 : decode cX9_addMeeting 123 = .ok (.aload_n 0, 1) := by decide +kernel
theorem dX9_addMeeting_124 : decode cX9_addMeeting 124 = .ok (.getfield 28, 3) := by decide +kernel
theorem dX9_addMeeting_127 : decode cX9_addMeeting 127 = .ok (.iload 8, 2) := by decide +kernel
theorem dX9_addMeeting_129 : decode cX9_addMeeting 129 = .ok (.lload_n 1, 1) := by decide +kernel
theorem dX9_addMeeting_130 : decode cX9_addMeeting 130 = .ok (.lastore, 1) := by decide +kernel
theorem dX9_addMeeting_131 : decode cX9_addMeeting 131 = .ok (.aload_n 0, 1) := by decide +kernel
theorem dX9_addMeeting_132 : decode cX9_addMeeting 132 = .ok (.getfield 32, 3) := by decide +kernel
theorem dX9_addMeeting_135 : decode cX9_addMeeting 135 = .ok (.iload 8, 2) := by decide +kernel
theorem dX9_addMeeting_137 : decode cX9_addMeeting 137 = .ok (.lload_n 3, 1) := by decide +kernel
theorem dX9_addMeeting_138 : decode cX9_addMeeting 138 = .ok (.lastore, 1) := by decide +kernel
theorem dX9_addMeeting_139 : decode cX9_addMeeting 139 = .ok (.aload_n 0, 1) := by decide +kernel
theorem dX9_addMeeting_140 : decode cX9_addMeeting 140 = .ok (.getfield 35, 3) := by decide +kernel
theorem dX9_addMeeting_143 : decode cX9_addMeeting 143 = .ok (.iload 8, 2) := by decide +kernel
theorem dX9_addMeeting_145 : decode cX9_addMeeting 145 = .ok (.iload 5, 2) := by decide +kernel
theorem dX9_addMeeting_147 : decode cX9_addMeeting 147 = .ok (.iastore, 1) := by decide +kernel
theorem dX9_addMeeting_148 : decode cX9_addMeeting 148 = .ok (.aload_n 0, 1) := by decide +kernel
theorem dX9_addMeeting_149 : decode cX9_addMeeting 149 = .ok (.getfield 38, 3) := by decide +kernel
theorem dX9_addMeeting_152 : decode cX9_addMeeting 152 = .ok (.iload 8, 2) := by decide +kernel
theorem dX9_addMeeting_154 : decode cX9_addMeeting 154 = .ok (.iload 6, 2) := by decide +kernel
theorem dX9_addMeeting_156 : decode cX9_addMeeting 156 = .ok (.iastore, 1) := by decide +kernel
theorem dX9_addMeeting_157 : decode cX9_addMeeting 157 = .ok (.aload_n 0, 1) := by decide +kernel
theorem dX9_addMeeting_158 : decode cX9_addMeeting 158 = .ok (.getfield 41, 3) := by decide +kernel
theorem dX9_addMeeting_161 : decode cX9_addMeeting 161 = .ok (.iload 8, 2) := by decide +kernel
theorem dX9_addMeeting_163 : decode cX9_addMeeting 163 = .ok (.iload 7, 2) := by decide +kernel
theorem dX9_addMeeting_165 : decode cX9_addMeeting 165 = .ok (.bastore, 1) := by decide +kernel
theorem dX9_addMeeting_166 : decode cX9_addMeeting 166 = .ok (.aload_n 0, 1) := by decide +kernel
theorem dX9_addMeeting_167 : decode cX9_addMeeting 167 = .ok (.dup, 1) := by decide +kernel
theorem dX9_addMeeting_168 : decode cX9_addMeeting 168 = .ok (.getfield 97, 3) := by decide +kernel
theorem dX9_addMeeting_171 : decode cX9_addMeeting 171 = .ok (.iconst 1, 1) := by decide +kernel
theorem dX9_addMeeting_172 : decode cX9_addMeeting 172 = .ok (.iadd, 1) := by decide +kernel
theorem dX9_addMeeting_173 : decode cX9_addMeeting 173 = .ok (.putfield 97, 3) := by decide +kernel
theorem dX9_addMeeting_176 : decode cX9_addMeeting 176 = .ok (.return_, 1) := by decide +kernel
set_option maxRecDepth 20000 in
theorem ggX9_meet_X9_most : GoodIn wsX9_meet wsX9_most := goodIn_r _ [7] (by decide +kernel) (by decide +kernel)
set_option maxRecDepth 20000 in
theorem gX9_meet_X9_most : GoodIn wsX9_meet (va_wsS RX9 147 yX9_most wsX9_most) := goodIn_app (goodIn_of _ (by decide +kernel)) ggX9_meet_X9_most
set_option maxRecDepth 20000 in
theorem ggX9_meet_X9_endOf : GoodIn wsX9_meet wsX9_endOf := goodIn_r _ [11, 1, 12, 13, 14, 15, 16, 6, 17, 18, 19, 20, 21, 47, 48, 49, 50, 51, 52, 53, 54, 55, 56, 57, 58, 59, 60, 61, 62, 63, 64, 65, 66, 67, 68, 69, 70, 71, 72] (by decide +kernel) (by decide +kernel)
set_option maxRecDepth 20000 in
theorem gX9_meet_X9_endOf : GoodIn wsX9_meet (wsV RX9 150 RX9 yX9_endOf wsX9_endOf) := goodIn_app (goodIn_of _ (by decide +kernel)) ggX9_meet_X9_endOf
set_option maxRecDepth 20000 in
theorem ggX9_meet_X9_least : GoodIn wsX9_meet wsX9_least := goodIn_r _ [21] (by decide +kernel) (by decide +kernel)
set_option maxRecDepth 20000 in
theorem gX9_meet_X9_least : GoodIn wsX9_meet (va_wsS RX9 143 yX9_least wsX9_least) := goodIn_app (goodIn_of _ (by decide +kernel)) ggX9_meet_X9_least
set_option maxRecDepth 20000 in
theorem ggX9_meet_X9_isThereBoth : GoodIn wsX9_meet wsX9_isThereBoth := goodIn_r _ [25, 26, 27, 28, 6, 29, 1, 13, 47, 48, 49, 50, 51, 52, 53, 54, 55, 56, 57, 58, 59, 60, 61, 62, 63, 64, 65, 66, 67, 68, 69, 70, 71, 72] (by decide +kernel) (by decide +kernel)
set_option maxRecDepth 20000 in
theorem gX9_meet_X9_isThereBoth : GoodIn wsX9_meet (wsV RX9 153 RX9 yX9_isThereBoth wsX9_isThereBoth) := goodIn_app (goodIn_of _ (by decide +kernel)) ggX9_meet_X9_isThereBoth
set_option maxRecDepth 20000 in
theorem ggX9_meet_X9_common : GoodIn wsX9_meet wsX9_common := goodIn_r _ [32] (by decide +kernel) (by decide +kernel)
set_option maxRecDepth 20000 in
theorem gX9_meet_X9_common : GoodIn wsX9_meet (va_wsS RX9 106 yX9_common wsX9_common) := goodIn_app (goodIn_of _ (by decide +kernel)) ggX9_meet_X9_common
set_option maxRecDepth 20000 in
theorem ggX9_meet_X9_slopeBehind : GoodIn wsX9_meet wsX9_slopeBehind := goodIn_r _ [36, 1, 2, 14, 15, 16, 6, 17, 18, 47, 48, 49, 50, 51, 52, 53, 54, 55, 56, 57, 58, 59, 60, 61, 62, 63, 64, 65, 66, 67, 68, 69, 70, 71, 72] (by decide +kernel) (by decide +kernel)
set_option maxRecDepth 20000 in
theorem gX9_meet_X9_slopeBehind : GoodIn wsX9_meet (wsV RX9 157 RX9 yX9_slopeBehind wsX9_slopeBehind) := goodIn_app (goodIn_of _ (by decide +kernel)) ggX9_meet_X9_slopeBehind
set_option maxRecDepth 20000 in
theorem ggX9_meet_X9_addMeeting : GoodIn wsX9_meet wsX9_addMeeting := goodIn_r _ [40, 41, 42, 43, 44, 45, 46, 47, 48, 49, 50, 51, 52, 53, 54, 55, 56, 57, 58, 59, 60, 61, 62, 63, 64, 65, 66, 67, 68, 69, 70, 71, 72] (by decide +kernel) (by decide +kernel)
set_option maxRecDepth 20000 in
theorem gX9_meet_X9_addMeeting : GoodIn wsX9_meet (wsV RX9 161 RX9 yX9_addMeeting wsX9_addMeeting) := goodIn_app (goodIn_of _ (by decide +kernel)) ggX9_meet_X9_addMeeting
theorem dX9_meet_0 : decode cX9_meet 0 = .ok (.aload_n 0, 1) := by decide +kernel
theorem dX9_meet_1 : decode cX9_meet 1 = .ok (.getfield 16, 3) := by decide +kernel
theorem dX9_meet_4 : decode cX9_meet 4 = .ok (.iload_n 3, 1) := by decide +kernel
theorem dX9_meet_5 : decode cX9_meet 5 = .ok (.iaload, 1) := by decide +kernel
theorem dX9_meet_6 : decode cX9_meet 6 = .ok (.aload_n 0, 1) := by decide +kernel
theorem dX9_meet_7 : decode cX9_meet 7 = .ok (.getfield 16, 3) := by decide +kernel
theorem dX9_meet_10 : decode cX9_meet 10 = .ok (.iload 4, 2) := by decide +kernel
theorem dX9_meet_12 : decode cX9_meet 12 = .ok (.iaload, 1) := by decide +kernel
theorem dX9_meet_13 : decode cX9_meet 13 = .ok (.invokestatic 147, 3) := by decide +kernel
theorem dX9_meet_16 : decode cX9_meet 16 = .ok (.istore 5, 2) := by decide +kernel
theorem dX9_meet_18 : decode cX9_meet 18 = .ok (.aload_n 0, 1) := by decide +kernel
theorem dX9_meet_19 : decode cX9_meet 19 = .ok (.iload_n 1, 1) := by decide +kernel
theorem dX9_meet_20 : decode cX9_meet 20 = .ok (.iload_n 3, 1) := by decide +kernel
theorem dX9_meet_21 : decode cX9_meet 21 = .ok (.invokevirtual 150, 3) := by decide +kernel
theorem dX9_meet_24 : decode cX9_meet 24 = .ok (.aload_n 0, 1) := by decide +kernel
theorem dX9_meet_25 : decode cX9_meet 25 = .ok (.iload_n 2, 1) := by decide +kernel
theorem dX9_meet_26 : decode cX9_meet 26 = .ok (.iload 4, 2) := by decide +kernel
theorem dX9_meet_28 : decode cX9_meet 28 = .ok (.invokevirtual 150, 3) := by decide +kernel
theorem dX9_meet_31 : decode cX9_meet 31 = .ok (.invokestatic 143, 3) := by decide +kernel
theorem dX9_meet_34 : decode cX9_meet 34 = .ok (.istore 6, 2) := by decide +kernel
theorem dX9_meet_36 : decode cX9_meet 36 = .ok (.aload_n 0, 1) := by decide +kernel
theorem dX9_meet_37 : decode cX9_meet 37 = .ok (.getfield 22, 3) := by decide +kernel
theorem dX9_meet_40 : decode cX9_meet 40 = .ok (.iload_n 3, 1) := by decide +kernel
theorem dX9_meet_41 : decode cX9_meet 41 = .ok (.iaload, 1) := by decide +kernel
theorem dX9_meet_42 : decode cX9_meet 42 = .ok (.aload_n 0, 1) := by decide +kernel
theorem dX9_meet_43 : decode cX9_meet 43 = .ok (.getfield 22, 3) := by decide +kernel
theorem dX9_meet_46 : decode cX9_meet 46 = .ok (.iload 4, 2) := by decide +kernel
theorem dX9_meet_48 : decode cX9_meet 48 = .ok (.iaload, 1) := by decide +kernel
theorem dX9_meet_49 : decode cX9_meet 49 = .ok (.isub, 1) := by decide +kernel
theorem dX9_meet_50 : decode cX9_meet 50 = .ok (.i2l, 1) := by decide +kernel
theorem dX9_meet_51 : decode cX9_meet 51 = .ok (.lstore 7, 2) := by decide +kernel
theorem dX9_meet_53 : decode cX9_meet 53 = .ok (.iload 5, 2) := by decide +kernel
theorem dX9_meet_55 : decode cX9_meet 55 = .ok (.iload 6, 2) := by decide +kernel
theorem dX9_meet_57 : decode cX9_meet 57 = .ok (.if_icmp .ge 10, 3) := by decide +kernel
theorem dX9_meet_60 : decode cX9_meet 60 = .ok (.lload 7, 2) := by decide +kernel
theorem dX9_meet_62 : decode cX9_meet 62 = .ok (.lconst 0, 1) := by decide +kernel
theorem dX9_meet_63 : decode cX9_meet 63 = .ok (.lcmp, 1) := by decide +kernel
theorem dX9_meet_64 : decode cX9_meet 64 = .ok (.ifCond .ne 4, 3) := by decide +kernel
theorem dX9_meet_67 : decode cX9_meet 67 = .ok (.return_, 1) := by decide +kernel
theorem dX9_meet_68 : decode cX9_meet 68 = .ok (.aload_n 0, 1) := by decide +kernel
theorem dX9_meet_69 : decode cX9_meet 69 = .ok (.getfield 19, 3) := by decide +kernel
theorem dX9_meet_72 : decode cX9_meet 72 = .ok (.iload_n 3, 1) := by decide +kernel
theorem dX9_meet_73 : decode cX9_meet 73 = .ok (.iaload, 1) := by decide +kernel
theorem dX9_meet_74 : decode cX9_meet 74 = .ok (.i2l, 1) := by decide +kernel
theorem dX9_meet_75 : decode cX9_meet 75 = .ok (.aload_n 0, 1) := by decide +kernel
theorem dX9_meet_76 : decode cX9_meet 76 = .ok (.getfield 22, 3) := by decide +kernel
theorem dX9_meet_79 : decode cX9_meet 79 = .ok (.iload_n 3, 1) := by decide +kernel
theorem dX9_meet_80 : decode cX9_meet 80 = .ok (.iaload, 1) := by decide +kernel
theorem dX9_meet_81 : decode cX9_meet 81 = .ok (.i2l, 1) := by decide +kernel
theorem dX9_meet_82 : decode cX9_meet 82 = .ok (.iload 5, 2) := by decide +kernel
theorem dX9_meet_84 : decode cX9_meet 84 = .ok (.aload_n 0, 1) := by decide +kernel
theorem dX9_meet_85 : decode cX9_meet 85 = .ok (.getfield 16, 3) := by decide +kernel
theorem dX9_meet_88 : decode cX9_meet 88 = .ok (.iload_n 3, 1) := by decide +kernel
theorem dX9_meet_89 : decode cX9_meet 89 = .ok (.iaload, 1) := by decide +kernel
theorem dX9_meet_90 : decode cX9_meet 90 = .ok (.isub, 1) := by decide +kernel
theorem dX9_meet_91 : decode cX9_meet 91 = .ok (.i2l, 1) := by decide +kernel
theorem dX9_meet_92 : decode cX9_meet 92 = .ok (.lmul, 1) := by decide +kernel
theorem dX9_meet_93 : decode cX9_meet 93 = .ok (.ladd, 1) := by decide +kernel
theorem dX9_meet_94 : decode cX9_meet 94 = .ok (.aload_n 0, 1) := by decide +kernel
theorem dX9_meet_95 : decode cX9_meet 95 = .ok (.getfield 19, 3) := by decide +kernel
theorem dX9_meet_98 : decode cX9_meet 98 = .ok (.iload 4, 2) := by decide +kernel
theorem dX9_meet_100 : decode cX9_meet 100 = .ok (.iaload, 1) := by decide +kernel
theorem dX9_meet_101 : decode cX9_meet 101 = .ok (.i2l, 1) := by decide +kernel
theorem dX9_meet_102 : decode cX9_meet 102 = .ok (.lsub, 1) := by decide +kernel
theorem dX9_meet_103 : decode cX9_meet 103 = .ok (.aload_n 0, 1) := by decide +kernel
theorem dX9_meet_104 : decode cX9_meet 104 = .ok (.getfield 22, 3) := by decide +kernel
theorem dX9_meet_107 : decode cX9_meet 107 = .ok (.iload 4, 2) := by decide +kernel
theorem dX9_meet_109 : decode cX9_meet 109 = .ok (.iaload, 1) := by decide +kernel
theorem dX9_meet_110 : decode cX9_meet 110 = .ok (.i2l, 1) := by decide +kernel
theorem dX9_meet_111 : decode cX9_meet 111 = .ok (.iload 5, 2) := by decide +kernel
theorem dX9_meet_113 : decode cX9_meet 113 = .ok (.aload_n 0, 1) := by decide +kernel
theorem dX9_meet_114 : decode cX9_meet 114 = .ok (.getfield 16, 3) := by decide +kernel
theorem dX9_meet_117 : decode cX9_meet 117 = .ok (.iload 4, 2) := by decide +kernel
theorem dX9_meet_119 : decode cX9_meet 119 = .ok (.iaload, 1) := by decide +kernel
theorem dX9_meet_120 : decode cX9_meet 120 = .ok (.isub, 1) := by decide +kernel
theorem dX9_meet_121 : decode cX9_meet 121 = .ok (.i2l, 1) := by decide +kernel
theorem dX9_meet_122 : decode cX9_meet 122 = .ok (.lmul, 1) := by decide +kernel
theorem dX9_meet_123 : decode cX9_meet 123 = .ok (.lsub, 1) := by decide +kernel
theorem dX9_meet_124 : decode cX9_meet 124 = .ok (.lstore 9, 2) := by decide +kernel
theorem dX9_meet_126 : decode cX9_meet 126 = .ok (.iload 5, 2) := by decide +kernel
theorem dX9_meet_128 : decode cX9_meet 128 = .ok (.i2l, 1) := by decide +kernel
theorem dX9_meet_129 : decode cX9_meet 129 = .ok (.lload 7, 2) := by decide +kernel
theorem dX9_meet_131 : decode cX9_meet 131 = .ok (.lmul, 1) := by decide +kernel
theorem dX9_meet_132 : decode cX9_meet 132 = .ok (.lload 9, 2) := by decide +kernel
theorem dX9_meet_134 : decode cX9_meet 134 = .ok (.lsub, 1) := by decide +kernel
theorem dX9_meet_135 : decode cX9_meet 135 = .ok (.lstore 11, 2) := by decide +kernel
theorem dX9_meet_137 : decode cX9_meet 137 = .ok (.lload 7, 2) := by decide +kernel
theorem dX9_meet_139 : decode cX9_meet 139 = .ok (.lstore 13, 2) := by decide +kernel
theorem dX9_meet_141 : decode cX9_meet 141 = .ok (.lload 13, 2) := by decide +kernel
theorem dX9_meet_143 : decode cX9_meet 143 = .ok (.lconst 0, 1) := by decide +kernel
theorem dX9_meet_144 : decode cX9_meet 144 = .ok (.lcmp, 1) := by decide +kernel
theorem dX9_meet_145 : decode cX9_meet 145 = .ok (.ifCond .ge 13, 3) := by decide +kernel
theorem dX9_meet_148 : decode cX9_meet 148 = .ok (.lload 11, 2) := by decide +kernel
theorem dX9_meet_150 : decode cX9_meet 150 = .ok (.lneg, 1) := by decide +kernel
theorem dX9_meet_151 : decode cX9_meet 151 = .ok (.lstore 11, 2) := by decide +kernel
theorem dX9_meet_153 : decode cX9_meet 153 = .ok (.lload 13, 2) := by decide +kernel
theorem dX9_meet_155 : decode cX9_meet 155 = .ok (.lneg, 1) := by decide +kernel
theorem dX9_meet_156 : decode cX9_meet 156 = .ok (.lstore 13, 2) := by decide +kernel
theorem dX9_meet_158 : decode cX9_meet 158 = .ok (.lload 11, 2) := by decide +kernel
theorem dX9_meet_160 : decode cX9_meet 160 = .ok (.iload 5, 2) := by decide +kernel
theorem dX9_meet_162 : decode cX9_meet 162 = .ok (.i2l, 1) := by decide +kernel
theorem dX9_meet_163 : decode cX9_meet 163 = .ok (.lload 13, 2) := by decide +kernel
theorem dX9_meet_165 : decode cX9_meet 165 = .ok (.lmul, 1) := by decide +kernel
theorem dX9_meet_166 : decode cX9_meet 166 = .ok (.lcmp, 1) := by decide +kernel
theorem dX9_meet_167 : decode cX9_meet 167 = .ok (.ifCond .le 117, 3) := by decide +kernel
theorem dX9_meet_170 : decode cX9_meet 170 = .ok (.lload 11, 2) := by decide +kernel
theorem dX9_meet_172 : decode cX9_meet 172 = .ok (.iload 6, 2) := by decide +kernel
theorem dX9_meet_174 : decode cX9_meet 174 = .ok (.i2l, 1) := by decide +kernel
theorem dX9_meet_175 : decode cX9_meet 175 = .ok (.lload 13, 2) := by decide +kernel
theorem dX9_meet_177 : decode cX9_meet 177 = .ok (.lmul, 1) := by decide +kernel
theorem dX9_meet_178 : decode cX9_meet 178 = .ok (.lcmp, 1) := by decide +kernel
theorem dX9_meet_179 : decode cX9_meet 179 = .ok (.ifCond .gt 105, 3) := by decide +kernel
theorem dX9_meet_182 : decode cX9_meet 182 = .ok (.aload_n 0, 1) := by decide +kernel
theorem dX9_meet_183 : decode cX9_meet 183 = .ok (.iload_n 1, 1) := by decide +kernel
theorem dX9_meet_184 : decode cX9_meet 184 = .ok (.iload_n 2, 1) := by decide +kernel
theorem dX9_meet_185 : decode cX9_meet 185 = .ok (.lload 11, 2) := by decide +kernel
theorem dX9_meet_187 : decode cX9_meet 187 = .ok (.lload 13, 2) := by decide +kernel
theorem dX9_meet_189 : decode cX9_meet 189 = .ok (.invokevirtual 153, 3) := by decide +kernel
theorem dX9_meet_192 : decode cX9_meet 192 = .ok (.ifCond .eq 92, 3) := by decide +kernel
theorem dX9_meet_195 : decode cX9_meet 195 = .ok (.lload 11, 2) := by decide +kernel
theorem dX9_meet_197 : decode cX9_meet 197 = .ok (.lload 13, 2) := by decide +kernel
theorem dX9_meet_199 : decode cX9_meet 199 = .ok (.invokestatic 106, 3) := by decide +kernel
theorem dX9_meet_202 : decode cX9_meet 202 = .ok (.lstore 15, 2) := by decide +kernel
theorem dX9_meet_204 : decode cX9_meet 204 = .ok (.lload 11, 2) := by decide +kernel
theorem dX9_meet_206 : decode cX9_meet 206 = .ok (.lload 15, 2) := by decide +kernel
theorem dX9_meet_208 : decode cX9_meet 208 = .ok (.ldiv, 1) := by decide +kernel
theorem dX9_meet_209 : decode cX9_meet 209 = .ok (.lstore 11, 2) := by decide +kernel
theorem dX9_meet_211 : decode cX9_meet 211 = .ok (.lload 13, 2) := by decide +kernel
theorem dX9_meet_213 : decode cX9_meet 213 = .ok (.lload 15, 2) := by decide +kernel
theorem dX9_meet_215 : decode cX9_meet 215 = .ok (.ldiv, 1) := by decide +kernel
theorem dX9_meet_216 : decode cX9_meet 216 = .ok (.lstore 13, 2) := by decide +kernel
theorem dX9_meet_218 : decode cX9_meet 218 = .ok (.lload 13, 2) := by decide +kernel
theorem dX9_meet_220 : decode cX9_meet 220 = .ok (.lconst 1, 1) := by decide +kernel
theorem dX9_meet_221 : decode cX9_meet 221 = .ok (.lcmp, 1) := by decide +kernel
theorem dX9_meet_222 : decode cX9_meet 222 = .ok (.ifCond .ne 15, 3) := by decide +kernel
theorem dX9_meet_225 : decode cX9_meet 225 = .ok (.aload_n 0, 1) := by decide +kernel
theorem dX9_meet_226 : decode cX9_meet 226 = .ok (.iload_n 1, 1) := by decide +kernel
theorem dX9_meet_227 : decode cX9_meet 227 = .ok (.iload_n 2, 1) := by decide +kernel
theorem dX9_meet_228 : decode cX9_meet 228 = .ok (.lload 11, 2) := by decide +kernel
theorem dX9_meet_230 : decode cX9_meet 230 = .ok (.invokevirtual 157, 3) := by decide +kernel
theorem dX9_meet_233 : decode cX9_meet 233 = .ok (.i2l, 1) := by decide +kernel
theorem dX9_meet_234 : decode cX9_meet 234 = .ok (.goto 5, 3) := by decide +kernel
theorem dX9_meet_237 : decode cX9_meet 237 = .ok (.lload 7, 2) := by decide +kernel
theorem dX9_meet_239 : decode cX9_meet 239 = .ok (.lstore 17, 2) := by decide +kernel
theorem dX9_meet_241 : decode cX9_meet 241 = .ok (.aload_n 0, 1) := by decide +kernel
theorem dX9_meet_242 : decode cX9_meet 242 = .ok (.lload 11, 2) := by decide +kernel
theorem dX9_meet_244 : decode cX9_meet 244 = .ok (.lload 13, 2) := by decide +kernel
theorem dX9_meet_246 : decode cX9_meet 246 = .ok (.iload_n 1, 1) := by decide +kernel
theorem dX9_meet_247 : decode cX9_meet 247 = .ok (.iload_n 2, 1) := by decide +kernel
theorem dX9_meet_248 : decode cX9_meet 248 = .ok (.lload 17, 2) := by decide +kernel
theorem dX9_meet_250 : decode cX9_meet 250 = .ok (.lconst 0, 1) := by decide +kernel
theorem dX9_meet_251 : decode cX9_meet 251 = .ok (.lcmp, 1) := by decide +kernel
theorem dX9_meet_252 : decode cX9_meet 252 = .ok (.ifCond .le 10, 3) := by decide +kernel
theorem dX9_meet_255 : decode cX9_meet 255 = .ok (.lload 7, 2) := by decide +kernel
theorem dX9_meet_257 : decode cX9_meet 257 = .ok (.lconst 0, 1) := by decide +kernel
theorem dX9_meet_258 : decode cX9_meet 258 = .ok (.lcmp, 1) := by decide +kernel
theorem dX9_meet_259 : decode cX9_meet 259 = .ok (.ifCond .gt 17, 3) := by decide +kernel
theorem dX9_meet_262 : decode cX9_meet 262 = .ok (.lload 17, 2) := by decide +kernel
theorem dX9_meet_264 : decode cX9_meet 264 = .ok (.lconst 0, 1) := by decide +kernel
theorem dX9_meet_265 : decode cX9_meet 265 = .ok (.lcmp, 1) := by decide +kernel
theorem dX9_meet_266 : decode cX9_meet 266 = .ok (.ifCond .ge 14, 3) := by decide +kernel
theorem dX9_meet_269 : decode cX9_meet 269 = .ok (.lload 7, 2) := by decide +kernel
theorem dX9_meet_271 : decode cX9_meet 271 = .ok (.lconst 0, 1) := by decide +kernel
theorem dX9_meet_272 : decode cX9_meet 272 = .ok (.lcmp, 1) := by decide +kernel
theorem dX9_meet_273 : decode cX9_meet 273 = .ok (.ifCond .ge 7, 3) := by decide +kernel
theorem dX9_meet_276 : decode cX9_meet 276 = .ok (.iconst 1, 1) := by decide +kernel
theorem dX9_meet_277 : decode cX9_meet 277 = .ok (.goto 4, 3) := by decide +kernel
theorem dX9_meet_280 : decode cX9_meet 280 = .ok (.iconst 0, 1) := by decide +kernel
theorem dX9_meet_281 : decode cX9_meet 281 = .ok (.invokevirtual 161, 3) := by decide +kernel
theorem dX9_meet_284 : decode cX9_meet 284 = .ok (.return_, 1) := by decide +kernel
