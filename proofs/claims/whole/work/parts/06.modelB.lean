set_option maxRecDepth 20000 in
theorem ggX9_findMeetings_X9_latest : GoodIn wsX9_findMeetings wsX9_latest := goodIn_r _ [7, 8, 52, 53, 54, 55, 56, 57, 58, 59, 60, 61, 62, 63, 64, 65, 66, 67, 68, 69, 70, 71, 72, 73, 74, 75, 76, 77] (by decide +kernel) (by decide +kernel)
set_option maxRecDepth 20000 in
theorem gX9_findMeetings_X9_latest : GoodIn wsX9_findMeetings (wsV RX9 84 RX9 yX9_latest wsX9_latest) := goodIn_app (goodIn_of _ (by decide +kernel)) ggX9_findMeetings_X9_latest
set_option maxRecDepth 20000 in
theorem ggX9_findMeetings_X9_meet : GoodIn wsX9_findMeetings wsX9_meet := goodIn_r _ [12, 13, 14, 15, 16, 17, 6, 18, 19, 20, 21, 22, 23, 24, 3, 4, 5, 7, 8, 25, 26, 27, 28, 29, 30, 31, 32, 33, 34, 35, 36, 37, 38, 39, 40, 41, 42, 43, 44, 45, 46, 1, 47, 48, 49, 50, 51, 52, 53, 54, 55, 56, 57, 58, 59, 60, 61, 62, 63, 64, 65, 66, 67, 68, 69, 70, 71, 72, 73, 74, 75, 76, 77] (by decide +kernel) (by decide +kernel)
set_option maxRecDepth 20000 in
theorem gX9_findMeetings_X9_meet : GoodIn wsX9_findMeetings (wsV RX9 165 RX9 yX9_meet wsX9_meet) := goodIn_app (goodIn_of _ (by decide +kernel)) ggX9_findMeetings_X9_meet
theorem dX9_findMeetings_0 : decode cX9_findMeetings 0 = .ok (.aload_n 0, 1) := by decide +kernel
theorem dX9_findMeetings_1 : decode cX9_findMeetings 1 = .ok (.iconst 0, 1) := by decide +kernel
theorem dX9_findMeetings_2 : decode cX9_findMeetings 2 = .ok (.putfield 97, 3) := by decide +kernel
theorem dX9_findMeetings_5 : decode cX9_findMeetings 5 = .ok (.iconst 0, 1) := by decide +kernel
theorem dX9_findMeetings_6 : decode cX9_findMeetings 6 = .ok (.istore_n 1, 1) := by decide +kernel
theorem dX9_findMeetings_7 : decode cX9_findMeetings 7 = .ok (.iload_n 1, 1) := by decide +kernel
theorem dX9_findMeetings_8 : decode cX9_findMeetings 8 = .ok (.aload_n 0, 1) := by decide +kernel
theorem dX9_findMeetings_9 : decode cX9_findMeetings 9 = .ok (.getfield 57, 3) := by decide +kernel
theorem dX9_findMeetings_12 : decode cX9_findMeetings 12 = .ok (.if_icmp .ge 78, 3) := by decide +kernel
theorem dX9_findMeetings_15 : decode cX9_findMeetings 15 = .ok (.iload_n 1, 1) := by decide +kernel
theorem dX9_findMeetings_16 : decode cX9_findMeetings 16 = .ok (.iconst 1, 1) := by decide +kernel
theorem dX9_findMeetings_17 : decode cX9_findMeetings 17 = .ok (.iadd, 1) := by decide +kernel
theorem dX9_findMeetings_18 : decode cX9_findMeetings 18 = .ok (.istore_n 2, 1) := by decide +kernel
theorem dX9_findMeetings_19 : decode cX9_findMeetings 19 = .ok (.iload_n 2, 1) := by decide +kernel
theorem dX9_findMeetings_20 : decode cX9_findMeetings 20 = .ok (.aload_n 0, 1) := by decide +kernel
theorem dX9_findMeetings_21 : decode cX9_findMeetings 21 = .ok (.getfield 57, 3) := by decide +kernel
theorem dX9_findMeetings_24 : decode cX9_findMeetings 24 = .ok (.if_icmp .ge 60, 3) := by decide +kernel
theorem dX9_findMeetings_27 : decode cX9_findMeetings 27 = .ok (.bipush 8, 2) := by decide +kernel
theorem dX9_findMeetings_29 : decode cX9_findMeetings 29 = .ok (.iload_n 1, 1) := by decide +kernel
theorem dX9_findMeetings_30 : decode cX9_findMeetings 30 = .ok (.imul, 1) := by decide +kernel
theorem dX9_findMeetings_31 : decode cX9_findMeetings 31 = .ok (.istore_n 3, 1) := by decide +kernel
theorem dX9_findMeetings_32 : decode cX9_findMeetings 32 = .ok (.iload_n 3, 1) := by decide +kernel
theorem dX9_findMeetings_33 : decode cX9_findMeetings 33 = .ok (.aload_n 0, 1) := by decide +kernel
theorem dX9_findMeetings_34 : decode cX9_findMeetings 34 = .ok (.iload_n 1, 1) := by decide +kernel
theorem dX9_findMeetings_35 : decode cX9_findMeetings 35 = .ok (.invokevirtual 84, 3) := by decide +kernel
theorem dX9_findMeetings_38 : decode cX9_findMeetings 38 = .ok (.if_icmp .gt 40, 3) := by decide +kernel
theorem dX9_findMeetings_41 : decode cX9_findMeetings 41 = .ok (.bipush 8, 2) := by decide +kernel
theorem dX9_findMeetings_43 : decode cX9_findMeetings 43 = .ok (.iload_n 2, 1) := by decide +kernel
theorem dX9_findMeetings_44 : decode cX9_findMeetings 44 = .ok (.imul, 1) := by decide +kernel
theorem dX9_findMeetings_45 : decode cX9_findMeetings 45 = .ok (.istore 4, 2) := by decide +kernel
theorem dX9_findMeetings_47 : decode cX9_findMeetings 47 = .ok (.iload 4, 2) := by decide +kernel
theorem dX9_findMeetings_49 : decode cX9_findMeetings 49 = .ok (.aload_n 0, 1) := by decide +kernel
theorem dX9_findMeetings_50 : decode cX9_findMeetings 50 = .ok (.iload_n 2, 1) := by decide +kernel
theorem dX9_findMeetings_51 : decode cX9_findMeetings 51 = .ok (.invokevirtual 84, 3) := by decide +kernel
theorem dX9_findMeetings_54 : decode cX9_findMeetings 54 = .ok (.if_icmp .gt 18, 3) := by decide +kernel
theorem dX9_findMeetings_57 : decode cX9_findMeetings 57 = .ok (.aload_n 0, 1) := by decide +kernel
theorem dX9_findMeetings_58 : decode cX9_findMeetings 58 = .ok (.iload_n 1, 1) := by decide +kernel
theorem dX9_findMeetings_59 : decode cX9_findMeetings 59 = .ok (.iload_n 2, 1) := by decide +kernel
theorem dX9_findMeetings_60 : decode cX9_findMeetings 60 = .ok (.iload_n 3, 1) := by decide +kernel
theorem dX9_findMeetings_61 : decode cX9_findMeetings 61 = .ok (.iload 4, 2) := by decide +kernel
theorem dX9_findMeetings_63 : decode cX9_findMeetings 63 = .ok (.invokevirtual 165, 3) := by decide +kernel
theorem dX9_findMeetings_66 : decode cX9_findMeetings 66 = .ok (.iinc 4 1, 3) := by decide +kernel
theorem dX9_findMeetings_69 : decode cX9_findMeetings 69 = .ok (.goto (-22), 3) := by decide +kernel
theorem dX9_findMeetings_72 : decode cX9_findMeetings 72 = .ok (.iinc 3 1, 3) := by decide +kernel
theorem dX9_findMeetings_75 : decode cX9_findMeetings 75 = .ok (.goto (-43), 3) := by decide +kernel
theorem dX9_findMeetings_78 : decode cX9_findMeetings 78 = .ok (.iinc 2 1, 3) := by decide +kernel
theorem dX9_findMeetings_81 : decode cX9_findMeetings 81 = .ok (.goto (-62), 3) := by decide +kernel
theorem dX9_findMeetings_84 : decode cX9_findMeetings 84 = .ok (.iinc 1 1, 3) := by decide +kernel
theorem dX9_findMeetings_87 : decode cX9_findMeetings 87 = .ok (.goto (-80), 3) := by decide +kernel
theorem dX9_findMeetings_90 : decode cX9_findMeetings 90 = .ok (.return_, 1) := by decide +kernel
set_option maxRecDepth 20000 in
theorem ggX9_meeting_X9_in : GoodIn wsX9_meeting wsX9_in := goodIn_r _ [12] (by decide +kernel) (by decide +kernel)
set_option maxRecDepth 20000 in
theorem gX9_meeting_X9_in : GoodIn wsX9_meeting (va_wsS RX9 61 yX9_in wsX9_in) := goodIn_app (goodIn_of _ (by decide +kernel)) ggX9_meeting_X9_in
set_option maxRecDepth 20000 in
theorem ggX9_meeting_X9_findMeetings : GoodIn wsX9_meeting wsX9_findMeetings := goodIn_r _ [16, 3, 17, 18, 19, 20, 11, 21, 22, 23, 24, 25, 26, 27, 28, 29, 30, 31, 32, 33, 34, 35, 36, 37, 38, 39, 40, 41, 42, 43, 44, 45, 46, 47, 48, 49, 50, 51, 52, 53, 54, 55, 56, 57, 58, 59, 60, 6, 4, 7, 8, 61, 62, 63, 64, 65, 66, 67, 68, 69, 70, 71, 72, 73, 74, 75, 76, 77, 78, 79, 80, 81, 82, 83, 84, 85, 86, 87] (by decide +kernel) (by decide +kernel)
set_option maxRecDepth 20000 in
theorem gX9_meeting_X9_findMeetings : GoodIn wsX9_meeting (wsV RX9 94 RX9 yX9_findMeetings wsX9_findMeetings) := goodIn_app (goodIn_of _ (by decide +kernel)) ggX9_meeting_X9_findMeetings
theorem dX9_meeting_0 : decode cX9_meeting 0 = .ok (.iload_n 2, 1) := by decide +kernel
theorem dX9_meeting_1 : decode cX9_meeting 1 = .ok (.i2l, 1) := by decide +kernel
theorem dX9_meeting_2 : decode cX9_meeting 2 = .ok (.lconst 0, 1) := by decide +kernel
theorem dX9_meeting_3 : decode cX9_meeting 3 = .ok (.ldc2_w 169, 3) := by decide +kernel
theorem dX9_meeting_6 : decode cX9_meeting 6 = .ok (.invokestatic 61, 3) := by decide +kernel
theorem dX9_meeting_9 : decode cX9_meeting 9 = .ok (.ifCond .ne 6, 3) := by decide +kernel
theorem dX9_meeting_12 : decode cX9_meeting 12 = .ok (.ldc 73, 2) := by decide +kernel
theorem dX9_meeting_14 : decode cX9_meeting 14 = .ok (.ireturn, 1) := by decide +kernel
theorem dX9_meeting_15 : decode cX9_meeting 15 = .ok (.aload_n 0, 1) := by decide +kernel
theorem dX9_meeting_16 : decode cX9_meeting 16 = .ok (.invokevirtual 94, 3) := by decide +kernel
theorem dX9_meeting_19 : decode cX9_meeting 19 = .ok (.iconst 0, 1) := by decide +kernel
theorem dX9_meeting_20 : decode cX9_meeting 20 = .ok (.istore_n 3, 1) := by decide +kernel
theorem dX9_meeting_21 : decode cX9_meeting 21 = .ok (.iload_n 3, 1) := by decide +kernel
theorem dX9_meeting_22 : decode cX9_meeting 22 = .ok (.aload_n 0, 1) := by decide +kernel
theorem dX9_meeting_23 : decode cX9_meeting 23 = .ok (.getfield 97, 3) := by decide +kernel
theorem dX9_meeting_26 : decode cX9_meeting 26 = .ok (.if_icmp .ge 31, 3) := by decide +kernel
theorem dX9_meeting_29 : decode cX9_meeting 29 = .ok (.aload_n 0, 1) := by decide +kernel
theorem dX9_meeting_30 : decode cX9_meeting 30 = .ok (.getfield 28, 3) := by decide +kernel
theorem dX9_meeting_33 : decode cX9_meeting 33 = .ok (.iload_n 3, 1) := by decide +kernel
theorem dX9_meeting_34 : decode cX9_meeting 34 = .ok (.laload, 1) := by decide +kernel
theorem dX9_meeting_35 : decode cX9_meeting 35 = .ok (.aload_n 0, 1) := by decide +kernel
theorem dX9_meeting_36 : decode cX9_meeting 36 = .ok (.getfield 75, 3) := by decide +kernel
theorem dX9_meeting_39 : decode cX9_meeting 39 = .ok (.i2l, 1) := by decide +kernel
theorem dX9_meeting_40 : decode cX9_meeting 40 = .ok (.aload_n 0, 1) := by decide +kernel
theorem dX9_meeting_41 : decode cX9_meeting 41 = .ok (.getfield 32, 3) := by decide +kernel
theorem dX9_meeting_44 : decode cX9_meeting 44 = .ok (.iload_n 3, 1) := by decide +kernel
theorem dX9_meeting_45 : decode cX9_meeting 45 = .ok (.laload, 1) := by decide +kernel
theorem dX9_meeting_46 : decode cX9_meeting 46 = .ok (.lmul, 1) := by decide +kernel
theorem dX9_meeting_47 : decode cX9_meeting 47 = .ok (.lcmp, 1) := by decide +kernel
theorem dX9_meeting_48 : decode cX9_meeting 48 = .ok (.ifCond .gt 9, 3) := by decide +kernel
theorem dX9_meeting_51 : decode cX9_meeting 51 = .ok (.iinc 3 1, 3) := by decide +kernel
theorem dX9_meeting_54 : decode cX9_meeting 54 = .ok (.goto (-33), 3) := by decide +kernel
theorem dX9_meeting_57 : decode cX9_meeting 57 = .ok (.iload_n 1, 1) := by decide +kernel
theorem dX9_meeting_58 : decode cX9_meeting 58 = .ok (.iconst (-1), 1) := by decide +kernel
theorem dX9_meeting_59 : decode cX9_meeting 59 = .ok (.if_icmp .ne 7, 3) := by decide +kernel
theorem dX9_meeting_62 : decode cX9_meeting 62 = .ok (.iload_n 3, 1) := by decide +kernel
theorem dX9_meeting_63 : decode cX9_meeting 63 = .ok (.goto 4, 3) := by decide +kernel
theorem dX9_meeting_66 : decode cX9_meeting 66 = .ok (.iload_n 1, 1) := by decide +kernel
theorem dX9_meeting_67 : decode cX9_meeting 67 = .ok (.istore 4, 2) := by decide +kernel
theorem dX9_meeting_69 : decode cX9_meeting 69 = .ok (.iload_n 1, 1) := by decide +kernel
theorem dX9_meeting_70 : decode cX9_meeting 70 = .ok (.iconst (-1), 1) := by decide +kernel
theorem dX9_meeting_71 : decode cX9_meeting 71 = .ok (.if_icmp .ne 14, 3) := by decide +kernel
theorem dX9_meeting_74 : decode cX9_meeting 74 = .ok (.iload_n 3, 1) := by decide +kernel
theorem dX9_meeting_75 : decode cX9_meeting 75 = .ok (.aload_n 0, 1) := by decide +kernel
theorem dX9_meeting_76 : decode cX9_meeting 76 = .ok (.getfield 97, 3) := by decide +kernel
theorem dX9_meeting_79 : decode cX9_meeting 79 = .ok (.if_icmp .ne 21, 3) := by decide +kernel
theorem dX9_meeting_82 : decode cX9_meeting 82 = .ok (.goto 16, 3) := by decide +kernel
theorem dX9_meeting_85 : decode cX9_meeting 85 = .ok (.iload_n 1, 1) := by decide +kernel
theorem dX9_meeting_86 : decode cX9_meeting 86 = .ok (.i2l, 1) := by decide +kernel
theorem dX9_meeting_87 : decode cX9_meeting 87 = .ok (.lconst 0, 1) := by decide +kernel
theorem dX9_meeting_88 : decode cX9_meeting 88 = .ok (.iload_n 3, 1) := by decide +kernel
theorem dX9_meeting_89 : decode cX9_meeting 89 = .ok (.iconst 1, 1) := by decide +kernel
theorem dX9_meeting_90 : decode cX9_meeting 90 = .ok (.isub, 1) := by decide +kernel
theorem dX9_meeting_91 : decode cX9_meeting 91 = .ok (.i2l, 1) := by decide +kernel
theorem dX9_meeting_92 : decode cX9_meeting 92 = .ok (.invokestatic 61, 3) := by decide +kernel
theorem dX9_meeting_95 : decode cX9_meeting 95 = .ok (.ifCond .ne 5, 3) := by decide +kernel
theorem dX9_meeting_98 : decode cX9_meeting 98 = .ok (.iconst (-1), 1) := by decide +kernel
theorem dX9_meeting_99 : decode cX9_meeting 99 = .ok (.ireturn, 1) := by decide +kernel
theorem dX9_meeting_100 : decode cX9_meeting 100 = .ok (.iload_n 2, 1) := by decide +kernel
theorem dX9_meeting_101 : decode cX9_meeting 101 = .ok (.ifCond .ne 14, 3) := by decide +kernel
theorem dX9_meeting_104 : decode cX9_meeting 104 = .ok (.aload_n 0, 1) := by decide +kernel
theorem dX9_meeting_105 : decode cX9_meeting 105 = .ok (.getfield 28, 3) := by decide +kernel
theorem dX9_meeting_108 : decode cX9_meeting 108 = .ok (.iload 4, 2) := by decide +kernel
theorem dX9_meeting_110 : decode cX9_meeting 110 = .ok (.laload, 1) := by decide +kernel
theorem dX9_meeting_111 : decode cX9_meeting 111 = .ok (.l2i, 1) := by decide +kernel
theorem dX9_meeting_112 : decode cX9_meeting 112 = .ok (.goto 41, 3) := by decide +kernel
theorem dX9_meeting_115 : decode cX9_meeting 115 = .ok (.iload_n 2, 1) := by decide +kernel
theorem dX9_meeting_116 : decode cX9_meeting 116 = .ok (.iconst 1, 1) := by decide +kernel
theorem dX9_meeting_117 : decode cX9_meeting 117 = .ok (.if_icmp .ne 14, 3) := by decide +kernel
theorem dX9_meeting_120 : decode cX9_meeting 120 = .ok (.aload_n 0, 1) := by decide +kernel
theorem dX9_meeting_121 : decode cX9_meeting 121 = .ok (.getfield 32, 3) := by decide +kernel
theorem dX9_meeting_124 : decode cX9_meeting 124 = .ok (.iload 4, 2) := by decide +kernel
theorem dX9_meeting_126 : decode cX9_meeting 126 = .ok (.laload, 1) := by decide +kernel
theorem dX9_meeting_127 : decode cX9_meeting 127 = .ok (.l2i, 1) := by decide +kernel
theorem dX9_meeting_128 : decode cX9_meeting 128 = .ok (.goto 25, 3) := by decide +kernel
theorem dX9_meeting_131 : decode cX9_meeting 131 = .ok (.iload_n 2, 1) := by decide +kernel
theorem dX9_meeting_132 : decode cX9_meeting 132 = .ok (.iconst 2, 1) := by decide +kernel
theorem dX9_meeting_133 : decode cX9_meeting 133 = .ok (.if_icmp .ne 13, 3) := by decide +kernel
theorem dX9_meeting_136 : decode cX9_meeting 136 = .ok (.aload_n 0, 1) := by decide +kernel
theorem dX9_meeting_137 : decode cX9_meeting 137 = .ok (.getfield 35, 3) := by decide +kernel
theorem dX9_meeting_140 : decode cX9_meeting 140 = .ok (.iload 4, 2) := by decide +kernel
theorem dX9_meeting_142 : decode cX9_meeting 142 = .ok (.iaload, 1) := by decide +kernel
theorem dX9_meeting_143 : decode cX9_meeting 143 = .ok (.goto 10, 3) := by decide +kernel
theorem dX9_meeting_146 : decode cX9_meeting 146 = .ok (.aload_n 0, 1) := by decide +kernel
theorem dX9_meeting_147 : decode cX9_meeting 147 = .ok (.getfield 38, 3) := by decide +kernel
theorem dX9_meeting_150 : decode cX9_meeting 150 = .ok (.iload 4, 2) := by decide +kernel
theorem dX9_meeting_152 : decode cX9_meeting 152 = .ok (.iaload, 1) := by decide +kernel
theorem dX9_meeting_153 : decode cX9_meeting 153 = .ok (.ireturn, 1) := by decide +kernel
theorem dX9_addTime_0 : decode cX9_addTime 0 = .ok (.lload_n 1, 1) := by decide +kernel
theorem dX9_addTime_1 : decode cX9_addTime 1 = .ok (.lconst 0, 1) := by decide +kernel
theorem dX9_addTime_2 : decode cX9_addTime 2 = .ok (.lcmp, 1) := by decide +kernel
theorem dX9_addTime_3 : decode cX9_addTime 3 = .ok (.ifCond .lt 13, 3) := by decide +kernel
theorem dX9_addTime_6 : decode cX9_addTime 6 = .ok (.lload_n 1, 1) := by decide +kernel
theorem dX9_addTime_7 : decode cX9_addTime 7 = .ok (.iload 5, 2) := by decide +kernel
theorem dX9_addTime_9 : decode cX9_addTime 9 = .ok (.i2l, 1) := by decide +kernel
theorem dX9_addTime_10 : decode cX9_addTime 10 = .ok (.lload_n 3, 1) := by decide +kernel
theorem dX9_addTime_11 : decode cX9_addTime 11 = .ok (.lmul, 1) := by decide +kernel
theorem dX9_addTime_12 : decode cX9_addTime 12 = .ok (.lcmp, 1) := by decide +kernel
theorem dX9_addTime_13 : decode cX9_addTime 13 = .ok (.ifCond .le 4, 3) := by decide +kernel
theorem dX9_addTime_16 : decode cX9_addTime 16 = .ok (.return_, 1) := by decide +kernel
theorem dX9_addTime_17 : decode cX9_addTime 17 = .ok (.aload_n 0, 1) := by decide +kernel
theorem dX9_addTime_18 : decode cX9_addTime 18 = .ok (.getfield 171, 3) := by decide +kernel
theorem dX9_addTime_21 : decode cX9_addTime 21 = .ok (.istore 6, 2) := by decide +kernel
theorem dX9_addTime_23 : decode cX9_addTime 23 = .ok (.iload 6, 2) := by decide +kernel
theorem dX9_addTime_25 : decode cX9_addTime 25 = .ok (.ifCond .le 35, 3) := by decide +kernel
theorem dX9_addTime_28 : decode cX9_addTime 28 = .ok (.lload_n 1, 1) := by decide +kernel
theorem dX9_addTime_29 : decode cX9_addTime 29 = .ok (.aload_n 0, 1) := by decide +kernel
theorem dX9_addTime_30 : decode cX9_addTime 30 = .ok (.getfield 48, 3) := by decide +kernel
theorem dX9_addTime_33 : decode cX9_addTime 33 = .ok (.iload 6, 2) := by decide +kernel
theorem dX9_addTime_35 : decode cX9_addTime 35 = .ok (.iconst 1, 1) := by decide +kernel
theorem dX9_addTime_36 : decode cX9_addTime 36 = .ok (.isub, 1) := by decide +kernel
theorem dX9_addTime_37 : decode cX9_addTime 37 = .ok (.laload, 1) := by decide +kernel
theorem dX9_addTime_38 : decode cX9_addTime 38 = .ok (.lmul, 1) := by decide +kernel
theorem dX9_addTime_39 : decode cX9_addTime 39 = .ok (.aload_n 0, 1) := by decide +kernel
theorem dX9_addTime_40 : decode cX9_addTime 40 = .ok (.getfield 45, 3) := by decide +kernel
theorem dX9_addTime_43 : decode cX9_addTime 43 = .ok (.iload 6, 2) := by decide +kernel
theorem dX9_addTime_45 : decode cX9_addTime 45 = .ok (.iconst 1, 1) := by decide +kernel
theorem dX9_addTime_46 : decode cX9_addTime 46 = .ok (.isub, 1) := by decide +kernel
theorem dX9_addTime_47 : decode cX9_addTime 47 = .ok (.laload, 1) := by decide +kernel
theorem dX9_addTime_48 : decode cX9_addTime 48 = .ok (.lload_n 3, 1) := by decide +kernel
theorem dX9_addTime_49 : decode cX9_addTime 49 = .ok (.lmul, 1) := by decide +kernel
theorem dX9_addTime_50 : decode cX9_addTime 50 = .ok (.lcmp, 1) := by decide +kernel
theorem dX9_addTime_51 : decode cX9_addTime 51 = .ok (.ifCond .ge 9, 3) := by decide +kernel
theorem dX9_addTime_54 : decode cX9_addTime 54 = .ok (.iinc 6 (-1), 3) := by decide +kernel
theorem dX9_addTime_57 : decode cX9_addTime 57 = .ok (.goto (-34), 3) := by decide +kernel
theorem dX9_addTime_60 : decode cX9_addTime 60 = .ok (.iload 6, 2) := by decide +kernel
theorem dX9_addTime_62 : decode cX9_addTime 62 = .ok (.ifCond .le 30, 3) := by decide +kernel
theorem dX9_addTime_65 : decode cX9_addTime 65 = .ok (.lload_n 1, 1) := by decide +kernel
theorem dX9_addTime_66 : decode cX9_addTime 66 = .ok (.aload_n 0, 1) := by decide +kernel
theorem dX9_addTime_67 : decode cX9_addTime 67 = .ok (.getfield 48, 3) := by decide +kernel
theorem dX9_addTime_70 : decode cX9_addTime 70 = .ok (.iload 6, 2) := by decide +kernel
theorem dX9_addTime_72 : decode cX9_addTime 72 = .ok (.iconst 1, 1) := by decide +kernel
theorem dX9_addTime_73 : decode cX9_addTime 73 = .ok (.isub, 1) := by decide +kernel
theorem dX9_addTime_74 : decode cX9_addTime 74 = .ok (.laload, 1) := by decide +kernel
theorem dX9_addTime_75 : decode cX9_addTime 75 = .ok (.lmul, 1) := by decide +kernel
theorem dX9_addTime_76 : decode cX9_addTime 76 = .ok (.aload_n 0, 1) := by decide +kernel
theorem dX9_addTime_77 : decode cX9_addTime 77 = .ok (.getfield 45, 3) := by decide +kernel
theorem dX9_addTime_80 : decode cX9_addTime 80 = .ok (.iload 6, 2) := by decide +kernel
theorem dX9_addTime_82 : decode cX9_addTime 82 = .ok (.iconst 1, 1) := by decide +kernel
theorem dX9_addTime_83 : decode cX9_addTime 83 = .ok (.isub, 1) := by decide +kernel
theorem dX9_addTime_84 : decode cX9_addTime 84 = .ok (.laload, 1) := by decide +kernel
theorem dX9_addTime_85 : decode cX9_addTime 85 = .ok (.lload_n 3, 1) := by decide +kernel
theorem dX9_addTime_86 : decode cX9_addTime 86 = .ok (.lmul, 1) := by decide +kernel
theorem dX9_addTime_87 : decode cX9_addTime 87 = .ok (.lcmp, 1) := by decide +kernel
theorem dX9_addTime_88 : decode cX9_addTime 88 = .ok (.ifCond .ne 4, 3) := by decide +kernel
theorem dX9_addTime_91 : decode cX9_addTime 91 = .ok (.return_, 1) := by decide +kernel
theorem dX9_addTime_92 : decode cX9_addTime 92 = .ok (.aload_n 0, 1) := by decide +kernel
theorem dX9_addTime_93 : decode cX9_addTime 93 = .ok (.getfield 171, 3) := by decide +kernel
theorem dX9_addTime_96 : decode cX9_addTime 96 = .ok (.istore 7, 2) := by decide +kernel
theorem dX9_addTime_98 : decode cX9_addTime 98 = .ok (.iload 7, 2) := by decide +kernel
theorem dX9_addTime_100 : decode cX9_addTime 100 = .ok (.iload 6, 2) := by decide +kernel
theorem dX9_addTime_102 : decode cX9_addTime 102 = .ok (.if_icmp .le 41, 3) := by decide +kernel
theorem dX9_addTime_105 : decode cX9_addTime 105 = .ok (.aload_n 0, 1) := by decide +kernel
theorem dX9_addTime_106 : decode cX9_addTime 106 = .ok (.getfield 45, 3) := by decide +kernel
theorem dX9_addTime_109 : decode cX9_addTime 109 = .ok (.iload 7, 2) := by decide +kernel
theorem dX9_addTime_111 : decode cX9_addTime 111 = .ok (.aload_n 0, 1) := by decide +kernel
theorem dX9_addTime_112 : decode cX9_addTime 112 = .ok (.getfield 45, 3) := by decide +kernel
theorem dX9_addTime_115 : decode cX9_addTime 115 = .ok (.iload 7, 2) := by decide +kernel
theorem dX9_addTime_117 : decode cX9_addTime 117 = .ok (.iconst 1, 1) := by decide +kernel
theorem dX9_addTime_118 : decode cX9_addTime 118 = .ok (.isub, 1) := by decide +kernel
theorem dX9_addTime_119 : decode cX9_addTime 119 = .ok (.laload, 1) := by decide +kernel
theorem dX9_addTime_120 : decode cX9_addTime 120 = .ok (.lastore, 1) := by decide +kernel
theorem dX9_addTime_121 : decode cX9_addTime 121 = .ok (.aload_n 0, 1) := by decide +kernel
theorem dX9_addTime_122 : decode cX9_addTime 122 = .ok (.getfield 48, 3) := by decide +kernel
theorem dX9_addTime_125 : decode cX9_addTime 125 = .ok (.iload 7, 2) := by decide +kernel
theorem dX9_addTime_127 : decode cX9_addTime 127 = .ok (.aload_n 0, 1) := by decide +kernel
theorem dX9_addTime_128 : decode cX9_addTime 128 = .ok (.getfield 48, 3) := by decide +kernel
theorem dX9_addTime_131 : decode cX9_addTime 131 = .ok (.iload 7, 2) := by decide +kernel
theorem dX9_addTime_133 : decode cX9_addTime 133 = .ok (.iconst 1, 1) := by decide +kernel
theorem dX9_addTime_134 : decode cX9_addTime 134 = .ok (.isub, 1) := by decide +kernel
theorem dX9_addTime_135 : decode cX9_addTime 135 = .ok (.laload, 1) := by decide +kernel
theorem dX9_addTime_136 : decode cX9_addTime 136 = .ok (.lastore, 1) := by decide +kernel
theorem dX9_addTime_137 : decode cX9_addTime 137 = .ok (.iinc 7 (-1), 3) := by decide +kernel
theorem dX9_addTime_140 : decode cX9_addTime 140 = .ok (.goto (-42), 3) := by decide +kernel
theorem dX9_addTime_143 : decode cX9_addTime 143 = .ok (.aload_n 0, 1) := by decide +kernel
theorem dX9_addTime_144 : decode cX9_addTime 144 = .ok (.getfield 45, 3) := by decide +kernel
theorem dX9_addTime_147 : decode cX9_addTime 147 = .ok (.iload 6, 2) := by decide +kernel
theorem dX9_addTime_149 : decode cX9_addTime 149 = .ok (.lload_n 1, 1) := by decide +kernel
theorem dX9_addTime_150 : decode cX9_addTime 150 = .ok (.lastore, 1) := by decide +kernel
theorem dX9_addTime_151 : decode cX9_addTime 151 = .ok (.aload_n 0, 1) := by decide +kernel
theorem dX9_addTime_152 : decode cX9_addTime 152 = .ok (.getfield 48, 3) := by decide +kernel
theorem dX9_addTime_155 : decode cX9_addTime 155 = .ok (.iload 6, 2) := by decide +kernel
theorem dX9_addTime_157 : decode cX9_addTime 157 = .ok (.lload_n 3, 1) := by decide +kernel
theorem dX9_addTime_158 : decode cX9_addTime 158 = .ok (.lastore, 1) := by decide +kernel
theorem dX9_addTime_159 : decode cX9_addTime 159 = .ok (.aload_n 0, 1) := by decide +kernel
theorem dX9_addTime_160 : decode cX9_addTime 160 = .ok (.dup, 1) := by decide +kernel
theorem dX9_addTime_161 : decode cX9_addTime 161 = .ok (.getfield 171, 3) := by decide +kernel
theorem dX9_addTime_164 : decode cX9_addTime 164 = .ok (.iconst 1, 1) := by decide +kernel
theorem dX9_addTime_165 : decode cX9_addTime 165 = .ok (.iadd, 1) := by decide +kernel
theorem dX9_addTime_166 : decode cX9_addTime 166 = .ok (.putfield 171, 3) := by decide +kernel
theorem dX9_addTime_169 : decode cX9_addTime 169 = .ok (.return_, 1) := by decide +kernel
set_option maxRecDepth 20000 in
theorem ggX9_beginTimes_X9_addTime : GoodIn wsX9_beginTimes wsX9_addTime := goodIn_r _ [9, 1, 10, 11, 17, 18, 19, 20, 21, 22, 23, 24, 25, 26, 27, 28, 29, 30, 31, 32, 33, 34, 35, 36, 37, 38, 39, 40, 41, 42] (by decide +kernel) (by decide +kernel)
set_option maxRecDepth 20000 in
theorem gX9_beginTimes_X9_addTime : GoodIn wsX9_beginTimes (wsV RX9 174 RX9 yX9_addTime wsX9_addTime) := goodIn_app (goodIn_of _ (by decide +kernel)) ggX9_beginTimes_X9_addTime
set_option maxRecDepth 20000 in
theorem ggX9_beginTimes_X9_latest : GoodIn wsX9_beginTimes wsX9_latest := goodIn_r _ [15, 16, 17, 18, 19, 20, 21, 22, 23, 24, 25, 26, 27, 28, 29, 30, 31, 32, 33, 34, 35, 36, 37, 38, 39, 40, 41, 42] (by decide +kernel) (by decide +kernel)
set_option maxRecDepth 20000 in
theorem gX9_beginTimes_X9_latest : GoodIn wsX9_beginTimes (wsV RX9 84 RX9 yX9_latest wsX9_latest) := goodIn_app (goodIn_of _ (by decide +kernel)) ggX9_beginTimes_X9_latest
theorem dX9_beginTimes_0 : decode cX9_beginTimes 0 = .ok (.aload_n 0, 1) := by decide +kernel
theorem dX9_beginTimes_1 : decode cX9_beginTimes 1 = .ok (.iconst 0, 1) := by decide +kernel
theorem dX9_beginTimes_2 : decode cX9_beginTimes 2 = .ok (.putfield 171, 3) := by decide +kernel
theorem dX9_beginTimes_5 : decode cX9_beginTimes 5 = .ok (.aload_n 0, 1) := by decide +kernel
theorem dX9_beginTimes_6 : decode cX9_beginTimes 6 = .ok (.lconst 0, 1) := by decide +kernel
theorem dX9_beginTimes_7 : decode cX9_beginTimes 7 = .ok (.lconst 1, 1) := by decide +kernel
theorem dX9_beginTimes_8 : decode cX9_beginTimes 8 = .ok (.iload_n 1, 1) := by decide +kernel
theorem dX9_beginTimes_9 : decode cX9_beginTimes 9 = .ok (.invokevirtual 174, 3) := by decide +kernel
theorem dX9_beginTimes_12 : decode cX9_beginTimes 12 = .ok (.aload_n 0, 1) := by decide +kernel
theorem dX9_beginTimes_13 : decode cX9_beginTimes 13 = .ok (.iload_n 1, 1) := by decide +kernel
theorem dX9_beginTimes_14 : decode cX9_beginTimes 14 = .ok (.i2l, 1) := by decide +kernel
theorem dX9_beginTimes_15 : decode cX9_beginTimes 15 = .ok (.lconst 1, 1) := by decide +kernel
theorem dX9_beginTimes_16 : decode cX9_beginTimes 16 = .ok (.iload_n 1, 1) := by decide +kernel
theorem dX9_beginTimes_17 : decode cX9_beginTimes 17 = .ok (.invokevirtual 174, 3) := by decide +kernel
theorem dX9_beginTimes_20 : decode cX9_beginTimes 20 = .ok (.iconst 0, 1) := by decide +kernel
theorem dX9_beginTimes_21 : decode cX9_beginTimes 21 = .ok (.istore_n 2, 1) := by decide +kernel
theorem dX9_beginTimes_22 : decode cX9_beginTimes 22 = .ok (.iload_n 2, 1) := by decide +kernel
theorem dX9_beginTimes_23 : decode cX9_beginTimes 23 = .ok (.aload_n 0, 1) := by decide +kernel
theorem dX9_beginTimes_24 : decode cX9_beginTimes 24 = .ok (.getfield 57, 3) := by decide +kernel
theorem dX9_beginTimes_27 : decode cX9_beginTimes 27 = .ok (.if_icmp .ge 64, 3) := by decide +kernel
theorem dX9_beginTimes_30 : decode cX9_beginTimes 30 = .ok (.bipush 8, 2) := by decide +kernel
theorem dX9_beginTimes_32 : decode cX9_beginTimes 32 = .ok (.iload_n 2, 1) := by decide +kernel
theorem dX9_beginTimes_33 : decode cX9_beginTimes 33 = .ok (.imul, 1) := by decide +kernel
theorem dX9_beginTimes_34 : decode cX9_beginTimes 34 = .ok (.istore_n 3, 1) := by decide +kernel
theorem dX9_beginTimes_35 : decode cX9_beginTimes 35 = .ok (.iload_n 3, 1) := by decide +kernel
theorem dX9_beginTimes_36 : decode cX9_beginTimes 36 = .ok (.aload_n 0, 1) := by decide +kernel
theorem dX9_beginTimes_37 : decode cX9_beginTimes 37 = .ok (.iload_n 2, 1) := by decide +kernel
theorem dX9_beginTimes_38 : decode cX9_beginTimes 38 = .ok (.invokevirtual 84, 3) := by decide +kernel
theorem dX9_beginTimes_41 : decode cX9_beginTimes 41 = .ok (.if_icmp .gt 22, 3) := by decide +kernel
theorem dX9_beginTimes_44 : decode cX9_beginTimes 44 = .ok (.aload_n 0, 1) := by decide +kernel
theorem dX9_beginTimes_45 : decode cX9_beginTimes 45 = .ok (.aload_n 0, 1) := by decide +kernel
theorem dX9_beginTimes_46 : decode cX9_beginTimes 46 = .ok (.getfield 16, 3) := by decide +kernel
theorem dX9_beginTimes_49 : decode cX9_beginTimes 49 = .ok (.iload_n 3, 1) := by decide +kernel
theorem dX9_beginTimes_50 : decode cX9_beginTimes 50 = .ok (.iaload, 1) := by decide +kernel
theorem dX9_beginTimes_51 : decode cX9_beginTimes 51 = .ok (.i2l, 1) := by decide +kernel
theorem dX9_beginTimes_52 : decode cX9_beginTimes 52 = .ok (.lconst 1, 1) := by decide +kernel
theorem dX9_beginTimes_53 : decode cX9_beginTimes 53 = .ok (.iload_n 1, 1) := by decide +kernel
theorem dX9_beginTimes_54 : decode cX9_beginTimes 54 = .ok (.invokevirtual 174, 3) := by decide +kernel
theorem dX9_beginTimes_57 : decode cX9_beginTimes 57 = .ok (.iinc 3 1, 3) := by decide +kernel
theorem dX9_beginTimes_60 : decode cX9_beginTimes 60 = .ok (.goto (-25), 3) := by decide +kernel
theorem dX9_beginTimes_63 : decode cX9_beginTimes 63 = .ok (.aload_n 0, 1) := by decide +kernel
theorem dX9_beginTimes_64 : decode cX9_beginTimes 64 = .ok (.getfield 7, 3) := by decide +kernel
theorem dX9_beginTimes_67 : decode cX9_beginTimes 67 = .ok (.iload_n 2, 1) := by decide +kernel
theorem dX9_beginTimes_68 : decode cX9_beginTimes 68 = .ok (.iaload, 1) := by decide +kernel
theorem dX9_beginTimes_69 : decode cX9_beginTimes 69 = .ok (.ifCond .lt 16, 3) := by decide +kernel
theorem dX9_beginTimes_72 : decode cX9_beginTimes 72 = .ok (.aload_n 0, 1) := by decide +kernel
theorem dX9_beginTimes_73 : decode cX9_beginTimes 73 = .ok (.aload_n 0, 1) := by decide +kernel
theorem dX9_beginTimes_74 : decode cX9_beginTimes 74 = .ok (.getfield 7, 3) := by decide +kernel
theorem dX9_beginTimes_77 : decode cX9_beginTimes 77 = .ok (.iload_n 2, 1) := by decide +kernel
theorem dX9_beginTimes_78 : decode cX9_beginTimes 78 = .ok (.iaload, 1) := by decide +kernel
theorem dX9_beginTimes_79 : decode cX9_beginTimes 79 = .ok (.i2l, 1) := by decide +kernel
theorem dX9_beginTimes_80 : decode cX9_beginTimes 80 = .ok (.lconst 1, 1) := by decide +kernel
theorem dX9_beginTimes_81 : decode cX9_beginTimes 81 = .ok (.iload_n 1, 1) := by decide +kernel
theorem dX9_beginTimes_82 : decode cX9_beginTimes 82 = .ok (.invokevirtual 174, 3) := by decide +kernel
theorem dX9_beginTimes_85 : decode cX9_beginTimes 85 = .ok (.iinc 2 1, 3) := by decide +kernel
theorem dX9_beginTimes_88 : decode cX9_beginTimes 88 = .ok (.goto (-66), 3) := by decide +kernel
theorem dX9_beginTimes_91 : decode cX9_beginTimes 91 = .ok (.return_, 1) := by decide +kernel
set_option maxRecDepth 20000 in
theorem ggX9_addZero_X9_addTime : GoodIn wsX9_addZero wsX9_addTime := goodIn_r _ [5, 6, 7, 8, 9, 10, 11, 12, 13, 14, 15, 16, 17, 18, 19, 20, 21, 22, 23, 24, 25, 26, 27, 28, 29, 30, 31, 32, 33, 34] (by decide +kernel) (by decide +kernel)
set_option maxRecDepth 20000 in
theorem gX9_addZero_X9_addTime : GoodIn wsX9_addZero (wsV RX9 174 RX9 yX9_addTime wsX9_addTime) := goodIn_app (goodIn_of _ (by decide +kernel)) ggX9_addZero_X9_addTime
theorem dX9_addZero_0 : decode cX9_addZero 0 = .ok (.lload_n 3, 1) := by decide +kernel
theorem dX9_addZero_1 : decode cX9_addZero 1 = .ok (.lconst 0, 1) := by decide +kernel
theorem dX9_addZero_2 : decode cX9_addZero 2 = .ok (.lcmp, 1) := by decide +kernel
theorem dX9_addZero_3 : decode cX9_addZero 3 = .ok (.ifCond .ne 4, 3) := by decide +kernel
theorem dX9_addZero_6 : decode cX9_addZero 6 = .ok (.return_, 1) := by decide +kernel
theorem dX9_addZero_7 : decode cX9_addZero 7 = .ok (.lload_n 3, 1) := by decide +kernel
theorem dX9_addZero_8 : decode cX9_addZero 8 = .ok (.lconst 0, 1) := by decide +kernel
theorem dX9_addZero_9 : decode cX9_addZero 9 = .ok (.lcmp, 1) := by decide +kernel
theorem dX9_addZero_10 : decode cX9_addZero 10 = .ok (.ifCond .le 12, 3) := by decide +kernel
theorem dX9_addZero_13 : decode cX9_addZero 13 = .ok (.lload 5, 2) := by decide +kernel
theorem dX9_addZero_15 : decode cX9_addZero 15 = .ok (.lload_n 3, 1) := by decide +kernel
theorem dX9_addZero_16 : decode cX9_addZero 16 = .ok (.lmul, 1) := by decide +kernel
theorem dX9_addZero_17 : decode cX9_addZero 17 = .ok (.lload_n 1, 1) := by decide +kernel
theorem dX9_addZero_18 : decode cX9_addZero 18 = .ok (.lsub, 1) := by decide +kernel
theorem dX9_addZero_19 : decode cX9_addZero 19 = .ok (.goto 9, 3) := by decide +kernel
theorem dX9_addZero_22 : decode cX9_addZero 22 = .ok (.lload_n 1, 1) := by decide +kernel
theorem dX9_addZero_23 : decode cX9_addZero 23 = .ok (.lload 5, 2) := by decide +kernel
theorem dX9_addZero_25 : decode cX9_addZero 25 = .ok (.lload_n 3, 1) := by decide +kernel
theorem dX9_addZero_26 : decode cX9_addZero 26 = .ok (.lmul, 1) := by decide +kernel
theorem dX9_addZero_27 : decode cX9_addZero 27 = .ok (.lsub, 1) := by decide +kernel
theorem dX9_addZero_28 : decode cX9_addZero 28 = .ok (.lstore 10, 2) := by decide +kernel
theorem dX9_addZero_30 : decode cX9_addZero 30 = .ok (.lload_n 3, 1) := by decide +kernel
theorem dX9_addZero_31 : decode cX9_addZero 31 = .ok (.lconst 0, 1) := by decide +kernel
theorem dX9_addZero_32 : decode cX9_addZero 32 = .ok (.lcmp, 1) := by decide +kernel
theorem dX9_addZero_33 : decode cX9_addZero 33 = .ok (.ifCond .le 7, 3) := by decide +kernel
theorem dX9_addZero_36 : decode cX9_addZero 36 = .ok (.lload_n 3, 1) := by decide +kernel
theorem dX9_addZero_37 : decode cX9_addZero 37 = .ok (.goto 5, 3) := by decide +kernel
theorem dX9_addZero_40 : decode cX9_addZero 40 = .ok (.lload_n 3, 1) := by decide +kernel
theorem dX9_addZero_41 : decode cX9_addZero 41 = .ok (.lneg, 1) := by decide +kernel
theorem dX9_addZero_42 : decode cX9_addZero 42 = .ok (.lstore 12, 2) := by decide +kernel
theorem dX9_addZero_44 : decode cX9_addZero 44 = .ok (.lload 10, 2) := by decide +kernel
theorem dX9_addZero_46 : decode cX9_addZero 46 = .ok (.lload 5, 2) := by decide +kernel
theorem dX9_addZero_48 : decode cX9_addZero 48 = .ok (.lload 12, 2) := by decide +kernel
theorem dX9_addZero_50 : decode cX9_addZero 50 = .ok (.lmul, 1) := by decide +kernel
theorem dX9_addZero_51 : decode cX9_addZero 51 = .ok (.lcmp, 1) := by decide +kernel
theorem dX9_addZero_52 : decode cX9_addZero 52 = .ok (.ifCond .lt 24, 3) := by decide +kernel
theorem dX9_addZero_55 : decode cX9_addZero 55 = .ok (.lload 10, 2) := by decide +kernel
theorem dX9_addZero_57 : decode cX9_addZero 57 = .ok (.lload 7, 2) := by decide +kernel
theorem dX9_addZero_59 : decode cX9_addZero 59 = .ok (.lload 12, 2) := by decide +kernel
theorem dX9_addZero_61 : decode cX9_addZero 61 = .ok (.lmul, 1) := by decide +kernel
theorem dX9_addZero_62 : decode cX9_addZero 62 = .ok (.lcmp, 1) := by decide +kernel
theorem dX9_addZero_63 : decode cX9_addZero 63 = .ok (.ifCond .gt 13, 3) := by decide +kernel
theorem dX9_addZero_66 : decode cX9_addZero 66 = .ok (.aload_n 0, 1) := by decide +kernel
theorem dX9_addZero_67 : decode cX9_addZero 67 = .ok (.lload 10, 2) := by decide +kernel
theorem dX9_addZero_69 : decode cX9_addZero 69 = .ok (.lload 12, 2) := by decide +kernel
theorem dX9_addZero_71 : decode cX9_addZero 71 = .ok (.iload 9, 2) := by decide +kernel
theorem dX9_addZero_73 : decode cX9_addZero 73 = .ok (.invokevirtual 174, 3) := by decide +kernel
theorem dX9_addZero_76 : decode cX9_addZero 76 = .ok (.return_, 1) := by decide +kernel
set_option maxRecDepth 20000 in
theorem ggX9_addApart_X9_latest : GoodIn wsX9_addApart wsX9_latest := goodIn_r _ [8, 9, 33, 34, 35, 36, 37, 38, 39, 40, 41, 42, 43, 44, 45, 46, 47, 48, 49, 50, 51, 52, 53, 54, 55, 56, 57, 58] (by decide +kernel) (by decide +kernel)
set_option maxRecDepth 20000 in
theorem gX9_addApart_X9_latest : GoodIn wsX9_addApart (wsV RX9 84 RX9 yX9_latest wsX9_latest) := goodIn_app (goodIn_of _ (by decide +kernel)) ggX9_addApart_X9_latest
set_option maxRecDepth 20000 in
theorem ggX9_addApart_X9_most : GoodIn wsX9_addApart wsX9_most := goodIn_r _ [12] (by decide +kernel) (by decide +kernel)
set_option maxRecDepth 20000 in
theorem gX9_addApart_X9_most : GoodIn wsX9_addApart (va_wsS RX9 147 yX9_most wsX9_most) := goodIn_app (goodIn_of _ (by decide +kernel)) ggX9_addApart_X9_most
set_option maxRecDepth 20000 in
theorem ggX9_addApart_X9_endOf : GoodIn wsX9_addApart wsX9_endOf := goodIn_r _ [16, 1, 17, 18, 4, 5, 6, 7, 8, 9, 19, 20, 21, 33, 34, 35, 36, 37, 38, 39, 40, 41, 42, 43, 44, 45, 46, 47, 48, 49, 50, 51, 52, 53, 54, 55, 56, 57, 58] (by decide +kernel) (by decide +kernel)
set_option maxRecDepth 20000 in
theorem gX9_addApart_X9_endOf : GoodIn wsX9_addApart (wsV RX9 150 RX9 yX9_endOf wsX9_endOf) := goodIn_app (goodIn_of _ (by decide +kernel)) ggX9_addApart_X9_endOf
set_option maxRecDepth 20000 in
theorem ggX9_addApart_X9_least : GoodIn wsX9_addApart wsX9_least := goodIn_r _ [21] (by decide +kernel) (by decide +kernel)
set_option maxRecDepth 20000 in
theorem gX9_addApart_X9_least : GoodIn wsX9_addApart (va_wsS RX9 143 yX9_least wsX9_least) := goodIn_app (goodIn_of _ (by decide +kernel)) ggX9_addApart_X9_least
set_option maxRecDepth 20000 in
theorem ggX9_addApart_X9_addZero : GoodIn wsX9_addApart wsX9_addZero := goodIn_r _ [25, 26, 27, 28, 7, 29, 30, 31, 32, 33, 34, 35, 36, 37, 38, 39, 40, 41, 42, 43, 44, 45, 46, 47, 48, 49, 50, 51, 52, 53, 54, 55, 56, 57, 58] (by decide +kernel) (by decide +kernel)
set_option maxRecDepth 20000 in
theorem gX9_addApart_X9_addZero : GoodIn wsX9_addApart (wsV RX9 178 RX9 yX9_addZero wsX9_addZero) := goodIn_app (goodIn_of _ (by decide +kernel)) ggX9_addApart_X9_addZero
theorem dX9_addApart_0 : decode cX9_addApart 0 = .ok (.bipush 8, 2) := by decide +kernel
theorem dX9_addApart_2 : decode cX9_addApart 2 = .ok (.iload_n 1, 1) := by decide +kernel
theorem dX9_addApart_3 : decode cX9_addApart 3 = .ok (.imul, 1) := by decide +kernel
theorem dX9_addApart_4 : decode cX9_addApart 4 = .ok (.istore 6, 2) := by decide +kernel
theorem dX9_addApart_6 : decode cX9_addApart 6 = .ok (.iload 6, 2) := by decide +kernel
theorem dX9_addApart_8 : decode cX9_addApart 8 = .ok (.aload_n 0, 1) := by decide +kernel
theorem dX9_addApart_9 : decode cX9_addApart 9 = .ok (.iload_n 1, 1) := by decide +kernel
theorem dX9_addApart_10 : decode cX9_addApart 10 = .ok (.invokevirtual 84, 3) := by decide +kernel
theorem dX9_addApart_13 : decode cX9_addApart 13 = .ok (.if_icmp .gt 169, 3) := by decide +kernel
theorem dX9_addApart_16 : decode cX9_addApart 16 = .ok (.bipush 8, 2) := by decide +kernel
theorem dX9_addApart_18 : decode cX9_addApart 18 = .ok (.iload_n 2, 1) := by decide +kernel
theorem dX9_addApart_19 : decode cX9_addApart 19 = .ok (.imul, 1) := by decide +kernel
theorem dX9_addApart_20 : decode cX9_addApart 20 = .ok (.istore 7, 2) := by decide +kernel
theorem dX9_addApart_22 : decode cX9_addApart 22 = .ok (.iload 7, 2) := by decide +kernel
theorem dX9_addApart_24 : decode cX9_addApart 24 = .ok (.aload_n 0, 1) := by decide +kernel
theorem dX9_addApart_25 : decode cX9_addApart 25 = .ok (.iload_n 2, 1) := by decide +kernel
theorem dX9_addApart_26 : decode cX9_addApart 26 = .ok (.invokevirtual 84, 3) := by decide +kernel
theorem dX9_addApart_29 : decode cX9_addApart 29 = .ok (.if_icmp .gt 147, 3) := by decide +kernel
theorem dX9_addApart_32 : decode cX9_addApart 32 = .ok (.aload_n 0, 1) := by decide +kernel
theorem dX9_addApart_33 : decode cX9_addApart 33 = .ok (.getfield 16, 3) := by decide +kernel
theorem dX9_addApart_36 : decode cX9_addApart 36 = .ok (.iload 6, 2) := by decide +kernel
theorem dX9_addApart_38 : decode cX9_addApart 38 = .ok (.iaload, 1) := by decide +kernel
theorem dX9_addApart_39 : decode cX9_addApart 39 = .ok (.aload_n 0, 1) := by decide +kernel
theorem dX9_addApart_40 : decode cX9_addApart 40 = .ok (.getfield 16, 3) := by decide +kernel
theorem dX9_addApart_43 : decode cX9_addApart 43 = .ok (.iload 7, 2) := by decide +kernel
theorem dX9_addApart_45 : decode cX9_addApart 45 = .ok (.iaload, 1) := by decide +kernel
theorem dX9_addApart_46 : decode cX9_addApart 46 = .ok (.invokestatic 147, 3) := by decide +kernel
theorem dX9_addApart_49 : decode cX9_addApart 49 = .ok (.istore 8, 2) := by decide +kernel
theorem dX9_addApart_51 : decode cX9_addApart 51 = .ok (.aload_n 0, 1) := by decide +kernel
theorem dX9_addApart_52 : decode cX9_addApart 52 = .ok (.iload_n 1, 1) := by decide +kernel
theorem dX9_addApart_53 : decode cX9_addApart 53 = .ok (.iload 6, 2) := by decide +kernel
theorem dX9_addApart_55 : decode cX9_addApart 55 = .ok (.invokevirtual 150, 3) := by decide +kernel
theorem dX9_addApart_58 : decode cX9_addApart 58 = .ok (.aload_n 0, 1) := by decide +kernel
theorem dX9_addApart_59 : decode cX9_addApart 59 = .ok (.iload_n 2, 1) := by decide +kernel
theorem dX9_addApart_60 : decode cX9_addApart 60 = .ok (.iload 7, 2) := by decide +kernel
theorem dX9_addApart_62 : decode cX9_addApart 62 = .ok (.invokevirtual 150, 3) := by decide +kernel
theorem dX9_addApart_65 : decode cX9_addApart 65 = .ok (.invokestatic 143, 3) := by decide +kernel
theorem dX9_addApart_68 : decode cX9_addApart 68 = .ok (.istore 9, 2) := by decide +kernel
theorem dX9_addApart_70 : decode cX9_addApart 70 = .ok (.aload_n 0, 1) := by decide +kernel
theorem dX9_addApart_71 : decode cX9_addApart 71 = .ok (.getfield 19, 3) := by decide +kernel
theorem dX9_addApart_74 : decode cX9_addApart 74 = .ok (.iload 6, 2) := by decide +kernel
theorem dX9_addApart_76 : decode cX9_addApart 76 = .ok (.iaload, 1) := by decide +kernel
theorem dX9_addApart_77 : decode cX9_addApart 77 = .ok (.i2l, 1) := by decide +kernel
theorem dX9_addApart_78 : decode cX9_addApart 78 = .ok (.aload_n 0, 1) := by decide +kernel
theorem dX9_addApart_79 : decode cX9_addApart 79 = .ok (.getfield 22, 3) := by decide +kernel
theorem dX9_addApart_82 : decode cX9_addApart 82 = .ok (.iload 6, 2) := by decide +kernel
theorem dX9_addApart_84 : decode cX9_addApart 84 = .ok (.iaload, 1) := by decide +kernel
theorem dX9_addApart_85 : decode cX9_addApart 85 = .ok (.i2l, 1) := by decide +kernel
theorem dX9_addApart_86 : decode cX9_addApart 86 = .ok (.iload 8, 2) := by decide +kernel
theorem dX9_addApart_88 : decode cX9_addApart 88 = .ok (.aload_n 0, 1) := by decide +kernel
theorem dX9_addApart_89 : decode cX9_addApart 89 = .ok (.getfield 16, 3) := by decide +kernel
theorem dX9_addApart_92 : decode cX9_addApart 92 = .ok (.iload 6, 2) := by decide +kernel
theorem dX9_addApart_94 : decode cX9_addApart 94 = .ok (.iaload, 1) := by decide +kernel
theorem dX9_addApart_95 : decode cX9_addApart 95 = .ok (.isub, 1) := by decide +kernel
theorem dX9_addApart_96 : decode cX9_addApart 96 = .ok (.i2l, 1) := by decide +kernel
theorem dX9_addApart_97 : decode cX9_addApart 97 = .ok (.lmul, 1) := by decide +kernel
theorem dX9_addApart_98 : decode cX9_addApart 98 = .ok (.ladd, 1) := by decide +kernel
theorem dX9_addApart_99 : decode cX9_addApart 99 = .ok (.aload_n 0, 1) := by decide +kernel
theorem dX9_addApart_100 : decode cX9_addApart 100 = .ok (.getfield 19, 3) := by decide +kernel
theorem dX9_addApart_103 : decode cX9_addApart 103 = .ok (.iload 7, 2) := by decide +kernel
theorem dX9_addApart_105 : decode cX9_addApart 105 = .ok (.iaload, 1) := by decide +kernel
theorem dX9_addApart_106 : decode cX9_addApart 106 = .ok (.i2l, 1) := by decide +kernel
theorem dX9_addApart_107 : decode cX9_addApart 107 = .ok (.lsub, 1) := by decide +kernel
theorem dX9_addApart_108 : decode cX9_addApart 108 = .ok (.aload_n 0, 1) := by decide +kernel
theorem dX9_addApart_109 : decode cX9_addApart 109 = .ok (.getfield 22, 3) := by decide +kernel
theorem dX9_addApart_112 : decode cX9_addApart 112 = .ok (.iload 7, 2) := by decide +kernel
theorem dX9_addApart_114 : decode cX9_addApart 114 = .ok (.iaload, 1) := by decide +kernel
theorem dX9_addApart_115 : decode cX9_addApart 115 = .ok (.i2l, 1) := by decide +kernel
theorem dX9_addApart_116 : decode cX9_addApart 116 = .ok (.iload 8, 2) := by decide +kernel
theorem dX9_addApart_118 : decode cX9_addApart 118 = .ok (.aload_n 0, 1) := by decide +kernel
theorem dX9_addApart_119 : decode cX9_addApart 119 = .ok (.getfield 16, 3) := by decide +kernel
theorem dX9_addApart_122 : decode cX9_addApart 122 = .ok (.iload 7, 2) := by decide +kernel
theorem dX9_addApart_124 : decode cX9_addApart 124 = .ok (.iaload, 1) := by decide +kernel
theorem dX9_addApart_125 : decode cX9_addApart 125 = .ok (.isub, 1) := by decide +kernel
theorem dX9_addApart_126 : decode cX9_addApart 126 = .ok (.i2l, 1) := by decide +kernel
theorem dX9_addApart_127 : decode cX9_addApart 127 = .ok (.lmul, 1) := by decide +kernel
theorem dX9_addApart_128 : decode cX9_addApart 128 = .ok (.lsub, 1) := by decide +kernel
theorem dX9_addApart_129 : decode cX9_addApart 129 = .ok (.lstore 10, 2) := by decide +kernel
theorem dX9_addApart_131 : decode cX9_addApart 131 = .ok (.iload 8, 2) := by decide +kernel
theorem dX9_addApart_133 : decode cX9_addApart 133 = .ok (.iload 9, 2) := by decide +kernel
theorem dX9_addApart_135 : decode cX9_addApart 135 = .ok (.if_icmp .gt 35, 3) := by decide +kernel
theorem dX9_addApart_138 : decode cX9_addApart 138 = .ok (.aload_n 0, 1) := by decide +kernel
theorem dX9_addApart_139 : decode cX9_addApart 139 = .ok (.lload 10, 2) := by decide +kernel
theorem dX9_addApart_141 : decode cX9_addApart 141 = .ok (.lload_n 3, 1) := by decide +kernel
theorem dX9_addApart_142 : decode cX9_addApart 142 = .ok (.lsub, 1) := by decide +kernel
theorem dX9_addApart_143 : decode cX9_addApart 143 = .ok (.aload_n 0, 1) := by decide +kernel
theorem dX9_addApart_144 : decode cX9_addApart 144 = .ok (.getfield 22, 3) := by decide +kernel
theorem dX9_addApart_147 : decode cX9_addApart 147 = .ok (.iload 6, 2) := by decide +kernel
theorem dX9_addApart_149 : decode cX9_addApart 149 = .ok (.iaload, 1) := by decide +kernel
theorem dX9_addApart_150 : decode cX9_addApart 150 = .ok (.aload_n 0, 1) := by decide +kernel
theorem dX9_addApart_151 : decode cX9_addApart 151 = .ok (.getfield 22, 3) := by decide +kernel
theorem dX9_addApart_154 : decode cX9_addApart 154 = .ok (.iload 7, 2) := by decide +kernel
theorem dX9_addApart_156 : decode cX9_addApart 156 = .ok (.iaload, 1) := by decide +kernel
theorem dX9_addApart_157 : decode cX9_addApart 157 = .ok (.isub, 1) := by decide +kernel
theorem dX9_addApart_158 : decode cX9_addApart 158 = .ok (.i2l, 1) := by decide +kernel
theorem dX9_addApart_159 : decode cX9_addApart 159 = .ok (.iload 8, 2) := by decide +kernel
theorem dX9_addApart_161 : decode cX9_addApart 161 = .ok (.i2l, 1) := by decide +kernel
theorem dX9_addApart_162 : decode cX9_addApart 162 = .ok (.iload 9, 2) := by decide +kernel
theorem dX9_addApart_164 : decode cX9_addApart 164 = .ok (.i2l, 1) := by decide +kernel
theorem dX9_addApart_165 : decode cX9_addApart 165 = .ok (.iload 5, 2) := by decide +kernel
theorem dX9_addApart_167 : decode cX9_addApart 167 = .ok (.invokevirtual 178, 3) := by decide +kernel
theorem dX9_addApart_170 : decode cX9_addApart 170 = .ok (.iinc 7 1, 3) := by decide +kernel
theorem dX9_addApart_173 : decode cX9_addApart 173 = .ok (.goto (-151), 3) := by decide +kernel
theorem dX9_addApart_176 : decode cX9_addApart 176 = .ok (.iinc 6 1, 3) := by decide +kernel
theorem dX9_addApart_179 : decode cX9_addApart 179 = .ok (.goto (-173), 3) := by decide +kernel
theorem dX9_addApart_182 : decode cX9_addApart 182 = .ok (.return_, 1) := by decide +kernel
set_option maxRecDepth 20000 in
theorem ggX9_addAt_X9_latest : GoodIn wsX9_addAt wsX9_latest := goodIn_r _ [8, 9, 30, 31, 32, 33, 34, 35, 36, 37, 38, 39, 40, 41, 42, 43, 44, 45, 46, 47, 48, 49, 50, 51, 52, 53, 54, 55] (by decide +kernel) (by decide +kernel)
set_option maxRecDepth 20000 in
theorem gX9_addAt_X9_latest : GoodIn wsX9_addAt (wsV RX9 84 RX9 yX9_latest wsX9_latest) := goodIn_app (goodIn_of _ (by decide +kernel)) ggX9_addAt_X9_latest
set_option maxRecDepth 20000 in
theorem ggX9_addAt_X9_endOf : GoodIn wsX9_addAt wsX9_endOf := goodIn_r _ [13, 3, 14, 15, 4, 5, 6, 7, 8, 9, 16, 17, 18, 30, 31, 32, 33, 34, 35, 36, 37, 38, 39, 40, 41, 42, 43, 44, 45, 46, 47, 48, 49, 50, 51, 52, 53, 54, 55] (by decide +kernel) (by decide +kernel)
set_option maxRecDepth 20000 in
theorem gX9_addAt_X9_endOf : GoodIn wsX9_addAt (wsV RX9 150 RX9 yX9_endOf wsX9_endOf) := goodIn_app (goodIn_of _ (by decide +kernel)) ggX9_addAt_X9_endOf
set_option maxRecDepth 20000 in
theorem ggX9_addAt_X9_addZero : GoodIn wsX9_addAt wsX9_addZero := goodIn_r _ [22, 23, 24, 25, 7, 26, 27, 28, 29, 30, 31, 32, 33, 34, 35, 36, 37, 38, 39, 40, 41, 42, 43, 44, 45, 46, 47, 48, 49, 50, 51, 52, 53, 54, 55] (by decide +kernel) (by decide +kernel)
set_option maxRecDepth 20000 in
theorem gX9_addAt_X9_addZero : GoodIn wsX9_addAt (wsV RX9 178 RX9 yX9_addZero wsX9_addZero) := goodIn_app (goodIn_of _ (by decide +kernel)) ggX9_addAt_X9_addZero
theorem dX9_addAt_0 : decode cX9_addAt 0 = .ok (.bipush 8, 2) := by decide +kernel
theorem dX9_addAt_2 : decode cX9_addAt 2 = .ok (.iload_n 1, 1) := by decide +kernel
theorem dX9_addAt_3 : decode cX9_addAt 3 = .ok (.imul, 1) := by decide +kernel
theorem dX9_addAt_4 : decode cX9_addAt 4 = .ok (.istore 5, 2) := by decide +kernel
theorem dX9_addAt_6 : decode cX9_addAt 6 = .ok (.iload 5, 2) := by decide +kernel
theorem dX9_addAt_8 : decode cX9_addAt 8 = .ok (.aload_n 0, 1) := by decide +kernel
theorem dX9_addAt_9 : decode cX9_addAt 9 = .ok (.iload_n 1, 1) := by decide +kernel
theorem dX9_addAt_10 : decode cX9_addAt 10 = .ok (.invokevirtual 84, 3) := by decide +kernel
theorem dX9_addAt_13 : decode cX9_addAt 13 = .ok (.if_icmp .gt 49, 3) := by decide +kernel
theorem dX9_addAt_16 : decode cX9_addAt 16 = .ok (.aload_n 0, 1) := by decide +kernel
theorem dX9_addAt_17 : decode cX9_addAt 17 = .ok (.aload_n 0, 1) := by decide +kernel
theorem dX9_addAt_18 : decode cX9_addAt 18 = .ok (.getfield 19, 3) := by decide +kernel
theorem dX9_addAt_21 : decode cX9_addAt 21 = .ok (.iload 5, 2) := by decide +kernel
theorem dX9_addAt_23 : decode cX9_addAt 23 = .ok (.iaload, 1) := by decide +kernel
theorem dX9_addAt_24 : decode cX9_addAt 24 = .ok (.i2l, 1) := by decide +kernel
theorem dX9_addAt_25 : decode cX9_addAt 25 = .ok (.lload_n 2, 1) := by decide +kernel
theorem dX9_addAt_26 : decode cX9_addAt 26 = .ok (.lsub, 1) := by decide +kernel
theorem dX9_addAt_27 : decode cX9_addAt 27 = .ok (.aload_n 0, 1) := by decide +kernel
theorem dX9_addAt_28 : decode cX9_addAt 28 = .ok (.getfield 22, 3) := by decide +kernel
theorem dX9_addAt_31 : decode cX9_addAt 31 = .ok (.iload 5, 2) := by decide +kernel
theorem dX9_addAt_33 : decode cX9_addAt 33 = .ok (.iaload, 1) := by decide +kernel
theorem dX9_addAt_34 : decode cX9_addAt 34 = .ok (.i2l, 1) := by decide +kernel
theorem dX9_addAt_35 : decode cX9_addAt 35 = .ok (.aload_n 0, 1) := by decide +kernel
theorem dX9_addAt_36 : decode cX9_addAt 36 = .ok (.getfield 16, 3) := by decide +kernel
theorem dX9_addAt_39 : decode cX9_addAt 39 = .ok (.iload 5, 2) := by decide +kernel
theorem dX9_addAt_41 : decode cX9_addAt 41 = .ok (.iaload, 1) := by decide +kernel
theorem dX9_addAt_42 : decode cX9_addAt 42 = .ok (.i2l, 1) := by decide +kernel
theorem dX9_addAt_43 : decode cX9_addAt 43 = .ok (.aload_n 0, 1) := by decide +kernel
theorem dX9_addAt_44 : decode cX9_addAt 44 = .ok (.iload_n 1, 1) := by decide +kernel
theorem dX9_addAt_45 : decode cX9_addAt 45 = .ok (.iload 5, 2) := by decide +kernel
theorem dX9_addAt_47 : decode cX9_addAt 47 = .ok (.invokevirtual 150, 3) := by decide +kernel
theorem dX9_addAt_50 : decode cX9_addAt 50 = .ok (.i2l, 1) := by decide +kernel
theorem dX9_addAt_51 : decode cX9_addAt 51 = .ok (.iload 4, 2) := by decide +kernel
theorem dX9_addAt_53 : decode cX9_addAt 53 = .ok (.invokevirtual 178, 3) := by decide +kernel
theorem dX9_addAt_56 : decode cX9_addAt 56 = .ok (.iinc 5 1, 3) := by decide +kernel
theorem dX9_addAt_59 : decode cX9_addAt 59 = .ok (.goto (-53), 3) := by decide +kernel
theorem dX9_addAt_62 : decode cX9_addAt 62 = .ok (.return_, 1) := by decide +kernel
set_option maxRecDepth 20000 in
theorem ggX9_isSo_X9_placeAt : GoodIn wsX9_isSo wsX9_placeAt := goodIn_r _ [11, 12, 13, 14, 15, 16, 17, 10, 18, 19, 29, 30, 31, 32, 33, 34, 35, 36, 37, 38, 39, 40, 41, 42, 43, 44, 45, 46, 47, 48, 49, 50, 51, 52, 53, 54] (by decide +kernel) (by decide +kernel)
set_option maxRecDepth 20000 in
theorem gX9_isSo_X9_placeAt : GoodIn wsX9_isSo (wsV RX9 118 RX9 yX9_placeAt wsX9_placeAt) := goodIn_app (goodIn_of _ (by decide +kernel)) ggX9_isSo_X9_placeAt
set_option maxRecDepth 20000 in
theorem ggX9_isSo_X9_isThereBoth : GoodIn wsX9_isSo wsX9_isThereBoth := goodIn_r _ [23, 24, 25, 26, 10, 27, 12, 28, 29, 30, 31, 32, 33, 34, 35, 36, 37, 38, 39, 40, 41, 42, 43, 44, 45, 46, 47, 48, 49, 50, 51, 52, 53, 54] (by decide +kernel) (by decide +kernel)
set_option maxRecDepth 20000 in
theorem gX9_isSo_X9_isThereBoth : GoodIn wsX9_isSo (wsV RX9 153 RX9 yX9_isThereBoth wsX9_isThereBoth) := goodIn_app (goodIn_of _ (by decide +kernel)) ggX9_isSo_X9_isThereBoth
set_option maxRecDepth 20000 in
theorem ggX9_isSo_X9_isThere : GoodIn wsX9_isSo wsX9_isThere := goodIn_r _ [27, 12, 28, 29, 30, 31, 32, 33, 34, 35, 36, 37, 38, 39, 40, 41, 42, 43, 44, 45, 46, 47, 48, 49, 50, 51, 52, 53, 54] (by decide +kernel) (by decide +kernel)
set_option maxRecDepth 20000 in
theorem gX9_isSo_X9_isThere : GoodIn wsX9_isSo (wsV RX9 90 RX9 yX9_isThere wsX9_isThere) := goodIn_app (goodIn_of _ (by decide +kernel)) ggX9_isSo_X9_isThere
theorem dX9_isSo_0 : decode cX9_isSo 0 = .ok (.aload_n 0, 1) := by decide +kernel
theorem dX9_isSo_1 : decode cX9_isSo 1 = .ok (.getfield 182, 3) := by decide +kernel
theorem dX9_isSo_4 : decode cX9_isSo 4 = .ok (.ifCond .ne 74, 3) := by decide +kernel
theorem dX9_isSo_7 : decode cX9_isSo 7 = .ok (.aload_n 0, 1) := by decide +kernel
theorem dX9_isSo_8 : decode cX9_isSo 8 = .ok (.aload_n 0, 1) := by decide +kernel
theorem dX9_isSo_9 : decode cX9_isSo 9 = .ok (.getfield 185, 3) := by decide +kernel
theorem dX9_isSo_12 : decode cX9_isSo 12 = .ok (.lload_n 1, 1) := by decide +kernel
theorem dX9_isSo_13 : decode cX9_isSo 13 = .ok (.lload_n 3, 1) := by decide +kernel
theorem dX9_isSo_14 : decode cX9_isSo 14 = .ok (.invokevirtual 118, 3) := by decide +kernel
theorem dX9_isSo_17 : decode cX9_isSo 17 = .ok (.aload_n 0, 1) := by decide +kernel
theorem dX9_isSo_18 : decode cX9_isSo 18 = .ok (.aload_n 0, 1) := by decide +kernel
theorem dX9_isSo_19 : decode cX9_isSo 19 = .ok (.getfield 188, 3) := by decide +kernel
theorem dX9_isSo_22 : decode cX9_isSo 22 = .ok (.lload_n 1, 1) := by decide +kernel
theorem dX9_isSo_23 : decode cX9_isSo 23 = .ok (.lload_n 3, 1) := by decide +kernel
theorem dX9_isSo_24 : decode cX9_isSo 24 = .ok (.invokevirtual 118, 3) := by decide +kernel
theorem dX9_isSo_27 : decode cX9_isSo 27 = .ok (.lsub, 1) := by decide +kernel
theorem dX9_isSo_28 : decode cX9_isSo 28 = .ok (.lstore 5, 2) := by decide +kernel
theorem dX9_isSo_30 : decode cX9_isSo 30 = .ok (.aload_n 0, 1) := by decide +kernel
theorem dX9_isSo_31 : decode cX9_isSo 31 = .ok (.aload_n 0, 1) := by decide +kernel
theorem dX9_isSo_32 : decode cX9_isSo 32 = .ok (.getfield 185, 3) := by decide +kernel
theorem dX9_isSo_35 : decode cX9_isSo 35 = .ok (.aload_n 0, 1) := by decide +kernel
theorem dX9_isSo_36 : decode cX9_isSo 36 = .ok (.getfield 188, 3) := by decide +kernel
theorem dX9_isSo_39 : decode cX9_isSo 39 = .ok (.lload_n 1, 1) := by decide +kernel
theorem dX9_isSo_40 : decode cX9_isSo 40 = .ok (.lload_n 3, 1) := by decide +kernel
theorem dX9_isSo_41 : decode cX9_isSo 41 = .ok (.invokevirtual 153, 3) := by decide +kernel
theorem dX9_isSo_44 : decode cX9_isSo 44 = .ok (.ifCond .eq 32, 3) := by decide +kernel
theorem dX9_isSo_47 : decode cX9_isSo 47 = .ok (.lload 5, 2) := by decide +kernel
theorem dX9_isSo_49 : decode cX9_isSo 49 = .ok (.aload_n 0, 1) := by decide +kernel
theorem dX9_isSo_50 : decode cX9_isSo 50 = .ok (.getfield 191, 3) := by decide +kernel
theorem dX9_isSo_53 : decode cX9_isSo 53 = .ok (.lload_n 3, 1) := by decide +kernel
theorem dX9_isSo_54 : decode cX9_isSo 54 = .ok (.lmul, 1) := by decide +kernel
theorem dX9_isSo_55 : decode cX9_isSo 55 = .ok (.lcmp, 1) := by decide +kernel
theorem dX9_isSo_56 : decode cX9_isSo 56 = .ok (.ifCond .gt 20, 3) := by decide +kernel
theorem dX9_isSo_59 : decode cX9_isSo 59 = .ok (.lload 5, 2) := by decide +kernel
theorem dX9_isSo_61 : decode cX9_isSo 61 = .ok (.aload_n 0, 1) := by decide +kernel
theorem dX9_isSo_62 : decode cX9_isSo 62 = .ok (.getfield 191, 3) := by decide +kernel
theorem dX9_isSo_65 : decode cX9_isSo 65 = .ok (.lneg, 1) := by decide +kernel
theorem dX9_isSo_66 : decode cX9_isSo 66 = .ok (.lload_n 3, 1) := by decide +kernel
theorem dX9_isSo_67 : decode cX9_isSo 67 = .ok (.lmul, 1) := by decide +kernel
theorem dX9_isSo_68 : decode cX9_isSo 68 = .ok (.lcmp, 1) := by decide +kernel
theorem dX9_isSo_69 : decode cX9_isSo 69 = .ok (.ifCond .lt 7, 3) := by decide +kernel
theorem dX9_isSo_72 : decode cX9_isSo 72 = .ok (.iconst 1, 1) := by decide +kernel
theorem dX9_isSo_73 : decode cX9_isSo 73 = .ok (.goto 4, 3) := by decide +kernel
theorem dX9_isSo_76 : decode cX9_isSo 76 = .ok (.iconst 0, 1) := by decide +kernel
theorem dX9_isSo_77 : decode cX9_isSo 77 = .ok (.ireturn, 1) := by decide +kernel
theorem dX9_isSo_78 : decode cX9_isSo 78 = .ok (.iconst 0, 1) := by decide +kernel
theorem dX9_isSo_79 : decode cX9_isSo 79 = .ok (.istore 5, 2) := by decide +kernel
theorem dX9_isSo_81 : decode cX9_isSo 81 = .ok (.aload_n 0, 1) := by decide +kernel
theorem dX9_isSo_82 : decode cX9_isSo 82 = .ok (.getfield 182, 3) := by decide +kernel
theorem dX9_isSo_85 : decode cX9_isSo 85 = .ok (.iconst 2, 1) := by decide +kernel
theorem dX9_isSo_86 : decode cX9_isSo 86 = .ok (.if_icmp .eq 16, 3) := by decide +kernel
theorem dX9_isSo_89 : decode cX9_isSo 89 = .ok (.aload_n 0, 1) := by decide +kernel
theorem dX9_isSo_90 : decode cX9_isSo 90 = .ok (.aload_n 0, 1) := by decide +kernel
theorem dX9_isSo_91 : decode cX9_isSo 91 = .ok (.getfield 185, 3) := by decide +kernel
theorem dX9_isSo_94 : decode cX9_isSo 94 = .ok (.lload_n 1, 1) := by decide +kernel
theorem dX9_isSo_95 : decode cX9_isSo 95 = .ok (.lload_n 3, 1) := by decide +kernel
theorem dX9_isSo_96 : decode cX9_isSo 96 = .ok (.invokevirtual 90, 3) := by decide +kernel
theorem dX9_isSo_99 : decode cX9_isSo 99 = .ok (.ifCond .eq 7, 3) := by decide +kernel
theorem dX9_isSo_102 : decode cX9_isSo 102 = .ok (.iconst 1, 1) := by decide +kernel
theorem dX9_isSo_103 : decode cX9_isSo 103 = .ok (.goto 4, 3) := by decide +kernel
theorem dX9_isSo_106 : decode cX9_isSo 106 = .ok (.iconst 0, 1) := by decide +kernel
theorem dX9_isSo_107 : decode cX9_isSo 107 = .ok (.istore 6, 2) := by decide +kernel
theorem dX9_isSo_109 : decode cX9_isSo 109 = .ok (.iconst 0, 1) := by decide +kernel
theorem dX9_isSo_110 : decode cX9_isSo 110 = .ok (.istore 7, 2) := by decide +kernel
theorem dX9_isSo_112 : decode cX9_isSo 112 = .ok (.iload 7, 2) := by decide +kernel
theorem dX9_isSo_114 : decode cX9_isSo 114 = .ok (.aload_n 0, 1) := by decide +kernel
theorem dX9_isSo_115 : decode cX9_isSo 115 = .ok (.getfield 57, 3) := by decide +kernel
theorem dX9_isSo_118 : decode cX9_isSo 118 = .ok (.if_icmp .ge 100, 3) := by decide +kernel
theorem dX9_isSo_121 : decode cX9_isSo 121 = .ok (.aload_n 0, 1) := by decide +kernel
theorem dX9_isSo_122 : decode cX9_isSo 122 = .ok (.iload 7, 2) := by decide +kernel
theorem dX9_isSo_124 : decode cX9_isSo 124 = .ok (.lload_n 1, 1) := by decide +kernel
theorem dX9_isSo_125 : decode cX9_isSo 125 = .ok (.lload_n 3, 1) := by decide +kernel
theorem dX9_isSo_126 : decode cX9_isSo 126 = .ok (.invokevirtual 90, 3) := by decide +kernel
theorem dX9_isSo_129 : decode cX9_isSo 129 = .ok (.ifCond .eq 83, 3) := by decide +kernel
theorem dX9_isSo_132 : decode cX9_isSo 132 = .ok (.aload_n 0, 1) := by decide +kernel
theorem dX9_isSo_133 : decode cX9_isSo 133 = .ok (.iload 7, 2) := by decide +kernel
theorem dX9_isSo_135 : decode cX9_isSo 135 = .ok (.lload_n 1, 1) := by decide +kernel
theorem dX9_isSo_136 : decode cX9_isSo 136 = .ok (.lload_n 3, 1) := by decide +kernel
theorem dX9_isSo_137 : decode cX9_isSo 137 = .ok (.invokevirtual 118, 3) := by decide +kernel
theorem dX9_isSo_140 : decode cX9_isSo 140 = .ok (.lstore 8, 2) := by decide +kernel
theorem dX9_isSo_142 : decode cX9_isSo 142 = .ok (.iload 6, 2) := by decide +kernel
theorem dX9_isSo_144 : decode cX9_isSo 144 = .ok (.ifCond .eq 31, 3) := by decide +kernel
theorem dX9_isSo_147 : decode cX9_isSo 147 = .ok (.aload_n 0, 1) := by decide +kernel
theorem dX9_isSo_148 : decode cX9_isSo 148 = .ok (.getfield 182, 3) := by decide +kernel
theorem dX9_isSo_151 : decode cX9_isSo 151 = .ok (.iconst 2, 1) := by decide +kernel
theorem dX9_isSo_152 : decode cX9_isSo 152 = .ok (.if_icmp .eq 19, 3) := by decide +kernel
theorem dX9_isSo_155 : decode cX9_isSo 155 = .ok (.lload 8, 2) := by decide +kernel
theorem dX9_isSo_157 : decode cX9_isSo 157 = .ok (.aload_n 0, 1) := by decide +kernel
theorem dX9_isSo_158 : decode cX9_isSo 158 = .ok (.aload_n 0, 1) := by decide +kernel
theorem dX9_isSo_159 : decode cX9_isSo 159 = .ok (.getfield 185, 3) := by decide +kernel
theorem dX9_isSo_162 : decode cX9_isSo 162 = .ok (.lload_n 1, 1) := by decide +kernel
theorem dX9_isSo_163 : decode cX9_isSo 163 = .ok (.lload_n 3, 1) := by decide +kernel
theorem dX9_isSo_164 : decode cX9_isSo 164 = .ok (.invokevirtual 118, 3) := by decide +kernel
theorem dX9_isSo_167 : decode cX9_isSo 167 = .ok (.lcmp, 1) := by decide +kernel
theorem dX9_isSo_168 : decode cX9_isSo 168 = .ok (.ifCond .gt 7, 3) := by decide +kernel
theorem dX9_isSo_171 : decode cX9_isSo 171 = .ok (.iconst 1, 1) := by decide +kernel
theorem dX9_isSo_172 : decode cX9_isSo 172 = .ok (.goto 4, 3) := by decide +kernel
theorem dX9_isSo_175 : decode cX9_isSo 175 = .ok (.iconst 0, 1) := by decide +kernel
theorem dX9_isSo_176 : decode cX9_isSo 176 = .ok (.istore 6, 2) := by decide +kernel
theorem dX9_isSo_178 : decode cX9_isSo 178 = .ok (.iload 5, 2) := by decide +kernel
theorem dX9_isSo_180 : decode cX9_isSo 180 = .ok (.lload 8, 2) := by decide +kernel
theorem dX9_isSo_182 : decode cX9_isSo 182 = .ok (.aload_n 0, 1) := by decide +kernel
theorem dX9_isSo_183 : decode cX9_isSo 183 = .ok (.getfield 195, 3) := by decide +kernel
theorem dX9_isSo_186 : decode cX9_isSo 186 = .ok (.lload_n 3, 1) := by decide +kernel
theorem dX9_isSo_187 : decode cX9_isSo 187 = .ok (.lmul, 1) := by decide +kernel
theorem dX9_isSo_188 : decode cX9_isSo 188 = .ok (.lcmp, 1) := by decide +kernel
theorem dX9_isSo_189 : decode cX9_isSo 189 = .ok (.ifCond .lt 19, 3) := by decide +kernel
theorem dX9_isSo_192 : decode cX9_isSo 192 = .ok (.lload 8, 2) := by decide +kernel
theorem dX9_isSo_194 : decode cX9_isSo 194 = .ok (.aload_n 0, 1) := by decide +kernel
theorem dX9_isSo_195 : decode cX9_isSo 195 = .ok (.getfield 191, 3) := by decide +kernel
theorem dX9_isSo_198 : decode cX9_isSo 198 = .ok (.lload_n 3, 1) := by decide +kernel
theorem dX9_isSo_199 : decode cX9_isSo 199 = .ok (.lmul, 1) := by decide +kernel
theorem dX9_isSo_200 : decode cX9_isSo 200 = .ok (.lcmp, 1) := by decide +kernel
theorem dX9_isSo_201 : decode cX9_isSo 201 = .ok (.ifCond .gt 7, 3) := by decide +kernel
theorem dX9_isSo_204 : decode cX9_isSo 204 = .ok (.iconst 1, 1) := by decide +kernel
theorem dX9_isSo_205 : decode cX9_isSo 205 = .ok (.goto 4, 3) := by decide +kernel
theorem dX9_isSo_208 : decode cX9_isSo 208 = .ok (.iconst 0, 1) := by decide +kernel
theorem dX9_isSo_209 : decode cX9_isSo 209 = .ok (.iadd, 1) := by decide +kernel
theorem dX9_isSo_210 : decode cX9_isSo 210 = .ok (.istore 5, 2) := by decide +kernel
theorem dX9_isSo_212 : decode cX9_isSo 212 = .ok (.iinc 7 1, 3) := by decide +kernel
theorem dX9_isSo_215 : decode cX9_isSo 215 = .ok (.goto (-103), 3) := by decide +kernel
theorem dX9_isSo_218 : decode cX9_isSo 218 = .ok (.aload_n 0, 1) := by decide +kernel
theorem dX9_isSo_219 : decode cX9_isSo 219 = .ok (.getfield 182, 3) := by decide +kernel
theorem dX9_isSo_222 : decode cX9_isSo 222 = .ok (.iconst 1, 1) := by decide +kernel
theorem dX9_isSo_223 : decode cX9_isSo 223 = .ok (.if_icmp .ne 8, 3) := by decide +kernel
theorem dX9_isSo_226 : decode cX9_isSo 226 = .ok (.iload 6, 2) := by decide +kernel
theorem dX9_isSo_228 : decode cX9_isSo 228 = .ok (.goto 17, 3) := by decide +kernel
theorem dX9_isSo_231 : decode cX9_isSo 231 = .ok (.iload 5, 2) := by decide +kernel
theorem dX9_isSo_233 : decode cX9_isSo 233 = .ok (.aload_n 0, 1) := by decide +kernel
theorem dX9_isSo_234 : decode cX9_isSo 234 = .ok (.getfield 185, 3) := by decide +kernel
theorem dX9_isSo_237 : decode cX9_isSo 237 = .ok (.if_icmp .lt 7, 3) := by decide +kernel
theorem dX9_isSo_240 : decode cX9_isSo 240 = .ok (.iconst 1, 1) := by decide +kernel
theorem dX9_isSo_241 : decode cX9_isSo 241 = .ok (.goto 4, 3) := by decide +kernel
theorem dX9_isSo_244 : decode cX9_isSo 244 = .ok (.iconst 0, 1) := by decide +kernel
theorem dX9_isSo_245 : decode cX9_isSo 245 = .ok (.ireturn, 1) := by decide +kernel
theorem dX9_addSpan_0 : decode cX9_addSpan 0 = .ok (.aload_n 0, 1) := by decide +kernel
theorem dX9_addSpan_1 : decode cX9_addSpan 1 = .ok (.getfield 198, 3) := by decide +kernel
theorem dX9_addSpan_4 : decode cX9_addSpan 4 = .ok (.ifCond .le 51, 3) := by decide +kernel
theorem dX9_addSpan_7 : decode cX9_addSpan 7 = .ok (.aload_n 0, 1) := by decide +kernel
theorem dX9_addSpan_8 : decode cX9_addSpan 8 = .ok (.getfield 51, 3) := by decide +kernel
theorem dX9_addSpan_11 : decode cX9_addSpan 11 = .ok (.iconst 2, 1) := by decide +kernel
theorem dX9_addSpan_12 : decode cX9_addSpan 12 = .ok (.aload_n 0, 1) := by decide +kernel
theorem dX9_addSpan_13 : decode cX9_addSpan 13 = .ok (.getfield 198, 3) := by decide +kernel
theorem dX9_addSpan_16 : decode cX9_addSpan 16 = .ok (.imul, 1) := by decide +kernel
theorem dX9_addSpan_17 : decode cX9_addSpan 17 = .ok (.iconst 1, 1) := by decide +kernel
theorem dX9_addSpan_18 : decode cX9_addSpan 18 = .ok (.isub, 1) := by decide +kernel
theorem dX9_addSpan_19 : decode cX9_addSpan 19 = .ok (.laload, 1) := by decide +kernel
theorem dX9_addSpan_20 : decode cX9_addSpan 20 = .ok (.aload_n 0, 1) := by decide +kernel
theorem dX9_addSpan_21 : decode cX9_addSpan 21 = .ok (.getfield 48, 3) := by decide +kernel
theorem dX9_addSpan_24 : decode cX9_addSpan 24 = .ok (.iload_n 1, 1) := by decide +kernel
theorem dX9_addSpan_25 : decode cX9_addSpan 25 = .ok (.laload, 1) := by decide +kernel
theorem dX9_addSpan_26 : decode cX9_addSpan 26 = .ok (.lmul, 1) := by decide +kernel
theorem dX9_addSpan_27 : decode cX9_addSpan 27 = .ok (.aload_n 0, 1) := by decide +kernel
theorem dX9_addSpan_28 : decode cX9_addSpan 28 = .ok (.getfield 45, 3) := by decide +kernel
theorem dX9_addSpan_31 : decode cX9_addSpan 31 = .ok (.iload_n 1, 1) := by decide +kernel
theorem dX9_addSpan_32 : decode cX9_addSpan 32 = .ok (.laload, 1) := by decide +kernel
theorem dX9_addSpan_33 : decode cX9_addSpan 33 = .ok (.aload_n 0, 1) := by decide +kernel
theorem dX9_addSpan_34 : decode cX9_addSpan 34 = .ok (.getfield 54, 3) := by decide +kernel
theorem dX9_addSpan_37 : decode cX9_addSpan 37 = .ok (.iconst 2, 1) := by decide +kernel
theorem dX9_addSpan_38 : decode cX9_addSpan 38 = .ok (.aload_n 0, 1) := by decide +kernel
theorem dX9_addSpan_39 : decode cX9_addSpan 39 = .ok (.getfield 198, 3) := by decide +kernel
theorem dX9_addSpan_42 : decode cX9_addSpan 42 = .ok (.imul, 1) := by decide +kernel
theorem dX9_addSpan_43 : decode cX9_addSpan 43 = .ok (.iconst 1, 1) := by decide +kernel
theorem dX9_addSpan_44 : decode cX9_addSpan 44 = .ok (.isub, 1) := by decide +kernel
theorem dX9_addSpan_45 : decode cX9_addSpan 45 = .ok (.laload, 1) := by decide +kernel
theorem dX9_addSpan_46 : decode cX9_addSpan 46 = .ok (.lmul, 1) := by decide +kernel
theorem dX9_addSpan_47 : decode cX9_addSpan 47 = .ok (.lcmp, 1) := by decide +kernel
theorem dX9_addSpan_48 : decode cX9_addSpan 48 = .ok (.ifCond .ne 7, 3) := by decide +kernel
theorem dX9_addSpan_51 : decode cX9_addSpan 51 = .ok (.iconst 1, 1) := by decide +kernel
theorem dX9_addSpan_52 : decode cX9_addSpan 52 = .ok (.goto 4, 3) := by decide +kernel
theorem dX9_addSpan_55 : decode cX9_addSpan 55 = .ok (.iconst 0, 1) := by decide +kernel
theorem dX9_addSpan_56 : decode cX9_addSpan 56 = .ok (.istore_n 3, 1) := by decide +kernel
theorem dX9_addSpan_57 : decode cX9_addSpan 57 = .ok (.iload_n 3, 1) := by decide +kernel
theorem dX9_addSpan_58 : decode cX9_addSpan 58 = .ok (.ifCond .ne 47, 3) := by decide +kernel
theorem dX9_addSpan_61 : decode cX9_addSpan 61 = .ok (.aload_n 0, 1) := by decide +kernel
theorem dX9_addSpan_62 : decode cX9_addSpan 62 = .ok (.getfield 51, 3) := by decide +kernel
theorem dX9_addSpan_65 : decode cX9_addSpan 65 = .ok (.iconst 2, 1) := by decide +kernel
theorem dX9_addSpan_66 : decode cX9_addSpan 66 = .ok (.aload_n 0, 1) := by decide +kernel
theorem dX9_addSpan_67 : decode cX9_addSpan 67 = .ok (.getfield 198, 3) := by decide +kernel
theorem dX9_addSpan_70 : decode cX9_addSpan 70 = .ok (.imul, 1) := by decide +kernel
theorem dX9_addSpan_71 : decode cX9_addSpan 71 = .ok (.aload_n 0, 1) := by decide +kernel
theorem dX9_addSpan_72 : decode cX9_addSpan 72 = .ok (.getfield 45, 3) := by decide +kernel
theorem dX9_addSpan_75 : decode cX9_addSpan 75 = .ok (.iload_n 1, 1) := by decide +kernel
theorem dX9_addSpan_76 : decode cX9_addSpan 76 = .ok (.laload, 1) := by decide +kernel
theorem dX9_addSpan_77 : decode cX9_addSpan 77 = .ok (.lastore, 1) := by decide +kernel
theorem dX9_addSpan_78 : decode cX9_addSpan 78 = .ok (.aload_n 0, 1) := by decide +kernel
theorem dX9_addSpan_79 : decode cX9_addSpan 79 = .ok (.getfield 54, 3) := by decide +kernel
theorem dX9_addSpan_82 : decode cX9_addSpan 82 = .ok (.iconst 2, 1) := by decide +kernel
theorem dX9_addSpan_83 : decode cX9_addSpan 83 = .ok (.aload_n 0, 1) := by decide +kernel
theorem dX9_addSpan_84 : decode cX9_addSpan 84 = .ok (.getfield 198, 3) := by decide +kernel
theorem dX9_addSpan_87 : decode cX9_addSpan 87 = .ok (.imul, 1) := by decide +kernel
theorem dX9_addSpan_88 : decode cX9_addSpan 88 = .ok (.aload_n 0, 1) := by decide +kernel
theorem dX9_addSpan_89 : decode cX9_addSpan 89 = .ok (.getfield 48, 3) := by decide +kernel
theorem dX9_addSpan_92 : decode cX9_addSpan 92 = .ok (.iload_n 1, 1) := by decide +kernel
theorem dX9_addSpan_93 : decode cX9_addSpan 93 = .ok (.laload, 1) := by decide +kernel
theorem dX9_addSpan_94 : decode cX9_addSpan 94 = .ok (.lastore, 1) := by decide +kernel
theorem dX9_addSpan_95 : decode cX9_addSpan 95 = .ok (.aload_n 0, 1) := by decide +kernel
theorem dX9_addSpan_96 : decode cX9_addSpan 96 = .ok (.dup, 1) := by decide +kernel
theorem dX9_addSpan_97 : decode cX9_addSpan 97 = .ok (.getfield 198, 3) := by decide +kernel
theorem dX9_addSpan_100 : decode cX9_addSpan 100 = .ok (.iconst 1, 1) := by decide +kernel
theorem dX9_addSpan_101 : decode cX9_addSpan 101 = .ok (.iadd, 1) := by decide +kernel
theorem dX9_addSpan_102 : decode cX9_addSpan 102 = .ok (.putfield 198, 3) := by decide +kernel
theorem dX9_addSpan_105 : decode cX9_addSpan 105 = .ok (.aload_n 0, 1) := by decide +kernel
theorem dX9_addSpan_106 : decode cX9_addSpan 106 = .ok (.getfield 51, 3) := by decide +kernel
theorem dX9_addSpan_109 : decode cX9_addSpan 109 = .ok (.iconst 2, 1) := by decide +kernel
theorem dX9_addSpan_110 : decode cX9_addSpan 110 = .ok (.aload_n 0, 1) := by decide +kernel
theorem dX9_addSpan_111 : decode cX9_addSpan 111 = .ok (.getfield 198, 3) := by decide +kernel
theorem dX9_addSpan_114 : decode cX9_addSpan 114 = .ok (.imul, 1) := by decide +kernel
theorem dX9_addSpan_115 : decode cX9_addSpan 115 = .ok (.iconst 1, 1) := by decide +kernel
theorem dX9_addSpan_116 : decode cX9_addSpan 116 = .ok (.isub, 1) := by decide +kernel
theorem dX9_addSpan_117 : decode cX9_addSpan 117 = .ok (.aload_n 0, 1) := by decide +kernel
theorem dX9_addSpan_118 : decode cX9_addSpan 118 = .ok (.getfield 45, 3) := by decide +kernel
theorem dX9_addSpan_121 : decode cX9_addSpan 121 = .ok (.iload_n 2, 1) := by decide +kernel
theorem dX9_addSpan_122 : decode cX9_addSpan 122 = .ok (.laload, 1) := by decide +kernel
theorem dX9_addSpan_123 : decode cX9_addSpan 123 = .ok (.lastore, 1) := by decide +kernel
theorem dX9_addSpan_124 : decode cX9_addSpan 124 = .ok (.aload_n 0, 1) := by decide +kernel
theorem dX9_addSpan_125 : decode cX9_addSpan 125 = .ok (.getfield 54, 3) := by decide +kernel
theorem dX9_addSpan_128 : decode cX9_addSpan 128 = .ok (.iconst 2, 1) := by decide +kernel
theorem dX9_addSpan_129 : decode cX9_addSpan 129 = .ok (.aload_n 0, 1) := by decide +kernel
theorem dX9_addSpan_130 : decode cX9_addSpan 130 = .ok (.getfield 198, 3) := by decide +kernel
theorem dX9_addSpan_133 : decode cX9_addSpan 133 = .ok (.imul, 1) := by decide +kernel
theorem dX9_addSpan_134 : decode cX9_addSpan 134 = .ok (.iconst 1, 1) := by decide +kernel
theorem dX9_addSpan_135 : decode cX9_addSpan 135 = .ok (.isub, 1) := by decide +kernel
theorem dX9_addSpan_136 : decode cX9_addSpan 136 = .ok (.aload_n 0, 1) := by decide +kernel
theorem dX9_addSpan_137 : decode cX9_addSpan 137 = .ok (.getfield 48, 3) := by decide +kernel
theorem dX9_addSpan_140 : decode cX9_addSpan 140 = .ok (.iload_n 2, 1) := by decide +kernel
theorem dX9_addSpan_141 : decode cX9_addSpan 141 = .ok (.laload, 1) := by decide +kernel
theorem dX9_addSpan_142 : decode cX9_addSpan 142 = .ok (.lastore, 1) := by decide +kernel
theorem dX9_addSpan_143 : decode cX9_addSpan 143 = .ok (.return_, 1) := by decide +kernel
set_option maxRecDepth 20000 in
theorem ggX9_findSpans_X9_isSo : GoodIn wsX9_findSpans wsX9_isSo := goodIn_r _ [12, 13, 14, 15, 16, 17, 18, 19, 20, 21, 11, 22, 23, 24, 25, 26, 27, 28, 29, 30, 31, 32, 33, 34, 35, 36, 37, 38, 39, 53, 54, 55, 56, 57, 58, 59, 60, 61, 62, 63, 64, 65, 66, 67, 68, 69, 70, 71, 72, 73, 74, 75, 76, 77, 78] (by decide +kernel) (by decide +kernel)
set_option maxRecDepth 20000 in
theorem gX9_findSpans_X9_isSo : GoodIn wsX9_findSpans (wsV RX9 201 RX9 yX9_isSo wsX9_isSo) := goodIn_app (goodIn_of _ (by decide +kernel)) ggX9_findSpans_X9_isSo
set_option maxRecDepth 20000 in
theorem ggX9_findSpans_X9_addSpan : GoodIn wsX9_findSpans wsX9_addSpan := goodIn_r _ [43, 1, 6, 4, 3, 7, 53, 54, 55, 56, 57, 58, 59, 60, 61, 62, 63, 64, 65, 66, 67, 68, 69, 70, 71, 72, 73, 74, 75, 76, 77, 78] (by decide +kernel) (by decide +kernel)
set_option maxRecDepth 20000 in
theorem gX9_findSpans_X9_addSpan : GoodIn wsX9_findSpans (wsV RX9 205 RX9 yX9_addSpan wsX9_addSpan) := goodIn_app (goodIn_of _ (by decide +kernel)) ggX9_findSpans_X9_addSpan
set_option maxRecDepth 20000 in
theorem ggX9_findSpans_X9_in : GoodIn wsX9_findSpans wsX9_in := goodIn_r _ [46] (by decide +kernel) (by decide +kernel)
set_option maxRecDepth 20000 in
theorem gX9_findSpans_X9_in : GoodIn wsX9_findSpans (va_wsS RX9 61 yX9_in wsX9_in) := goodIn_app (goodIn_of _ (by decide +kernel)) ggX9_findSpans_X9_in
set_option maxRecDepth 20000 in
theorem ggX9_findSpans_X9_share : GoodIn wsX9_findSpans wsX9_share := goodIn_r _ [49, 50, 51, 11, 52] (by decide +kernel) (by decide +kernel)
set_option maxRecDepth 20000 in
theorem gX9_findSpans_X9_share : GoodIn wsX9_findSpans (va_wsS RX9 122 yX9_share wsX9_share) := goodIn_app (goodIn_of _ (by decide +kernel)) ggX9_findSpans_X9_share
theorem dX9_findSpans_0 : decode cX9_findSpans 0 = .ok (.aload_n 0, 1) := by decide +kernel
theorem dX9_findSpans_1 : decode cX9_findSpans 1 = .ok (.iconst 0, 1) := by decide +kernel
theorem dX9_findSpans_2 : decode cX9_findSpans 2 = .ok (.putfield 198, 3) := by decide +kernel
theorem dX9_findSpans_5 : decode cX9_findSpans 5 = .ok (.iconst 0, 1) := by decide +kernel
theorem dX9_findSpans_6 : decode cX9_findSpans 6 = .ok (.istore_n 3, 1) := by decide +kernel
theorem dX9_findSpans_7 : decode cX9_findSpans 7 = .ok (.iload_n 3, 1) := by decide +kernel
theorem dX9_findSpans_8 : decode cX9_findSpans 8 = .ok (.aload_n 0, 1) := by decide +kernel
theorem dX9_findSpans_9 : decode cX9_findSpans 9 = .ok (.getfield 171, 3) := by decide +kernel
theorem dX9_findSpans_12 : decode cX9_findSpans 12 = .ok (.if_icmp .ge 109, 3) := by decide +kernel
theorem dX9_findSpans_15 : decode cX9_findSpans 15 = .ok (.aload_n 0, 1) := by decide +kernel
theorem dX9_findSpans_16 : decode cX9_findSpans 16 = .ok (.aload_n 0, 1) := by decide +kernel
theorem dX9_findSpans_17 : decode cX9_findSpans 17 = .ok (.getfield 45, 3) := by decide +kernel
theorem dX9_findSpans_20 : decode cX9_findSpans 20 = .ok (.iload_n 3, 1) := by decide +kernel
theorem dX9_findSpans_21 : decode cX9_findSpans 21 = .ok (.laload, 1) := by decide +kernel
theorem dX9_findSpans_22 : decode cX9_findSpans 22 = .ok (.aload_n 0, 1) := by decide +kernel
theorem dX9_findSpans_23 : decode cX9_findSpans 23 = .ok (.getfield 48, 3) := by decide +kernel
theorem dX9_findSpans_26 : decode cX9_findSpans 26 = .ok (.iload_n 3, 1) := by decide +kernel
theorem dX9_findSpans_27 : decode cX9_findSpans 27 = .ok (.laload, 1) := by decide +kernel
theorem dX9_findSpans_28 : decode cX9_findSpans 28 = .ok (.invokevirtual 201, 3) := by decide +kernel
theorem dX9_findSpans_31 : decode cX9_findSpans 31 = .ok (.ifCond .eq 9, 3) := by decide +kernel
theorem dX9_findSpans_34 : decode cX9_findSpans 34 = .ok (.aload_n 0, 1) := by decide +kernel
theorem dX9_findSpans_35 : decode cX9_findSpans 35 = .ok (.iload_n 3, 1) := by decide +kernel
theorem dX9_findSpans_36 : decode cX9_findSpans 36 = .ok (.iload_n 3, 1) := by decide +kernel
theorem dX9_findSpans_37 : decode cX9_findSpans 37 = .ok (.invokevirtual 205, 3) := by decide +kernel
theorem dX9_findSpans_40 : decode cX9_findSpans 40 = .ok (.iload_n 3, 1) := by decide +kernel
theorem dX9_findSpans_41 : decode cX9_findSpans 41 = .ok (.iconst 1, 1) := by decide +kernel
theorem dX9_findSpans_42 : decode cX9_findSpans 42 = .ok (.iadd, 1) := by decide +kernel
theorem dX9_findSpans_43 : decode cX9_findSpans 43 = .ok (.aload_n 0, 1) := by decide +kernel
theorem dX9_findSpans_44 : decode cX9_findSpans 44 = .ok (.getfield 171, 3) := by decide +kernel
theorem dX9_findSpans_47 : decode cX9_findSpans 47 = .ok (.if_icmp .ge 68, 3) := by decide +kernel
theorem dX9_findSpans_50 : decode cX9_findSpans 50 = .ok (.aload_n 0, 1) := by decide +kernel
theorem dX9_findSpans_51 : decode cX9_findSpans 51 = .ok (.aload_n 0, 1) := by decide +kernel
theorem dX9_findSpans_52 : decode cX9_findSpans 52 = .ok (.getfield 45, 3) := by decide +kernel
theorem dX9_findSpans_55 : decode cX9_findSpans 55 = .ok (.iload_n 3, 1) := by decide +kernel
theorem dX9_findSpans_56 : decode cX9_findSpans 56 = .ok (.laload, 1) := by decide +kernel
theorem dX9_findSpans_57 : decode cX9_findSpans 57 = .ok (.aload_n 0, 1) := by decide +kernel
theorem dX9_findSpans_58 : decode cX9_findSpans 58 = .ok (.getfield 48, 3) := by decide +kernel
theorem dX9_findSpans_61 : decode cX9_findSpans 61 = .ok (.iload_n 3, 1) := by decide +kernel
theorem dX9_findSpans_62 : decode cX9_findSpans 62 = .ok (.iconst 1, 1) := by decide +kernel
theorem dX9_findSpans_63 : decode cX9_findSpans 63 = .ok (.iadd, 1) := by decide +kernel
theorem dX9_findSpans_64 : decode cX9_findSpans 64 = .ok (.laload, 1) := by decide +kernel
theorem dX9_findSpans_65 : decode cX9_findSpans 65 = .ok (.lmul, 1) := by decide +kernel
theorem dX9_findSpans_66 : decode cX9_findSpans 66 = .ok (.aload_n 0, 1) := by decide +kernel
theorem dX9_findSpans_67 : decode cX9_findSpans 67 = .ok (.getfield 45, 3) := by decide +kernel
theorem dX9_findSpans_70 : decode cX9_findSpans 70 = .ok (.iload_n 3, 1) := by decide +kernel
theorem dX9_findSpans_71 : decode cX9_findSpans 71 = .ok (.iconst 1, 1) := by decide +kernel
theorem dX9_findSpans_72 : decode cX9_findSpans 72 = .ok (.iadd, 1) := by decide +kernel
theorem dX9_findSpans_73 : decode cX9_findSpans 73 = .ok (.laload, 1) := by decide +kernel
theorem dX9_findSpans_74 : decode cX9_findSpans 74 = .ok (.aload_n 0, 1) := by decide +kernel
theorem dX9_findSpans_75 : decode cX9_findSpans 75 = .ok (.getfield 48, 3) := by decide +kernel
theorem dX9_findSpans_78 : decode cX9_findSpans 78 = .ok (.iload_n 3, 1) := by decide +kernel
theorem dX9_findSpans_79 : decode cX9_findSpans 79 = .ok (.laload, 1) := by decide +kernel
theorem dX9_findSpans_80 : decode cX9_findSpans 80 = .ok (.lmul, 1) := by decide +kernel
theorem dX9_findSpans_81 : decode cX9_findSpans 81 = .ok (.ladd, 1) := by decide +kernel
theorem dX9_findSpans_82 : decode cX9_findSpans 82 = .ok (.ldc2_w 209, 3) := by decide +kernel
theorem dX9_findSpans_85 : decode cX9_findSpans 85 = .ok (.aload_n 0, 1) := by decide +kernel
theorem dX9_findSpans_86 : decode cX9_findSpans 86 = .ok (.getfield 48, 3) := by decide +kernel
theorem dX9_findSpans_89 : decode cX9_findSpans 89 = .ok (.iload_n 3, 1) := by decide +kernel
theorem dX9_findSpans_90 : decode cX9_findSpans 90 = .ok (.laload, 1) := by decide +kernel
theorem dX9_findSpans_91 : decode cX9_findSpans 91 = .ok (.lmul, 1) := by decide +kernel
theorem dX9_findSpans_92 : decode cX9_findSpans 92 = .ok (.aload_n 0, 1) := by decide +kernel
theorem dX9_findSpans_93 : decode cX9_findSpans 93 = .ok (.getfield 48, 3) := by decide +kernel
theorem dX9_findSpans_96 : decode cX9_findSpans 96 = .ok (.iload_n 3, 1) := by decide +kernel
theorem dX9_findSpans_97 : decode cX9_findSpans 97 = .ok (.iconst 1, 1) := by decide +kernel
theorem dX9_findSpans_98 : decode cX9_findSpans 98 = .ok (.iadd, 1) := by decide +kernel
theorem dX9_findSpans_99 : decode cX9_findSpans 99 = .ok (.laload, 1) := by decide +kernel
theorem dX9_findSpans_100 : decode cX9_findSpans 100 = .ok (.lmul, 1) := by decide +kernel
theorem dX9_findSpans_101 : decode cX9_findSpans 101 = .ok (.invokevirtual 201, 3) := by decide +kernel
theorem dX9_findSpans_104 : decode cX9_findSpans 104 = .ok (.ifCond .eq 11, 3) := by decide +kernel
theorem dX9_findSpans_107 : decode cX9_findSpans 107 = .ok (.aload_n 0, 1) := by decide +kernel
theorem dX9_findSpans_108 : decode cX9_findSpans 108 = .ok (.iload_n 3, 1) := by decide +kernel
theorem dX9_findSpans_109 : decode cX9_findSpans 109 = .ok (.iload_n 3, 1) := by decide +kernel
theorem dX9_findSpans_110 : decode cX9_findSpans 110 = .ok (.iconst 1, 1) := by decide +kernel
theorem dX9_findSpans_111 : decode cX9_findSpans 111 = .ok (.iadd, 1) := by decide +kernel
theorem dX9_findSpans_112 : decode cX9_findSpans 112 = .ok (.invokevirtual 205, 3) := by decide +kernel
theorem dX9_findSpans_115 : decode cX9_findSpans 115 = .ok (.iinc 3 1, 3) := by decide +kernel
theorem dX9_findSpans_118 : decode cX9_findSpans 118 = .ok (.goto (-111), 3) := by decide +kernel
theorem dX9_findSpans_121 : decode cX9_findSpans 121 = .ok (.iload_n 1, 1) := by decide +kernel
theorem dX9_findSpans_122 : decode cX9_findSpans 122 = .ok (.iconst (-1), 1) := by decide +kernel
theorem dX9_findSpans_123 : decode cX9_findSpans 123 = .ok (.if_icmp .ne 8, 3) := by decide +kernel
theorem dX9_findSpans_126 : decode cX9_findSpans 126 = .ok (.aload_n 0, 1) := by decide +kernel
theorem dX9_findSpans_127 : decode cX9_findSpans 127 = .ok (.getfield 198, 3) := by decide +kernel
theorem dX9_findSpans_130 : decode cX9_findSpans 130 = .ok (.ireturn, 1) := by decide +kernel
theorem dX9_findSpans_131 : decode cX9_findSpans 131 = .ok (.iload_n 1, 1) := by decide +kernel
theorem dX9_findSpans_132 : decode cX9_findSpans 132 = .ok (.i2l, 1) := by decide +kernel
theorem dX9_findSpans_133 : decode cX9_findSpans 133 = .ok (.lconst 0, 1) := by decide +kernel
theorem dX9_findSpans_134 : decode cX9_findSpans 134 = .ok (.aload_n 0, 1) := by decide +kernel
theorem dX9_findSpans_135 : decode cX9_findSpans 135 = .ok (.getfield 198, 3) := by decide +kernel
theorem dX9_findSpans_138 : decode cX9_findSpans 138 = .ok (.iconst 1, 1) := by decide +kernel
theorem dX9_findSpans_139 : decode cX9_findSpans 139 = .ok (.isub, 1) := by decide +kernel
theorem dX9_findSpans_140 : decode cX9_findSpans 140 = .ok (.i2l, 1) := by decide +kernel
theorem dX9_findSpans_141 : decode cX9_findSpans 141 = .ok (.invokestatic 61, 3) := by decide +kernel
theorem dX9_findSpans_144 : decode cX9_findSpans 144 = .ok (.ifCond .ne 5, 3) := by decide +kernel
theorem dX9_findSpans_147 : decode cX9_findSpans 147 = .ok (.iconst (-1), 1) := by decide +kernel
theorem dX9_findSpans_148 : decode cX9_findSpans 148 = .ok (.ireturn, 1) := by decide +kernel
theorem dX9_findSpans_149 : decode cX9_findSpans 149 = .ok (.iconst 2, 1) := by decide +kernel
theorem dX9_findSpans_150 : decode cX9_findSpans 150 = .ok (.iload_n 1, 1) := by decide +kernel
theorem dX9_findSpans_151 : decode cX9_findSpans 151 = .ok (.imul, 1) := by decide +kernel
theorem dX9_findSpans_152 : decode cX9_findSpans 152 = .ok (.iload_n 2, 1) := by decide +kernel
theorem dX9_findSpans_153 : decode cX9_findSpans 153 = .ok (.iconst 2, 1) := by decide +kernel
theorem dX9_findSpans_154 : decode cX9_findSpans 154 = .ok (.idiv, 1) := by decide +kernel
theorem dX9_findSpans_155 : decode cX9_findSpans 155 = .ok (.iadd, 1) := by decide +kernel
theorem dX9_findSpans_156 : decode cX9_findSpans 156 = .ok (.istore_n 3, 1) := by decide +kernel
theorem dX9_findSpans_157 : decode cX9_findSpans 157 = .ok (.aload_n 0, 1) := by decide +kernel
theorem dX9_findSpans_158 : decode cX9_findSpans 158 = .ok (.getfield 51, 3) := by decide +kernel
theorem dX9_findSpans_161 : decode cX9_findSpans 161 = .ok (.iload_n 3, 1) := by decide +kernel
theorem dX9_findSpans_162 : decode cX9_findSpans 162 = .ok (.laload, 1) := by decide +kernel
theorem dX9_findSpans_163 : decode cX9_findSpans 163 = .ok (.aload_n 0, 1) := by decide +kernel
theorem dX9_findSpans_164 : decode cX9_findSpans 164 = .ok (.getfield 54, 3) := by decide +kernel
theorem dX9_findSpans_167 : decode cX9_findSpans 167 = .ok (.iload_n 3, 1) := by decide +kernel
theorem dX9_findSpans_168 : decode cX9_findSpans 168 = .ok (.laload, 1) := by decide +kernel
theorem dX9_findSpans_169 : decode cX9_findSpans 169 = .ok (.iload_n 2, 1) := by decide +kernel
theorem dX9_findSpans_170 : decode cX9_findSpans 170 = .ok (.iconst 2, 1) := by decide +kernel
theorem dX9_findSpans_171 : decode cX9_findSpans 171 = .ok (.irem, 1) := by decide +kernel
theorem dX9_findSpans_172 : decode cX9_findSpans 172 = .ok (.invokestatic 122, 3) := by decide +kernel
theorem dX9_findSpans_175 : decode cX9_findSpans 175 = .ok (.l2i, 1) := by decide +kernel
theorem dX9_findSpans_176 : decode cX9_findSpans 176 = .ok (.ireturn, 1) := by decide +kernel
set_option maxRecDepth 20000 in
theorem ggX9_isAsked_X9_in : GoodIn wsX9_isAsked wsX9_in := goodIn_r _ [6] (by decide +kernel) (by decide +kernel)
set_option maxRecDepth 20000 in
theorem gX9_isAsked_X9_in : GoodIn wsX9_isAsked (va_wsS RX9 61 yX9_in wsX9_in) := goodIn_app (goodIn_of _ (by decide +kernel)) ggX9_isAsked_X9_in
theorem dX9_isAsked_0 : decode cX9_isAsked 0 = .ok (.iload_n 0, 1) := by decide +kernel
theorem dX9_isAsked_1 : decode cX9_isAsked 1 = .ok (.i2l, 1) := by decide +kernel
theorem dX9_isAsked_2 : decode cX9_isAsked 2 = .ok (.lconst 1, 1) := by decide +kernel
theorem dX9_isAsked_3 : decode cX9_isAsked 3 = .ok (.ldc2_w 211, 3) := by decide +kernel
theorem dX9_isAsked_6 : decode cX9_isAsked 6 = .ok (.invokestatic 61, 3) := by decide +kernel
theorem dX9_isAsked_9 : decode cX9_isAsked 9 = .ok (.ifCond .eq 19, 3) := by decide +kernel
theorem dX9_isAsked_12 : decode cX9_isAsked 12 = .ok (.iload_n 1, 1) := by decide +kernel
theorem dX9_isAsked_13 : decode cX9_isAsked 13 = .ok (.i2l, 1) := by decide +kernel
theorem dX9_isAsked_14 : decode cX9_isAsked 14 = .ok (.lconst 0, 1) := by decide +kernel
theorem dX9_isAsked_15 : decode cX9_isAsked 15 = .ok (.ldc2_w 169, 3) := by decide +kernel
theorem dX9_isAsked_18 : decode cX9_isAsked 18 = .ok (.invokestatic 61, 3) := by decide +kernel
theorem dX9_isAsked_21 : decode cX9_isAsked 21 = .ok (.ifCond .eq 7, 3) := by decide +kernel
theorem dX9_isAsked_24 : decode cX9_isAsked 24 = .ok (.iconst 1, 1) := by decide +kernel
theorem dX9_isAsked_25 : decode cX9_isAsked 25 = .ok (.goto 4, 3) := by decide +kernel
theorem dX9_isAsked_28 : decode cX9_isAsked 28 = .ok (.iconst 0, 1) := by decide +kernel
theorem dX9_isAsked_29 : decode cX9_isAsked 29 = .ok (.ireturn, 1) := by decide +kernel
set_option maxRecDepth 20000 in
theorem ggX9_near_X9_isPoint : GoodIn wsX9_near wsX9_isPoint := goodIn_r _ [13, 14, 15, 16, 12, 17, 97, 98, 99, 100, 101, 102, 103, 104, 105, 106, 107, 108, 109, 110, 111, 112, 113, 114, 115, 116, 117, 118, 119, 120, 121, 122] (by decide +kernel) (by decide +kernel)
set_option maxRecDepth 20000 in
theorem gX9_near_X9_isPoint : GoodIn wsX9_near (wsV RX9 78 RX9 yX9_isPoint wsX9_isPoint) := goodIn_app (goodIn_of _ (by decide +kernel)) ggX9_near_X9_isPoint
set_option maxRecDepth 20000 in
theorem ggX9_near_X9_in : GoodIn wsX9_near wsX9_in := goodIn_r _ [17] (by decide +kernel) (by decide +kernel)
set_option maxRecDepth 20000 in
theorem gX9_near_X9_in : GoodIn wsX9_near (va_wsS RX9 61 yX9_in wsX9_in) := goodIn_app (goodIn_of _ (by decide +kernel)) ggX9_near_X9_in
set_option maxRecDepth 20000 in
theorem ggX9_near_X9_isAsked : GoodIn wsX9_near wsX9_isAsked := goodIn_r _ [20, 21, 22, 15, 16, 12, 17] (by decide +kernel) (by decide +kernel)
set_option maxRecDepth 20000 in
theorem gX9_near_X9_isAsked : GoodIn wsX9_near (va_wsS RX9 213 yX9_isAsked wsX9_isAsked) := goodIn_app (goodIn_of _ (by decide +kernel)) ggX9_near_X9_isAsked
set_option maxRecDepth 20000 in
theorem ggX9_near_X9_beginTimes : GoodIn wsX9_near wsX9_beginTimes := goodIn_r _ [26, 27, 14, 28, 29, 30, 31, 32, 12, 33, 34, 35, 36, 37, 38, 39, 40, 97, 98, 99, 100, 101, 102, 103, 104, 105, 106, 107, 108, 109, 110, 111, 112, 113, 114, 115, 116, 117, 118, 119, 120, 121, 122] (by decide +kernel) (by decide +kernel)
set_option maxRecDepth 20000 in
theorem gX9_near_X9_beginTimes : GoodIn wsX9_near (wsV RX9 216 RX9 yX9_beginTimes wsX9_beginTimes) := goodIn_app (goodIn_of _ (by decide +kernel)) ggX9_near_X9_beginTimes
set_option maxRecDepth 20000 in
theorem ggX9_near_X9_addApart : GoodIn wsX9_near wsX9_addApart := goodIn_r _ [44, 28, 45, 46, 36, 37, 38, 12, 39, 40, 47, 48, 49, 50, 51, 52, 53, 54, 29, 55, 56, 57, 58, 59, 60, 61, 30, 31, 32, 33, 27, 34, 35, 97, 98, 99, 100, 101, 102, 103, 104, 105, 106, 107, 108, 109, 110, 111, 112, 113, 114, 115, 116, 117, 118, 119, 120, 121, 122] (by decide +kernel) (by decide +kernel)
set_option maxRecDepth 20000 in
theorem gX9_near_X9_addApart : GoodIn wsX9_near (wsV RX9 220 RX9 yX9_addApart wsX9_addApart) := goodIn_app (goodIn_of _ (by decide +kernel)) ggX9_near_X9_addApart
set_option maxRecDepth 20000 in
theorem ggX9_near_X9_findSpans : GoodIn wsX9_near wsX9_findSpans := goodIn_r _ [65, 66, 27, 35, 34, 67, 68, 69, 70, 71, 72, 12, 73, 5, 6, 7, 8, 14, 74, 75, 76, 77, 78, 28, 45, 46, 36, 37, 38, 39, 40, 79, 80, 81, 82, 83, 84, 85, 86, 29, 87, 88, 89, 90, 15, 16, 17, 91, 92, 93, 94, 95, 96, 97, 98, 99, 100, 101, 102, 103, 104, 105, 106, 107, 108, 109, 110, 111, 112, 113, 114, 115, 116, 117, 118, 119, 120, 121, 122] (by decide +kernel) (by decide +kernel)
set_option maxRecDepth 20000 in
theorem gX9_near_X9_findSpans : GoodIn wsX9_near (wsV RX9 224 RX9 yX9_findSpans wsX9_findSpans) := goodIn_app (goodIn_of _ (by decide +kernel)) ggX9_near_X9_findSpans
theorem dX9_near_0 : decode cX9_near 0 = .ok (.aload_n 0, 1) := by decide +kernel
theorem dX9_near_1 : decode cX9_near 1 = .ok (.iload_n 1, 1) := by decide +kernel
theorem dX9_near_2 : decode cX9_near 2 = .ok (.invokevirtual 78, 3) := by decide +kernel
theorem dX9_near_5 : decode cX9_near 5 = .ok (.ifCond .eq 11, 3) := by decide +kernel
theorem dX9_near_8 : decode cX9_near 8 = .ok (.aload_n 0, 1) := by decide +kernel
theorem dX9_near_9 : decode cX9_near 9 = .ok (.iload_n 2, 1) := by decide +kernel
theorem dX9_near_10 : decode cX9_near 10 = .ok (.invokevirtual 78, 3) := by decide +kernel
theorem dX9_near_13 : decode cX9_near 13 = .ok (.ifCond .ne 6, 3) := by decide +kernel
theorem dX9_near_16 : decode cX9_near 16 = .ok (.ldc 82, 2) := by decide +kernel
theorem dX9_near_18 : decode cX9_near 18 = .ok (.ireturn, 1) := by decide +kernel
theorem dX9_near_19 : decode cX9_near 19 = .ok (.iload_n 3, 1) := by decide +kernel
theorem dX9_near_20 : decode cX9_near 20 = .ok (.i2l, 1) := by decide +kernel
theorem dX9_near_21 : decode cX9_near 21 = .ok (.lconst 0, 1) := by decide +kernel
theorem dX9_near_22 : decode cX9_near 22 = .ok (.ldc2_w 140, 3) := by decide +kernel
theorem dX9_near_25 : decode cX9_near 25 = .ok (.invokestatic 61, 3) := by decide +kernel
theorem dX9_near_28 : decode cX9_near 28 = .ok (.ifCond .eq 13, 3) := by decide +kernel
theorem dX9_near_31 : decode cX9_near 31 = .ok (.iload 4, 2) := by decide +kernel
theorem dX9_near_33 : decode cX9_near 33 = .ok (.iload 6, 2) := by decide +kernel
theorem dX9_near_35 : decode cX9_near 35 = .ok (.invokestatic 213, 3) := by decide +kernel
theorem dX9_near_38 : decode cX9_near 38 = .ok (.ifCond .ne 6, 3) := by decide +kernel
theorem dX9_near_41 : decode cX9_near 41 = .ok (.ldc 73, 2) := by decide +kernel
theorem dX9_near_43 : decode cX9_near 43 = .ok (.ireturn, 1) := by decide +kernel
theorem dX9_near_44 : decode cX9_near 44 = .ok (.iload_n 1, 1) := by decide +kernel
theorem dX9_near_45 : decode cX9_near 45 = .ok (.iload_n 2, 1) := by decide +kernel
theorem dX9_near_46 : decode cX9_near 46 = .ok (.if_icmp .ne 6, 3) := by decide +kernel
theorem dX9_near_49 : decode cX9_near 49 = .ok (.ldc 83, 2) := by decide +kernel
theorem dX9_near_51 : decode cX9_near 51 = .ok (.ireturn, 1) := by decide +kernel
theorem dX9_near_52 : decode cX9_near 52 = .ok (.aload_n 0, 1) := by decide +kernel
theorem dX9_near_53 : decode cX9_near 53 = .ok (.iconst 0, 1) := by decide +kernel
theorem dX9_near_54 : decode cX9_near 54 = .ok (.putfield 182, 3) := by decide +kernel
theorem dX9_near_57 : decode cX9_near 57 = .ok (.aload_n 0, 1) := by decide +kernel
theorem dX9_near_58 : decode cX9_near 58 = .ok (.iload_n 1, 1) := by decide +kernel
theorem dX9_near_59 : decode cX9_near 59 = .ok (.putfield 185, 3) := by decide +kernel
theorem dX9_near_62 : decode cX9_near 62 = .ok (.aload_n 0, 1) := by decide +kernel
theorem dX9_near_63 : decode cX9_near 63 = .ok (.iload_n 2, 1) := by decide +kernel
theorem dX9_near_64 : decode cX9_near 64 = .ok (.putfield 188, 3) := by decide +kernel
theorem dX9_near_67 : decode cX9_near 67 = .ok (.aload_n 0, 1) := by decide +kernel
theorem dX9_near_68 : decode cX9_near 68 = .ok (.iload_n 3, 1) := by decide +kernel
theorem dX9_near_69 : decode cX9_near 69 = .ok (.i2l, 1) := by decide +kernel
theorem dX9_near_70 : decode cX9_near 70 = .ok (.putfield 191, 3) := by decide +kernel
theorem dX9_near_73 : decode cX9_near 73 = .ok (.aload_n 0, 1) := by decide +kernel
theorem dX9_near_74 : decode cX9_near 74 = .ok (.iload 4, 2) := by decide +kernel
theorem dX9_near_76 : decode cX9_near 76 = .ok (.invokevirtual 216, 3) := by decide +kernel
theorem dX9_near_79 : decode cX9_near 79 = .ok (.aload_n 0, 1) := by decide +kernel
theorem dX9_near_80 : decode cX9_near 80 = .ok (.iload_n 1, 1) := by decide +kernel
theorem dX9_near_81 : decode cX9_near 81 = .ok (.iload_n 2, 1) := by decide +kernel
theorem dX9_near_82 : decode cX9_near 82 = .ok (.iload_n 3, 1) := by decide +kernel
theorem dX9_near_83 : decode cX9_near 83 = .ok (.i2l, 1) := by decide +kernel
theorem dX9_near_84 : decode cX9_near 84 = .ok (.iload 4, 2) := by decide +kernel
theorem dX9_near_86 : decode cX9_near 86 = .ok (.invokevirtual 220, 3) := by decide +kernel
theorem dX9_near_89 : decode cX9_near 89 = .ok (.aload_n 0, 1) := by decide +kernel
theorem dX9_near_90 : decode cX9_near 90 = .ok (.iload_n 1, 1) := by decide +kernel
theorem dX9_near_91 : decode cX9_near 91 = .ok (.iload_n 2, 1) := by decide +kernel
theorem dX9_near_92 : decode cX9_near 92 = .ok (.iload_n 3, 1) := by decide +kernel
theorem dX9_near_93 : decode cX9_near 93 = .ok (.ineg, 1) := by decide +kernel
theorem dX9_near_94 : decode cX9_near 94 = .ok (.i2l, 1) := by decide +kernel
theorem dX9_near_95 : decode cX9_near 95 = .ok (.iload 4, 2) := by decide +kernel
theorem dX9_near_97 : decode cX9_near 97 = .ok (.invokevirtual 220, 3) := by decide +kernel
theorem dX9_near_100 : decode cX9_near 100 = .ok (.aload_n 0, 1) := by decide +kernel
theorem dX9_near_101 : decode cX9_near 101 = .ok (.iload 5, 2) := by decide +kernel
theorem dX9_near_103 : decode cX9_near 103 = .ok (.iload 6, 2) := by decide +kernel
theorem dX9_near_105 : decode cX9_near 105 = .ok (.invokevirtual 224, 3) := by decide +kernel
theorem dX9_near_108 : decode cX9_near 108 = .ok (.ireturn, 1) := by decide +kernel
set_option maxRecDepth 20000 in
theorem ggX9_first_X9_isPoint : GoodIn wsX9_first wsX9_isPoint := goodIn_r _ [10, 5, 11, 12, 9, 13, 95, 96, 97, 98, 99, 100, 101, 102, 103, 104, 105, 106, 107, 108, 109, 110, 111, 112, 113, 114, 115, 116, 117, 118, 119, 120] (by decide +kernel) (by decide +kernel)
set_option maxRecDepth 20000 in
theorem gX9_first_X9_isPoint : GoodIn wsX9_first (wsV RX9 78 RX9 yX9_isPoint wsX9_isPoint) := goodIn_app (goodIn_of _ (by decide +kernel)) ggX9_first_X9_isPoint
set_option maxRecDepth 20000 in
theorem ggX9_first_X9_isAsked : GoodIn wsX9_first wsX9_isAsked := goodIn_r _ [16, 17, 18, 11, 12, 9, 13] (by decide +kernel) (by decide +kernel)
set_option maxRecDepth 20000 in
theorem gX9_first_X9_isAsked : GoodIn wsX9_first (va_wsS RX9 213 yX9_isAsked wsX9_isAsked) := goodIn_app (goodIn_of _ (by decide +kernel)) ggX9_first_X9_isAsked
set_option maxRecDepth 20000 in
theorem ggX9_first_X9_beginTimes : GoodIn wsX9_first wsX9_beginTimes := goodIn_r _ [22, 23, 5, 24, 25, 26, 27, 28, 9, 29, 30, 31, 32, 33, 34, 35, 36, 95, 96, 97, 98, 99, 100, 101, 102, 103, 104, 105, 106, 107, 108, 109, 110, 111, 112, 113, 114, 115, 116, 117, 118, 119, 120] (by decide +kernel) (by decide +kernel)
set_option maxRecDepth 20000 in
theorem gX9_first_X9_beginTimes : GoodIn wsX9_first (wsV RX9 216 RX9 yX9_beginTimes wsX9_beginTimes) := goodIn_app (goodIn_of _ (by decide +kernel)) ggX9_first_X9_beginTimes
set_option maxRecDepth 20000 in
theorem ggX9_first_X9_addApart : GoodIn wsX9_first wsX9_addApart := goodIn_r _ [40, 24, 41, 42, 32, 33, 34, 9, 35, 36, 43, 44, 45, 46, 47, 48, 49, 50, 25, 51, 52, 53, 54, 55, 56, 57, 26, 27, 28, 29, 23, 30, 31, 95, 96, 97, 98, 99, 100, 101, 102, 103, 104, 105, 106, 107, 108, 109, 110, 111, 112, 113, 114, 115, 116, 117, 118, 119, 120] (by decide +kernel) (by decide +kernel)
set_option maxRecDepth 20000 in
theorem gX9_first_X9_addApart : GoodIn wsX9_first (wsV RX9 220 RX9 yX9_addApart wsX9_addApart) := goodIn_app (goodIn_of _ (by decide +kernel)) ggX9_first_X9_addApart
set_option maxRecDepth 20000 in
theorem ggX9_first_X9_findSpans : GoodIn wsX9_first wsX9_findSpans := goodIn_r _ [61, 62, 23, 31, 30, 63, 64, 65, 66, 67, 68, 9, 69, 3, 4, 70, 71, 5, 72, 73, 74, 75, 76, 24, 41, 42, 32, 33, 34, 35, 36, 77, 78, 79, 80, 81, 82, 83, 84, 25, 85, 86, 87, 88, 11, 12, 13, 89, 90, 91, 92, 93, 94, 95, 96, 97, 98, 99, 100, 101, 102, 103, 104, 105, 106, 107, 108, 109, 110, 111, 112, 113, 114, 115, 116, 117, 118, 119, 120] (by decide +kernel) (by decide +kernel)
set_option maxRecDepth 20000 in
theorem gX9_first_X9_findSpans : GoodIn wsX9_first (wsV RX9 224 RX9 yX9_findSpans wsX9_findSpans) := goodIn_app (goodIn_of _ (by decide +kernel)) ggX9_first_X9_findSpans
theorem dX9_first_0 : decode cX9_first 0 = .ok (.aload_n 0, 1) := by decide +kernel
theorem dX9_first_1 : decode cX9_first 1 = .ok (.iload_n 1, 1) := by decide +kernel
theorem dX9_first_2 : decode cX9_first 2 = .ok (.invokevirtual 78, 3) := by decide +kernel
theorem dX9_first_5 : decode cX9_first 5 = .ok (.ifCond .ne 6, 3) := by decide +kernel
theorem dX9_first_8 : decode cX9_first 8 = .ok (.ldc 82, 2) := by decide +kernel
theorem dX9_first_10 : decode cX9_first 10 = .ok (.ireturn, 1) := by decide +kernel
theorem dX9_first_11 : decode cX9_first 11 = .ok (.iload_n 2, 1) := by decide +kernel
theorem dX9_first_12 : decode cX9_first 12 = .ok (.iload 4, 2) := by decide +kernel
theorem dX9_first_14 : decode cX9_first 14 = .ok (.invokestatic 213, 3) := by decide +kernel
theorem dX9_first_17 : decode cX9_first 17 = .ok (.ifCond .ne 6, 3) := by decide +kernel
theorem dX9_first_20 : decode cX9_first 20 = .ok (.ldc 73, 2) := by decide +kernel
theorem dX9_first_22 : decode cX9_first 22 = .ok (.ireturn, 1) := by decide +kernel
theorem dX9_first_23 : decode cX9_first 23 = .ok (.aload_n 0, 1) := by decide +kernel
theorem dX9_first_24 : decode cX9_first 24 = .ok (.iconst 1, 1) := by decide +kernel
theorem dX9_first_25 : decode cX9_first 25 = .ok (.putfield 182, 3) := by decide +kernel
theorem dX9_first_28 : decode cX9_first 28 = .ok (.aload_n 0, 1) := by decide +kernel
theorem dX9_first_29 : decode cX9_first 29 = .ok (.iload_n 1, 1) := by decide +kernel
theorem dX9_first_30 : decode cX9_first 30 = .ok (.putfield 185, 3) := by decide +kernel
theorem dX9_first_33 : decode cX9_first 33 = .ok (.aload_n 0, 1) := by decide +kernel
theorem dX9_first_34 : decode cX9_first 34 = .ok (.iload_n 2, 1) := by decide +kernel
theorem dX9_first_35 : decode cX9_first 35 = .ok (.invokevirtual 216, 3) := by decide +kernel
theorem dX9_first_38 : decode cX9_first 38 = .ok (.iconst 0, 1) := by decide +kernel
theorem dX9_first_39 : decode cX9_first 39 = .ok (.istore 5, 2) := by decide +kernel
theorem dX9_first_41 : decode cX9_first 41 = .ok (.iload 5, 2) := by decide +kernel
theorem dX9_first_43 : decode cX9_first 43 = .ok (.aload_n 0, 1) := by decide +kernel
theorem dX9_first_44 : decode cX9_first 44 = .ok (.getfield 57, 3) := by decide +kernel
theorem dX9_first_47 : decode cX9_first 47 = .ok (.if_icmp .ge 24, 3) := by decide +kernel
theorem dX9_first_50 : decode cX9_first 50 = .ok (.iload 5, 2) := by decide +kernel
theorem dX9_first_52 : decode cX9_first 52 = .ok (.iload_n 1, 1) := by decide +kernel
theorem dX9_first_53 : decode cX9_first 53 = .ok (.if_icmp .eq 12, 3) := by decide +kernel
theorem dX9_first_56 : decode cX9_first 56 = .ok (.aload_n 0, 1) := by decide +kernel
theorem dX9_first_57 : decode cX9_first 57 = .ok (.iload_n 1, 1) := by decide +kernel
theorem dX9_first_58 : decode cX9_first 58 = .ok (.iload 5, 2) := by decide +kernel
theorem dX9_first_60 : decode cX9_first 60 = .ok (.lconst 0, 1) := by decide +kernel
theorem dX9_first_61 : decode cX9_first 61 = .ok (.iload_n 2, 1) := by decide +kernel
theorem dX9_first_62 : decode cX9_first 62 = .ok (.invokevirtual 220, 3) := by decide +kernel
theorem dX9_first_65 : decode cX9_first 65 = .ok (.iinc 5 1, 3) := by decide +kernel
theorem dX9_first_68 : decode cX9_first 68 = .ok (.goto (-27), 3) := by decide +kernel
theorem dX9_first_71 : decode cX9_first 71 = .ok (.aload_n 0, 1) := by decide +kernel
theorem dX9_first_72 : decode cX9_first 72 = .ok (.iload_n 3, 1) := by decide +kernel
theorem dX9_first_73 : decode cX9_first 73 = .ok (.iload 4, 2) := by decide +kernel
theorem dX9_first_75 : decode cX9_first 75 = .ok (.invokevirtual 224, 3) := by decide +kernel
theorem dX9_first_78 : decode cX9_first 78 = .ok (.ireturn, 1) := by decide +kernel
set_option maxRecDepth 20000 in
theorem ggX9_within_X9_in : GoodIn wsX9_within wsX9_in := goodIn_r _ [13] (by decide +kernel) (by decide +kernel)
set_option maxRecDepth 20000 in
theorem gX9_within_X9_in : GoodIn wsX9_within (va_wsS RX9 61 yX9_in wsX9_in) := goodIn_app (goodIn_of _ (by decide +kernel)) ggX9_within_X9_in
set_option maxRecDepth 20000 in
theorem ggX9_within_X9_isAsked : GoodIn wsX9_within wsX9_isAsked := goodIn_r _ [16, 17, 18, 10, 11, 12, 13] (by decide +kernel) (by decide +kernel)
set_option maxRecDepth 20000 in
theorem gX9_within_X9_isAsked : GoodIn wsX9_within (va_wsS RX9 213 yX9_isAsked wsX9_isAsked) := goodIn_app (goodIn_of _ (by decide +kernel)) ggX9_within_X9_isAsked
set_option maxRecDepth 20000 in
theorem ggX9_within_X9_beginTimes : GoodIn wsX9_within wsX9_beginTimes := goodIn_r _ [22, 23, 9, 24, 25, 26, 27, 28, 12, 29, 30, 31, 32, 33, 34, 35, 36, 90, 91, 92, 93, 94, 95, 96, 97, 98, 99, 100, 101, 102, 103, 104, 105, 106, 107, 108, 109, 110, 111, 112, 113, 114, 115] (by decide +kernel) (by decide +kernel)
set_option maxRecDepth 20000 in
theorem gX9_within_X9_beginTimes : GoodIn wsX9_within (wsV RX9 216 RX9 yX9_beginTimes wsX9_beginTimes) := goodIn_app (goodIn_of _ (by decide +kernel)) ggX9_within_X9_beginTimes
set_option maxRecDepth 20000 in
theorem ggX9_within_X9_addAt : GoodIn wsX9_within wsX9_addAt := goodIn_r _ [40, 41, 42, 24, 32, 33, 34, 12, 35, 36, 43, 44, 45, 46, 47, 25, 48, 49, 50, 51, 52, 53, 54, 26, 27, 28, 29, 23, 30, 31, 90, 91, 92, 93, 94, 95, 96, 97, 98, 99, 100, 101, 102, 103, 104, 105, 106, 107, 108, 109, 110, 111, 112, 113, 114, 115] (by decide +kernel) (by decide +kernel)
set_option maxRecDepth 20000 in
theorem gX9_within_X9_addAt : GoodIn wsX9_within (wsV RX9 233 RX9 yX9_addAt wsX9_addAt) := goodIn_app (goodIn_of _ (by decide +kernel)) ggX9_within_X9_addAt
set_option maxRecDepth 20000 in
theorem ggX9_within_X9_findSpans : GoodIn wsX9_within wsX9_findSpans := goodIn_r _ [58, 59, 23, 31, 30, 60, 61, 62, 63, 64, 65, 12, 66, 5, 6, 67, 8, 9, 7, 68, 69, 70, 71, 24, 41, 42, 32, 33, 34, 35, 36, 72, 73, 74, 75, 76, 77, 78, 79, 25, 80, 81, 82, 83, 10, 11, 13, 84, 85, 86, 87, 88, 89, 90, 91, 92, 93, 94, 95, 96, 97, 98, 99, 100, 101, 102, 103, 104, 105, 106, 107, 108, 109, 110, 111, 112, 113, 114, 115] (by decide +kernel) (by decide +kernel)
set_option maxRecDepth 20000 in
theorem gX9_within_X9_findSpans : GoodIn wsX9_within (wsV RX9 224 RX9 yX9_findSpans wsX9_findSpans) := goodIn_app (goodIn_of _ (by decide +kernel)) ggX9_within_X9_findSpans
theorem dX9_within_0 : decode cX9_within 0 = .ok (.iload_n 1, 1) := by decide +kernel
theorem dX9_within_1 : decode cX9_within 1 = .ok (.i2l, 1) := by decide +kernel
theorem dX9_within_2 : decode cX9_within 2 = .ok (.ldc2_w 227, 3) := by decide +kernel
theorem dX9_within_5 : decode cX9_within 5 = .ok (.ldc2_w 229, 3) := by decide +kernel
theorem dX9_within_8 : decode cX9_within 8 = .ok (.invokestatic 61, 3) := by decide +kernel
theorem dX9_within_11 : decode cX9_within 11 = .ok (.ifCond .eq 38, 3) := by decide +kernel
theorem dX9_within_14 : decode cX9_within 14 = .ok (.iload_n 2, 1) := by decide +kernel
theorem dX9_within_15 : decode cX9_within 15 = .ok (.i2l, 1) := by decide +kernel
theorem dX9_within_16 : decode cX9_within 16 = .ok (.iload_n 1, 1) := by decide +kernel
theorem dX9_within_17 : decode cX9_within 17 = .ok (.i2l, 1) := by decide +kernel
theorem dX9_within_18 : decode cX9_within 18 = .ok (.ldc2_w 229, 3) := by decide +kernel
theorem dX9_within_21 : decode cX9_within 21 = .ok (.invokestatic 61, 3) := by decide +kernel
theorem dX9_within_24 : decode cX9_within 24 = .ok (.ifCond .eq 25, 3) := by decide +kernel
theorem dX9_within_27 : decode cX9_within 27 = .ok (.iload_n 3, 1) := by decide +kernel
theorem dX9_within_28 : decode cX9_within 28 = .ok (.i2l, 1) := by decide +kernel
theorem dX9_within_29 : decode cX9_within 29 = .ok (.lconst 1, 1) := by decide +kernel
theorem dX9_within_30 : decode cX9_within 30 = .ok (.ldc2_w 231, 3) := by decide +kernel
theorem dX9_within_33 : decode cX9_within 33 = .ok (.invokestatic 61, 3) := by decide +kernel
theorem dX9_within_36 : decode cX9_within 36 = .ok (.ifCond .eq 13, 3) := by decide +kernel
theorem dX9_within_39 : decode cX9_within 39 = .ok (.iload 4, 2) := by decide +kernel
theorem dX9_within_41 : decode cX9_within 41 = .ok (.iload 6, 2) := by decide +kernel
theorem dX9_within_43 : decode cX9_within 43 = .ok (.invokestatic 213, 3) := by decide +kernel
theorem dX9_within_46 : decode cX9_within 46 = .ok (.ifCond .ne 6, 3) := by decide +kernel
theorem dX9_within_49 : decode cX9_within 49 = .ok (.ldc 73, 2) := by decide +kernel
theorem dX9_within_51 : decode cX9_within 51 = .ok (.ireturn, 1) := by decide +kernel
theorem dX9_within_52 : decode cX9_within 52 = .ok (.aload_n 0, 1) := by decide +kernel
theorem dX9_within_53 : decode cX9_within 53 = .ok (.iconst 2, 1) := by decide +kernel
theorem dX9_within_54 : decode cX9_within 54 = .ok (.putfield 182, 3) := by decide +kernel
theorem dX9_within_57 : decode cX9_within 57 = .ok (.aload_n 0, 1) := by decide +kernel
theorem dX9_within_58 : decode cX9_within 58 = .ok (.iload_n 3, 1) := by decide +kernel
theorem dX9_within_59 : decode cX9_within 59 = .ok (.putfield 185, 3) := by decide +kernel
theorem dX9_within_62 : decode cX9_within 62 = .ok (.aload_n 0, 1) := by decide +kernel
theorem dX9_within_63 : decode cX9_within 63 = .ok (.iload_n 1, 1) := by decide +kernel
theorem dX9_within_64 : decode cX9_within 64 = .ok (.i2l, 1) := by decide +kernel
theorem dX9_within_65 : decode cX9_within 65 = .ok (.putfield 195, 3) := by decide +kernel
theorem dX9_within_68 : decode cX9_within 68 = .ok (.aload_n 0, 1) := by decide +kernel
theorem dX9_within_69 : decode cX9_within 69 = .ok (.iload_n 2, 1) := by decide +kernel
theorem dX9_within_70 : decode cX9_within 70 = .ok (.i2l, 1) := by decide +kernel
theorem dX9_within_71 : decode cX9_within 71 = .ok (.putfield 191, 3) := by decide +kernel
theorem dX9_within_74 : decode cX9_within 74 = .ok (.aload_n 0, 1) := by decide +kernel
theorem dX9_within_75 : decode cX9_within 75 = .ok (.iload 4, 2) := by decide +kernel
theorem dX9_within_77 : decode cX9_within 77 = .ok (.invokevirtual 216, 3) := by decide +kernel
theorem dX9_within_80 : decode cX9_within 80 = .ok (.iconst 0, 1) := by decide +kernel
theorem dX9_within_81 : decode cX9_within 81 = .ok (.istore 7, 2) := by decide +kernel
theorem dX9_within_83 : decode cX9_within 83 = .ok (.iload 7, 2) := by decide +kernel
theorem dX9_within_85 : decode cX9_within 85 = .ok (.aload_n 0, 1) := by decide +kernel
theorem dX9_within_86 : decode cX9_within 86 = .ok (.getfield 57, 3) := by decide +kernel
theorem dX9_within_89 : decode cX9_within 89 = .ok (.if_icmp .ge 29, 3) := by decide +kernel
theorem dX9_within_92 : decode cX9_within 92 = .ok (.aload_n 0, 1) := by decide +kernel
theorem dX9_within_93 : decode cX9_within 93 = .ok (.iload 7, 2) := by decide +kernel
theorem dX9_within_95 : decode cX9_within 95 = .ok (.iload_n 1, 1) := by decide +kernel
theorem dX9_within_96 : decode cX9_within 96 = .ok (.i2l, 1) := by decide +kernel
theorem dX9_within_97 : decode cX9_within 97 = .ok (.iload 4, 2) := by decide +kernel
theorem dX9_within_99 : decode cX9_within 99 = .ok (.invokevirtual 233, 3) := by decide +kernel
theorem dX9_within_102 : decode cX9_within 102 = .ok (.aload_n 0, 1) := by decide +kernel
theorem dX9_within_103 : decode cX9_within 103 = .ok (.iload 7, 2) := by decide +kernel
theorem dX9_within_105 : decode cX9_within 105 = .ok (.iload_n 2, 1) := by decide +kernel
theorem dX9_within_106 : decode cX9_within 106 = .ok (.i2l, 1) := by decide +kernel
theorem dX9_within_107 : decode cX9_within 107 = .ok (.iload 4, 2) := by decide +kernel
theorem dX9_within_109 : decode cX9_within 109 = .ok (.invokevirtual 233, 3) := by decide +kernel
theorem dX9_within_112 : decode cX9_within 112 = .ok (.iinc 7 1, 3) := by decide +kernel
theorem dX9_within_115 : decode cX9_within 115 = .ok (.goto (-32), 3) := by decide +kernel
theorem dX9_within_118 : decode cX9_within 118 = .ok (.aload_n 0, 1) := by decide +kernel
theorem dX9_within_119 : decode cX9_within 119 = .ok (.iload 5, 2) := by decide +kernel
theorem dX9_within_121 : decode cX9_within 121 = .ok (.iload 6, 2) := by decide +kernel
theorem dX9_within_123 : decode cX9_within 123 = .ok (.invokevirtual 224, 3) := by decide +kernel
theorem dX9_within_126 : decode cX9_within 126 = .ok (.ireturn, 1) := by decide +kernel
theorem dJ13_compare_74951_0 : decode cJ13_compare_74951 0 = .ok (.lload_n 0, 1) := by decide +kernel
theorem dJ13_compare_74951_1 : decode cJ13_compare_74951 1 = .ok (.lload_n 2, 1) := by decide +kernel
theorem dJ13_compare_74951_2 : decode cJ13_compare_74951 2 = .ok (.lcmp, 1) := by decide +kernel
theorem dJ13_compare_74951_3 : decode cJ13_compare_74951 3 = .ok (.ifCond .ge 7, 3) := by decide +kernel
theorem dJ13_compare_74951_6 : decode cJ13_compare_74951 6 = .ok (.iconst (-1), 1) := by decide +kernel
theorem dJ13_compare_74951_7 : decode cJ13_compare_74951 7 = .ok (.goto 14, 3) := by decide +kernel
theorem dJ13_compare_74951_10 : decode cJ13_compare_74951 10 = .ok (.lload_n 0, 1) := by decide +kernel
theorem dJ13_compare_74951_11 : decode cJ13_compare_74951 11 = .ok (.lload_n 2, 1) := by decide +kernel
theorem dJ13_compare_74951_12 : decode cJ13_compare_74951 12 = .ok (.lcmp, 1) := by decide +kernel
theorem dJ13_compare_74951_13 : decode cJ13_compare_74951 13 = .ok (.ifCond .ne 7, 3) := by decide +kernel
theorem dJ13_compare_74951_16 : decode cJ13_compare_74951 16 = .ok (.iconst 0, 1) := by decide +kernel
theorem dJ13_compare_74951_17 : decode cJ13_compare_74951 17 = .ok (.goto 4, 3) := by decide +kernel
theorem dJ13_compare_74951_20 : decode cJ13_compare_74951 20 = .ok (.iconst 1, 1) := by decide +kernel
theorem dJ13_compare_74951_21 : decode cJ13_compare_74951 21 = .ok (.ireturn, 1) := by decide +kernel
theorem dJ9_abs_0f7a4_0 : decode cJ9_abs_0f7a4 0 = .ok (.iload_n 0, 1) := by decide +kernel
theorem dJ9_abs_0f7a4_1 : decode cJ9_abs_0f7a4 1 = .ok (.ifCond .ge 8, 3) := by decide +kernel
theorem dJ9_abs_0f7a4_4 : decode cJ9_abs_0f7a4 4 = .ok (.iload_n 0, 1) := by decide +kernel
theorem dJ9_abs_0f7a4_5 : decode cJ9_abs_0f7a4 5 = .ok (.ineg, 1) := by decide +kernel
theorem dJ9_abs_0f7a4_6 : decode cJ9_abs_0f7a4 6 = .ok (.goto 4, 3) := by decide +kernel
theorem dJ9_abs_0f7a4_9 : decode cJ9_abs_0f7a4 9 = .ok (.iload_n 0, 1) := by decide +kernel
theorem dJ9_abs_0f7a4_10 : decode cJ9_abs_0f7a4 10 = .ok (.ireturn, 1) := by decide +kernel
theorem dJ9_max_7cf53_0 : decode cJ9_max_7cf53 0 = .ok (.iload_n 0, 1) := by decide +kernel
theorem dJ9_max_7cf53_1 : decode cJ9_max_7cf53 1 = .ok (.iload_n 1, 1) := by decide +kernel
theorem dJ9_max_7cf53_2 : decode cJ9_max_7cf53 2 = .ok (.if_icmp .lt 7, 3) := by decide +kernel
theorem dJ9_max_7cf53_5 : decode cJ9_max_7cf53 5 = .ok (.iload_n 0, 1) := by decide +kernel
theorem dJ9_max_7cf53_6 : decode cJ9_max_7cf53 6 = .ok (.goto 4, 3) := by decide +kernel
theorem dJ9_max_7cf53_9 : decode cJ9_max_7cf53 9 = .ok (.iload_n 1, 1) := by decide +kernel
theorem dJ9_max_7cf53_10 : decode cJ9_max_7cf53 10 = .ok (.ireturn, 1) := by decide +kernel
theorem dJ9_min_7cf53_0 : decode cJ9_min_7cf53 0 = .ok (.iload_n 0, 1) := by decide +kernel
theorem dJ9_min_7cf53_1 : decode cJ9_min_7cf53 1 = .ok (.iload_n 1, 1) := by decide +kernel
theorem dJ9_min_7cf53_2 : decode cJ9_min_7cf53 2 = .ok (.if_icmp .gt 7, 3) := by decide +kernel
theorem dJ9_min_7cf53_5 : decode cJ9_min_7cf53 5 = .ok (.iload_n 0, 1) := by decide +kernel
theorem dJ9_min_7cf53_6 : decode cJ9_min_7cf53 6 = .ok (.goto 4, 3) := by decide +kernel
theorem dJ9_min_7cf53_9 : decode cJ9_min_7cf53 9 = .ok (.iload_n 1, 1) := by decide +kernel
theorem dJ9_min_7cf53_10 : decode cJ9_min_7cf53 10 = .ok (.ireturn, 1) := by decide +kernel
