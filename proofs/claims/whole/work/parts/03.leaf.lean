theorem dX0_init_0 : decode cX0_init 0 = .ok (.aload_n 0, 1) := by decide +kernel
theorem dX0_init_1 : decode cX0_init 1 = .ok (.invokespecial 3, 3) := by decide +kernel
theorem dX0_init_4 : decode cX0_init 4 = .ok (.aload_n 0, 1) := by decide +kernel
theorem dX0_init_5 : decode cX0_init 5 = .ok (.bipush 8, 2) := by decide +kernel
theorem dX0_init_7 : decode cX0_init 7 = .ok (.newarray .int, 2) := by decide +kernel
theorem dX0_init_9 : decode cX0_init 9 = .ok (.putfield 9, 3) := by decide +kernel
theorem dX0_init_12 : decode cX0_init 12 = .ok (.aload_n 0, 1) := by decide +kernel
theorem dX0_init_13 : decode cX0_init 13 = .ok (.bipush 8, 2) := by decide +kernel
theorem dX0_init_15 : decode cX0_init 15 = .ok (.newarray .int, 2) := by decide +kernel
theorem dX0_init_17 : decode cX0_init 17 = .ok (.putfield 15, 3) := by decide +kernel
theorem dX0_init_20 : decode cX0_init 20 = .ok (.aload_n 0, 1) := by decide +kernel
theorem dX0_init_21 : decode cX0_init 21 = .ok (.bipush 8, 2) := by decide +kernel
theorem dX0_init_23 : decode cX0_init 23 = .ok (.newarray .int, 2) := by decide +kernel
theorem dX0_init_25 : decode cX0_init 25 = .ok (.putfield 18, 3) := by decide +kernel
theorem dX0_init_28 : decode cX0_init 28 = .ok (.aload_n 0, 1) := by decide +kernel
theorem dX0_init_29 : decode cX0_init 29 = .ok (.iconst 1, 1) := by decide +kernel
theorem dX0_init_30 : decode cX0_init 30 = .ok (.putfield 21, 3) := by decide +kernel
theorem dX0_init_33 : decode cX0_init 33 = .ok (.aload_n 0, 1) := by decide +kernel
theorem dX0_init_34 : decode cX0_init 34 = .ok (.iconst (-1), 1) := by decide +kernel
theorem dX0_init_35 : decode cX0_init 35 = .ok (.putfield 25, 3) := by decide +kernel
theorem dX0_init_38 : decode cX0_init 38 = .ok (.return_, 1) := by decide +kernel
theorem dX0_begin_0 : decode cX0_begin 0 = .ok (.aload_n 0, 1) := by decide +kernel
theorem dX0_begin_1 : decode cX0_begin 1 = .ok (.iconst 1, 1) := by decide +kernel
theorem dX0_begin_2 : decode cX0_begin 2 = .ok (.putfield 21, 3) := by decide +kernel
theorem dX0_begin_5 : decode cX0_begin 5 = .ok (.aload_n 0, 1) := by decide +kernel
theorem dX0_begin_6 : decode cX0_begin 6 = .ok (.iconst (-1), 1) := by decide +kernel
theorem dX0_begin_7 : decode cX0_begin 7 = .ok (.putfield 25, 3) := by decide +kernel
theorem dX0_begin_10 : decode cX0_begin 10 = .ok (.aload_n 0, 1) := by decide +kernel
theorem dX0_begin_11 : decode cX0_begin 11 = .ok (.getfield 9, 3) := by decide +kernel
theorem dX0_begin_14 : decode cX0_begin 14 = .ok (.iconst 0, 1) := by decide +kernel
theorem dX0_begin_15 : decode cX0_begin 15 = .ok (.iload_n 1, 1) := by decide +kernel
theorem dX0_begin_16 : decode cX0_begin 16 = .ok (.iastore, 1) := by decide +kernel
theorem dX0_begin_17 : decode cX0_begin 17 = .ok (.aload_n 0, 1) := by decide +kernel
theorem dX0_begin_18 : decode cX0_begin 18 = .ok (.getfield 15, 3) := by decide +kernel
theorem dX0_begin_21 : decode cX0_begin 21 = .ok (.iconst 0, 1) := by decide +kernel
theorem dX0_begin_22 : decode cX0_begin 22 = .ok (.iload_n 2, 1) := by decide +kernel
theorem dX0_begin_23 : decode cX0_begin 23 = .ok (.iastore, 1) := by decide +kernel
theorem dX0_begin_24 : decode cX0_begin 24 = .ok (.aload_n 0, 1) := by decide +kernel
theorem dX0_begin_25 : decode cX0_begin 25 = .ok (.getfield 18, 3) := by decide +kernel
theorem dX0_begin_28 : decode cX0_begin 28 = .ok (.iconst 0, 1) := by decide +kernel
theorem dX0_begin_29 : decode cX0_begin 29 = .ok (.iload_n 3, 1) := by decide +kernel
theorem dX0_begin_30 : decode cX0_begin 30 = .ok (.iastore, 1) := by decide +kernel
theorem dX0_begin_31 : decode cX0_begin 31 = .ok (.return_, 1) := by decide +kernel
theorem dX0_began_0 : decode cX0_began 0 = .ok (.aload_n 0, 1) := by decide +kernel
theorem dX0_began_1 : decode cX0_began 1 = .ok (.getfield 9, 3) := by decide +kernel
theorem dX0_began_4 : decode cX0_began 4 = .ok (.iconst 0, 1) := by decide +kernel
theorem dX0_began_5 : decode cX0_began 5 = .ok (.iaload, 1) := by decide +kernel
theorem dX0_began_6 : decode cX0_began 6 = .ok (.ireturn, 1) := by decide +kernel
theorem dX0_isStopped_0 : decode cX0_isStopped 0 = .ok (.aload_n 0, 1) := by decide +kernel
theorem dX0_isStopped_1 : decode cX0_isStopped 1 = .ok (.getfield 25, 3) := by decide +kernel
theorem dX0_isStopped_4 : decode cX0_isStopped 4 = .ok (.iconst (-1), 1) := by decide +kernel
theorem dX0_isStopped_5 : decode cX0_isStopped 5 = .ok (.if_icmp .eq 7, 3) := by decide +kernel
theorem dX0_isStopped_8 : decode cX0_isStopped 8 = .ok (.iconst 1, 1) := by decide +kernel
theorem dX0_isStopped_9 : decode cX0_isStopped 9 = .ok (.goto 4, 3) := by decide +kernel
theorem dX0_isStopped_12 : decode cX0_isStopped 12 = .ok (.iconst 0, 1) := by decide +kernel
theorem dX0_isStopped_13 : decode cX0_isStopped 13 = .ok (.ireturn, 1) := by decide +kernel
theorem dX0_stop_0 : decode cX0_stop 0 = .ok (.aload_n 0, 1) := by decide +kernel
theorem dX0_stop_1 : decode cX0_stop 1 = .ok (.iload_n 1, 1) := by decide +kernel
theorem dX0_stop_2 : decode cX0_stop 2 = .ok (.putfield 25, 3) := by decide +kernel
theorem dX0_stop_5 : decode cX0_stop 5 = .ok (.return_, 1) := by decide +kernel
theorem dX0_canTurn_0 : decode cX0_canTurn 0 = .ok (.aload_n 0, 1) := by decide +kernel
theorem dX0_canTurn_1 : decode cX0_canTurn 1 = .ok (.getfield 21, 3) := by decide +kernel
theorem dX0_canTurn_4 : decode cX0_canTurn 4 = .ok (.bipush 8, 2) := by decide +kernel
theorem dX0_canTurn_6 : decode cX0_canTurn 6 = .ok (.if_icmp .lt 14, 3) := by decide +kernel
theorem dX0_canTurn_9 : decode cX0_canTurn 9 = .ok (.aload_n 0, 1) := by decide +kernel
theorem dX0_canTurn_10 : decode cX0_canTurn 10 = .ok (.getfield 9, 3) := by decide +kernel
theorem dX0_canTurn_13 : decode cX0_canTurn 13 = .ok (.bipush 7, 2) := by decide +kernel
theorem dX0_canTurn_15 : decode cX0_canTurn 15 = .ok (.iaload, 1) := by decide +kernel
theorem dX0_canTurn_16 : decode cX0_canTurn 16 = .ok (.iload_n 1, 1) := by decide +kernel
theorem dX0_canTurn_17 : decode cX0_canTurn 17 = .ok (.if_icmp .ne 7, 3) := by decide +kernel
theorem dX0_canTurn_20 : decode cX0_canTurn 20 = .ok (.iconst 1, 1) := by decide +kernel
theorem dX0_canTurn_21 : decode cX0_canTurn 21 = .ok (.goto 4, 3) := by decide +kernel
theorem dX0_canTurn_24 : decode cX0_canTurn 24 = .ok (.iconst 0, 1) := by decide +kernel
theorem dX0_canTurn_25 : decode cX0_canTurn 25 = .ok (.ireturn, 1) := by decide +kernel
theorem dX0_latestSpeed_0 : decode cX0_latestSpeed 0 = .ok (.aload_n 0, 1) := by decide +kernel
theorem dX0_latestSpeed_1 : decode cX0_latestSpeed 1 = .ok (.getfield 18, 3) := by decide +kernel
theorem dX0_latestSpeed_4 : decode cX0_latestSpeed 4 = .ok (.aload_n 0, 1) := by decide +kernel
theorem dX0_latestSpeed_5 : decode cX0_latestSpeed 5 = .ok (.getfield 21, 3) := by decide +kernel
theorem dX0_latestSpeed_8 : decode cX0_latestSpeed 8 = .ok (.iconst 1, 1) := by decide +kernel
theorem dX0_latestSpeed_9 : decode cX0_latestSpeed 9 = .ok (.isub, 1) := by decide +kernel
theorem dX0_latestSpeed_10 : decode cX0_latestSpeed 10 = .ok (.iaload, 1) := by decide +kernel
theorem dX0_latestSpeed_11 : decode cX0_latestSpeed 11 = .ok (.ireturn, 1) := by decide +kernel
set_option maxRecDepth 20000 in
theorem ggX0_turn_X0_placeAt : GoodIn wsX0_turn wsX0_placeAt := goodIn_r _ [9, 10, 11, 12, 8, 13, 3, 4, 1, 14, 15, 16, 17, 2, 18, 19, 20, 21, 22] (by decide +kernel) (by decide +kernel)
set_option maxRecDepth 20000 in
theorem gX0_turn_X0_placeAt : GoodIn wsX0_turn (wsV RX0 28 RX0 yX0_placeAt wsX0_placeAt) := goodIn_app (goodIn_of _ (by decide +kernel)) ggX0_turn_X0_placeAt
theorem dX0_turn_0 : decode cX0_turn 0 = .ok (.aload_n 0, 1) := by decide +kernel
theorem dX0_turn_1 : decode cX0_turn 1 = .ok (.getfield 9, 3) := by decide +kernel
theorem dX0_turn_4 : decode cX0_turn 4 = .ok (.aload_n 0, 1) := by decide +kernel
theorem dX0_turn_5 : decode cX0_turn 5 = .ok (.getfield 21, 3) := by decide +kernel
theorem dX0_turn_8 : decode cX0_turn 8 = .ok (.iconst 1, 1) := by decide +kernel
theorem dX0_turn_9 : decode cX0_turn 9 = .ok (.isub, 1) := by decide +kernel
theorem dX0_turn_10 : decode cX0_turn 10 = .ok (.iaload, 1) := by decide +kernel
theorem dX0_turn_11 : decode cX0_turn 11 = .ok (.iload_n 1, 1) := by decide +kernel
theorem dX0_turn_12 : decode cX0_turn 12 = .ok (.if_icmp .eq 46, 3) := by decide +kernel
theorem dX0_turn_15 : decode cX0_turn 15 = .ok (.aload_n 0, 1) := by decide +kernel
theorem dX0_turn_16 : decode cX0_turn 16 = .ok (.getfield 21, 3) := by decide +kernel
theorem dX0_turn_19 : decode cX0_turn 19 = .ok (.bipush 8, 2) := by decide +kernel
theorem dX0_turn_21 : decode cX0_turn 21 = .ok (.if_icmp .ge 37, 3) := by decide +kernel
theorem dX0_turn_24 : decode cX0_turn 24 = .ok (.aload_n 0, 1) := by decide +kernel
theorem dX0_turn_25 : decode cX0_turn 25 = .ok (.getfield 9, 3) := by decide +kernel
theorem dX0_turn_28 : decode cX0_turn 28 = .ok (.aload_n 0, 1) := by decide +kernel
theorem dX0_turn_29 : decode cX0_turn 29 = .ok (.getfield 21, 3) := by decide +kernel
theorem dX0_turn_32 : decode cX0_turn 32 = .ok (.iload_n 1, 1) := by decide +kernel
theorem dX0_turn_33 : decode cX0_turn 33 = .ok (.iastore, 1) := by decide +kernel
theorem dX0_turn_34 : decode cX0_turn 34 = .ok (.aload_n 0, 1) := by decide +kernel
theorem dX0_turn_35 : decode cX0_turn 35 = .ok (.getfield 15, 3) := by decide +kernel
theorem dX0_turn_38 : decode cX0_turn 38 = .ok (.aload_n 0, 1) := by decide +kernel
theorem dX0_turn_39 : decode cX0_turn 39 = .ok (.getfield 21, 3) := by decide +kernel
theorem dX0_turn_42 : decode cX0_turn 42 = .ok (.aload_n 0, 1) := by decide +kernel
theorem dX0_turn_43 : decode cX0_turn 43 = .ok (.iload_n 1, 1) := by decide +kernel
theorem dX0_turn_44 : decode cX0_turn 44 = .ok (.invokevirtual 28, 3) := by decide +kernel
theorem dX0_turn_47 : decode cX0_turn 47 = .ok (.iastore, 1) := by decide +kernel
theorem dX0_turn_48 : decode cX0_turn 48 = .ok (.aload_n 0, 1) := by decide +kernel
theorem dX0_turn_49 : decode cX0_turn 49 = .ok (.dup, 1) := by decide +kernel
theorem dX0_turn_50 : decode cX0_turn 50 = .ok (.getfield 21, 3) := by decide +kernel
theorem dX0_turn_53 : decode cX0_turn 53 = .ok (.iconst 1, 1) := by decide +kernel
theorem dX0_turn_54 : decode cX0_turn 54 = .ok (.iadd, 1) := by decide +kernel
theorem dX0_turn_55 : decode cX0_turn 55 = .ok (.putfield 21, 3) := by decide +kernel
theorem dX0_turn_58 : decode cX0_turn 58 = .ok (.aload_n 0, 1) := by decide +kernel
theorem dX0_turn_59 : decode cX0_turn 59 = .ok (.getfield 18, 3) := by decide +kernel
theorem dX0_turn_62 : decode cX0_turn 62 = .ok (.aload_n 0, 1) := by decide +kernel
theorem dX0_turn_63 : decode cX0_turn 63 = .ok (.getfield 21, 3) := by decide +kernel
theorem dX0_turn_66 : decode cX0_turn 66 = .ok (.iconst 1, 1) := by decide +kernel
theorem dX0_turn_67 : decode cX0_turn 67 = .ok (.isub, 1) := by decide +kernel
theorem dX0_turn_68 : decode cX0_turn 68 = .ok (.iload_n 2, 1) := by decide +kernel
theorem dX0_turn_69 : decode cX0_turn 69 = .ok (.iastore, 1) := by decide +kernel
theorem dX0_turn_70 : decode cX0_turn 70 = .ok (.return_, 1) := by decide +kernel
theorem dX0_undoFrom_0 : decode cX0_undoFrom 0 = .ok (.aload_n 0, 1) := by decide +kernel
theorem dX0_undoFrom_1 : decode cX0_undoFrom 1 = .ok (.getfield 21, 3) := by decide +kernel
theorem dX0_undoFrom_4 : decode cX0_undoFrom 4 = .ok (.iconst 1, 1) := by decide +kernel
theorem dX0_undoFrom_5 : decode cX0_undoFrom 5 = .ok (.if_icmp .le 31, 3) := by decide +kernel
theorem dX0_undoFrom_8 : decode cX0_undoFrom 8 = .ok (.aload_n 0, 1) := by decide +kernel
theorem dX0_undoFrom_9 : decode cX0_undoFrom 9 = .ok (.getfield 9, 3) := by decide +kernel
theorem dX0_undoFrom_12 : decode cX0_undoFrom 12 = .ok (.aload_n 0, 1) := by decide +kernel
theorem dX0_undoFrom_13 : decode cX0_undoFrom 13 = .ok (.getfield 21, 3) := by decide +kernel
theorem dX0_undoFrom_16 : decode cX0_undoFrom 16 = .ok (.iconst 1, 1) := by decide +kernel
theorem dX0_undoFrom_17 : decode cX0_undoFrom 17 = .ok (.isub, 1) := by decide +kernel
theorem dX0_undoFrom_18 : decode cX0_undoFrom 18 = .ok (.iaload, 1) := by decide +kernel
theorem dX0_undoFrom_19 : decode cX0_undoFrom 19 = .ok (.iload_n 1, 1) := by decide +kernel
theorem dX0_undoFrom_20 : decode cX0_undoFrom 20 = .ok (.if_icmp .lt 16, 3) := by decide +kernel
theorem dX0_undoFrom_23 : decode cX0_undoFrom 23 = .ok (.aload_n 0, 1) := by decide +kernel
theorem dX0_undoFrom_24 : decode cX0_undoFrom 24 = .ok (.dup, 1) := by decide +kernel
theorem dX0_undoFrom_25 : decode cX0_undoFrom 25 = .ok (.getfield 21, 3) := by decide +kernel
theorem dX0_undoFrom_28 : decode cX0_undoFrom 28 = .ok (.iconst 1, 1) := by decide +kernel
theorem dX0_undoFrom_29 : decode cX0_undoFrom 29 = .ok (.isub, 1) := by decide +kernel
theorem dX0_undoFrom_30 : decode cX0_undoFrom 30 = .ok (.putfield 21, 3) := by decide +kernel
theorem dX0_undoFrom_33 : decode cX0_undoFrom 33 = .ok (.goto (-33), 3) := by decide +kernel
theorem dX0_undoFrom_36 : decode cX0_undoFrom 36 = .ok (.aload_n 0, 1) := by decide +kernel
theorem dX0_undoFrom_37 : decode cX0_undoFrom 37 = .ok (.getfield 25, 3) := by decide +kernel
theorem dX0_undoFrom_40 : decode cX0_undoFrom 40 = .ok (.iload_n 1, 1) := by decide +kernel
theorem dX0_undoFrom_41 : decode cX0_undoFrom 41 = .ok (.if_icmp .lt 8, 3) := by decide +kernel
theorem dX0_undoFrom_44 : decode cX0_undoFrom 44 = .ok (.aload_n 0, 1) := by decide +kernel
theorem dX0_undoFrom_45 : decode cX0_undoFrom 45 = .ok (.iconst (-1), 1) := by decide +kernel
theorem dX0_undoFrom_46 : decode cX0_undoFrom 46 = .ok (.putfield 25, 3) := by decide +kernel
theorem dX0_undoFrom_49 : decode cX0_undoFrom 49 = .ok (.return_, 1) := by decide +kernel
theorem dX0_isThere_0 : decode cX0_isThere 0 = .ok (.aload_n 0, 1) := by decide +kernel
theorem dX0_isThere_1 : decode cX0_isThere 1 = .ok (.getfield 9, 3) := by decide +kernel
theorem dX0_isThere_4 : decode cX0_isThere 4 = .ok (.iconst 0, 1) := by decide +kernel
theorem dX0_isThere_5 : decode cX0_isThere 5 = .ok (.iaload, 1) := by decide +kernel
theorem dX0_isThere_6 : decode cX0_isThere 6 = .ok (.iload_n 2, 1) := by decide +kernel
theorem dX0_isThere_7 : decode cX0_isThere 7 = .ok (.imul, 1) := by decide +kernel
theorem dX0_isThere_8 : decode cX0_isThere 8 = .ok (.iload_n 1, 1) := by decide +kernel
theorem dX0_isThere_9 : decode cX0_isThere 9 = .ok (.if_icmp .gt 25, 3) := by decide +kernel
theorem dX0_isThere_12 : decode cX0_isThere 12 = .ok (.aload_n 0, 1) := by decide +kernel
theorem dX0_isThere_13 : decode cX0_isThere 13 = .ok (.getfield 25, 3) := by decide +kernel
theorem dX0_isThere_16 : decode cX0_isThere 16 = .ok (.iconst (-1), 1) := by decide +kernel
theorem dX0_isThere_17 : decode cX0_isThere 17 = .ok (.if_icmp .eq 13, 3) := by decide +kernel
theorem dX0_isThere_20 : decode cX0_isThere 20 = .ok (.iload_n 1, 1) := by decide +kernel
theorem dX0_isThere_21 : decode cX0_isThere 21 = .ok (.aload_n 0, 1) := by decide +kernel
theorem dX0_isThere_22 : decode cX0_isThere 22 = .ok (.getfield 25, 3) := by decide +kernel
theorem dX0_isThere_25 : decode cX0_isThere 25 = .ok (.iload_n 2, 1) := by decide +kernel
theorem dX0_isThere_26 : decode cX0_isThere 26 = .ok (.imul, 1) := by decide +kernel
theorem dX0_isThere_27 : decode cX0_isThere 27 = .ok (.if_icmp .ge 7, 3) := by decide +kernel
theorem dX0_isThere_30 : decode cX0_isThere 30 = .ok (.iconst 1, 1) := by decide +kernel
theorem dX0_isThere_31 : decode cX0_isThere 31 = .ok (.goto 4, 3) := by decide +kernel
theorem dX0_isThere_34 : decode cX0_isThere 34 = .ok (.iconst 0, 1) := by decide +kernel
theorem dX0_isThere_35 : decode cX0_isThere 35 = .ok (.ireturn, 1) := by decide +kernel
theorem dX0_pieceAt_0 : decode cX0_pieceAt 0 = .ok (.iconst 0, 1) := by decide +kernel
theorem dX0_pieceAt_1 : decode cX0_pieceAt 1 = .ok (.istore_n 3, 1) := by decide +kernel
theorem dX0_pieceAt_2 : decode cX0_pieceAt 2 = .ok (.iconst 1, 1) := by decide +kernel
theorem dX0_pieceAt_3 : decode cX0_pieceAt 3 = .ok (.istore 4, 2) := by decide +kernel
theorem dX0_pieceAt_5 : decode cX0_pieceAt 5 = .ok (.iload 4, 2) := by decide +kernel
theorem dX0_pieceAt_7 : decode cX0_pieceAt 7 = .ok (.aload_n 0, 1) := by decide +kernel
theorem dX0_pieceAt_8 : decode cX0_pieceAt 8 = .ok (.getfield 21, 3) := by decide +kernel
theorem dX0_pieceAt_11 : decode cX0_pieceAt 11 = .ok (.if_icmp .ge 25, 3) := by decide +kernel
theorem dX0_pieceAt_14 : decode cX0_pieceAt 14 = .ok (.aload_n 0, 1) := by decide +kernel
theorem dX0_pieceAt_15 : decode cX0_pieceAt 15 = .ok (.getfield 9, 3) := by decide +kernel
theorem dX0_pieceAt_18 : decode cX0_pieceAt 18 = .ok (.iload 4, 2) := by decide +kernel
theorem dX0_pieceAt_20 : decode cX0_pieceAt 20 = .ok (.iaload, 1) := by decide +kernel
theorem dX0_pieceAt_21 : decode cX0_pieceAt 21 = .ok (.iload_n 2, 1) := by decide +kernel
theorem dX0_pieceAt_22 : decode cX0_pieceAt 22 = .ok (.imul, 1) := by decide +kernel
theorem dX0_pieceAt_23 : decode cX0_pieceAt 23 = .ok (.iload_n 1, 1) := by decide +kernel
theorem dX0_pieceAt_24 : decode cX0_pieceAt 24 = .ok (.if_icmp .gt 6, 3) := by decide +kernel
theorem dX0_pieceAt_27 : decode cX0_pieceAt 27 = .ok (.iload 4, 2) := by decide +kernel
theorem dX0_pieceAt_29 : decode cX0_pieceAt 29 = .ok (.istore_n 3, 1) := by decide +kernel
theorem dX0_pieceAt_30 : decode cX0_pieceAt 30 = .ok (.iinc 4 1, 3) := by decide +kernel
theorem dX0_pieceAt_33 : decode cX0_pieceAt 33 = .ok (.goto (-28), 3) := by decide +kernel
theorem dX0_pieceAt_36 : decode cX0_pieceAt 36 = .ok (.iload_n 3, 1) := by decide +kernel
theorem dX0_pieceAt_37 : decode cX0_pieceAt 37 = .ok (.ireturn, 1) := by decide +kernel
set_option maxRecDepth 20000 in
theorem ggX0_upperAt_X0_pieceAt : GoodIn wsX0_upperAt wsX0_pieceAt := goodIn_r _ [8, 9, 3, 10, 11, 12, 13, 14] (by decide +kernel) (by decide +kernel)
set_option maxRecDepth 20000 in
theorem gX0_upperAt_X0_pieceAt : GoodIn wsX0_upperAt (wsV RX0 32 RX0 yX0_pieceAt wsX0_pieceAt) := goodIn_app (goodIn_of _ (by decide +kernel)) ggX0_upperAt_X0_pieceAt
theorem dX0_upperAt_0 : decode cX0_upperAt 0 = .ok (.aload_n 0, 1) := by decide +kernel
theorem dX0_upperAt_1 : decode cX0_upperAt 1 = .ok (.iload_n 1, 1) := by decide +kernel
theorem dX0_upperAt_2 : decode cX0_upperAt 2 = .ok (.iload_n 2, 1) := by decide +kernel
theorem dX0_upperAt_3 : decode cX0_upperAt 3 = .ok (.invokevirtual 32, 3) := by decide +kernel
theorem dX0_upperAt_6 : decode cX0_upperAt 6 = .ok (.istore_n 3, 1) := by decide +kernel
theorem dX0_upperAt_7 : decode cX0_upperAt 7 = .ok (.aload_n 0, 1) := by decide +kernel
theorem dX0_upperAt_8 : decode cX0_upperAt 8 = .ok (.getfield 15, 3) := by decide +kernel
theorem dX0_upperAt_11 : decode cX0_upperAt 11 = .ok (.iload_n 3, 1) := by decide +kernel
theorem dX0_upperAt_12 : decode cX0_upperAt 12 = .ok (.iaload, 1) := by decide +kernel
theorem dX0_upperAt_13 : decode cX0_upperAt 13 = .ok (.iload_n 2, 1) := by decide +kernel
theorem dX0_upperAt_14 : decode cX0_upperAt 14 = .ok (.imul, 1) := by decide +kernel
theorem dX0_upperAt_15 : decode cX0_upperAt 15 = .ok (.aload_n 0, 1) := by decide +kernel
theorem dX0_upperAt_16 : decode cX0_upperAt 16 = .ok (.getfield 18, 3) := by decide +kernel
theorem dX0_upperAt_19 : decode cX0_upperAt 19 = .ok (.iload_n 3, 1) := by decide +kernel
theorem dX0_upperAt_20 : decode cX0_upperAt 20 = .ok (.iaload, 1) := by decide +kernel
theorem dX0_upperAt_21 : decode cX0_upperAt 21 = .ok (.iload_n 1, 1) := by decide +kernel
theorem dX0_upperAt_22 : decode cX0_upperAt 22 = .ok (.aload_n 0, 1) := by decide +kernel
theorem dX0_upperAt_23 : decode cX0_upperAt 23 = .ok (.getfield 9, 3) := by decide +kernel
theorem dX0_upperAt_26 : decode cX0_upperAt 26 = .ok (.iload_n 3, 1) := by decide +kernel
theorem dX0_upperAt_27 : decode cX0_upperAt 27 = .ok (.iaload, 1) := by decide +kernel
theorem dX0_upperAt_28 : decode cX0_upperAt 28 = .ok (.iload_n 2, 1) := by decide +kernel
theorem dX0_upperAt_29 : decode cX0_upperAt 29 = .ok (.imul, 1) := by decide +kernel
theorem dX0_upperAt_30 : decode cX0_upperAt 30 = .ok (.isub, 1) := by decide +kernel
theorem dX0_upperAt_31 : decode cX0_upperAt 31 = .ok (.imul, 1) := by decide +kernel
theorem dX0_upperAt_32 : decode cX0_upperAt 32 = .ok (.iadd, 1) := by decide +kernel
theorem dX0_upperAt_33 : decode cX0_upperAt 33 = .ok (.ireturn, 1) := by decide +kernel
set_option maxRecDepth 20000 in
theorem ggX0_placeAt_X0_upperAt : GoodIn wsX0_placeAt wsX0_upperAt := goodIn_r _ [5, 6, 7, 8, 9, 10, 11, 4, 12, 13, 14, 15, 16, 17, 18] (by decide +kernel) (by decide +kernel)
set_option maxRecDepth 20000 in
theorem gX0_placeAt_X0_upperAt : GoodIn wsX0_placeAt (wsV RX0 36 RX0 yX0_upperAt wsX0_upperAt) := goodIn_app (goodIn_of _ (by decide +kernel)) ggX0_placeAt_X0_upperAt
theorem dX0_placeAt_0 : decode cX0_placeAt 0 = .ok (.aload_n 0, 1) := by decide +kernel
theorem dX0_placeAt_1 : decode cX0_placeAt 1 = .ok (.iload_n 1, 1) := by decide +kernel
theorem dX0_placeAt_2 : decode cX0_placeAt 2 = .ok (.iconst 1, 1) := by decide +kernel
theorem dX0_placeAt_3 : decode cX0_placeAt 3 = .ok (.invokevirtual 36, 3) := by decide +kernel
theorem dX0_placeAt_6 : decode cX0_placeAt 6 = .ok (.ireturn, 1) := by decide +kernel
set_option maxRecDepth 20000 in
theorem ggX0_speedAt_X0_pieceAt : GoodIn wsX0_speedAt wsX0_pieceAt := goodIn_r _ [6, 7, 8, 9, 10, 11, 12, 13] (by decide +kernel) (by decide +kernel)
set_option maxRecDepth 20000 in
theorem gX0_speedAt_X0_pieceAt : GoodIn wsX0_speedAt (wsV RX0 32 RX0 yX0_pieceAt wsX0_pieceAt) := goodIn_app (goodIn_of _ (by decide +kernel)) ggX0_speedAt_X0_pieceAt
theorem dX0_speedAt_0 : decode cX0_speedAt 0 = .ok (.aload_n 0, 1) := by decide +kernel
theorem dX0_speedAt_1 : decode cX0_speedAt 1 = .ok (.getfield 18, 3) := by decide +kernel
theorem dX0_speedAt_4 : decode cX0_speedAt 4 = .ok (.aload_n 0, 1) := by decide +kernel
theorem dX0_speedAt_5 : decode cX0_speedAt 5 = .ok (.iload_n 1, 1) := by decide +kernel
theorem dX0_speedAt_6 : decode cX0_speedAt 6 = .ok (.iconst 1, 1) := by decide +kernel
theorem dX0_speedAt_7 : decode cX0_speedAt 7 = .ok (.invokevirtual 32, 3) := by decide +kernel
theorem dX0_speedAt_10 : decode cX0_speedAt 10 = .ok (.iaload, 1) := by decide +kernel
theorem dX0_speedAt_11 : decode cX0_speedAt 11 = .ok (.ireturn, 1) := by decide +kernel
theorem dX0_nextBend_0 : decode cX0_nextBend 0 = .ok (.iload_n 2, 1) := by decide +kernel
theorem dX0_nextBend_1 : decode cX0_nextBend 1 = .ok (.istore_n 3, 1) := by decide +kernel
theorem dX0_nextBend_2 : decode cX0_nextBend 2 = .ok (.iconst 0, 1) := by decide +kernel
theorem dX0_nextBend_3 : decode cX0_nextBend 3 = .ok (.istore 4, 2) := by decide +kernel
theorem dX0_nextBend_5 : decode cX0_nextBend 5 = .ok (.iload 4, 2) := by decide +kernel
theorem dX0_nextBend_7 : decode cX0_nextBend 7 = .ok (.aload_n 0, 1) := by decide +kernel
theorem dX0_nextBend_8 : decode cX0_nextBend 8 = .ok (.getfield 21, 3) := by decide +kernel
theorem dX0_nextBend_11 : decode cX0_nextBend 11 = .ok (.if_icmp .ge 32, 3) := by decide +kernel
theorem dX0_nextBend_14 : decode cX0_nextBend 14 = .ok (.aload_n 0, 1) := by decide +kernel
theorem dX0_nextBend_15 : decode cX0_nextBend 15 = .ok (.getfield 9, 3) := by decide +kernel
theorem dX0_nextBend_18 : decode cX0_nextBend 18 = .ok (.iload 4, 2) := by decide +kernel
theorem dX0_nextBend_20 : decode cX0_nextBend 20 = .ok (.iaload, 1) := by decide +kernel
theorem dX0_nextBend_21 : decode cX0_nextBend 21 = .ok (.iload_n 1, 1) := by decide +kernel
theorem dX0_nextBend_22 : decode cX0_nextBend 22 = .ok (.if_icmp .le 15, 3) := by decide +kernel
theorem dX0_nextBend_25 : decode cX0_nextBend 25 = .ok (.iload_n 3, 1) := by decide +kernel
theorem dX0_nextBend_26 : decode cX0_nextBend 26 = .ok (.aload_n 0, 1) := by decide +kernel
theorem dX0_nextBend_27 : decode cX0_nextBend 27 = .ok (.getfield 9, 3) := by decide +kernel
theorem dX0_nextBend_30 : decode cX0_nextBend 30 = .ok (.iload 4, 2) := by decide +kernel
theorem dX0_nextBend_32 : decode cX0_nextBend 32 = .ok (.iaload, 1) := by decide +kernel
theorem dX0_nextBend_33 : decode cX0_nextBend 33 = .ok (.invokestatic 39, 3) := by decide +kernel
theorem dX0_nextBend_36 : decode cX0_nextBend 36 = .ok (.istore_n 3, 1) := by decide +kernel
theorem dX0_nextBend_37 : decode cX0_nextBend 37 = .ok (.iinc 4 1, 3) := by decide +kernel
theorem dX0_nextBend_40 : decode cX0_nextBend 40 = .ok (.goto (-35), 3) := by decide +kernel
theorem dX0_nextBend_43 : decode cX0_nextBend 43 = .ok (.aload_n 0, 1) := by decide +kernel
theorem dX0_nextBend_44 : decode cX0_nextBend 44 = .ok (.getfield 25, 3) := by decide +kernel
theorem dX0_nextBend_47 : decode cX0_nextBend 47 = .ok (.iload_n 1, 1) := by decide +kernel
theorem dX0_nextBend_48 : decode cX0_nextBend 48 = .ok (.if_icmp .le 12, 3) := by decide +kernel
theorem dX0_nextBend_51 : decode cX0_nextBend 51 = .ok (.iload_n 3, 1) := by decide +kernel
theorem dX0_nextBend_52 : decode cX0_nextBend 52 = .ok (.aload_n 0, 1) := by decide +kernel
theorem dX0_nextBend_53 : decode cX0_nextBend 53 = .ok (.getfield 25, 3) := by decide +kernel
theorem dX0_nextBend_56 : decode cX0_nextBend 56 = .ok (.invokestatic 39, 3) := by decide +kernel
theorem dX0_nextBend_59 : decode cX0_nextBend 59 = .ok (.istore_n 3, 1) := by decide +kernel
theorem dX0_nextBend_60 : decode cX0_nextBend 60 = .ok (.iload_n 3, 1) := by decide +kernel
theorem dX0_nextBend_61 : decode cX0_nextBend 61 = .ok (.ireturn, 1) := by decide +kernel
theorem dX1_init_0 : decode cX1_init 0 = .ok (.aload_n 0, 1) := by decide +kernel
theorem dX1_init_1 : decode cX1_init 1 = .ok (.invokespecial 3, 3) := by decide +kernel
theorem dX1_init_4 : decode cX1_init 4 = .ok (.aload_n 0, 1) := by decide +kernel
theorem dX1_init_5 : decode cX1_init 5 = .ok (.bipush 10, 2) := by decide +kernel
theorem dX1_init_7 : decode cX1_init 7 = .ok (.newarray .long, 2) := by decide +kernel
theorem dX1_init_9 : decode cX1_init 9 = .ok (.putfield 9, 3) := by decide +kernel
theorem dX1_init_12 : decode cX1_init 12 = .ok (.aload_n 0, 1) := by decide +kernel
theorem dX1_init_13 : decode cX1_init 13 = .ok (.bipush 10, 2) := by decide +kernel
theorem dX1_init_15 : decode cX1_init 15 = .ok (.newarray .long, 2) := by decide +kernel
theorem dX1_init_17 : decode cX1_init 17 = .ok (.putfield 15, 3) := by decide +kernel
theorem dX1_init_20 : decode cX1_init 20 = .ok (.return_, 1) := by decide +kernel
theorem dX1_clear_0 : decode cX1_clear 0 = .ok (.aload_n 0, 1) := by decide +kernel
theorem dX1_clear_1 : decode cX1_clear 1 = .ok (.iconst 0, 1) := by decide +kernel
theorem dX1_clear_2 : decode cX1_clear 2 = .ok (.putfield 18, 3) := by decide +kernel
theorem dX1_clear_5 : decode cX1_clear 5 = .ok (.return_, 1) := by decide +kernel
set_option maxRecDepth 20000 in
theorem ggX1_addIfSo_X7_isSo : GoodIn wsX1_addIfSo wsX7_isSo := goodIn_r _ [7, 8, 9, 10, 11, 12, 13, 14, 15, 16, 17, 18, 19, 20, 21, 22, 23, 24, 25, 26, 35, 36, 37, 38, 39] (by decide +kernel) (by decide +kernel)
set_option maxRecDepth 20000 in
theorem gX1_addIfSo_X7_isSo_n22 : GoodIn wsX1_addIfSo (wsX7_isSo) := ggX1_addIfSo_X7_isSo
set_option maxRecDepth 20000 in
theorem ggX1_addIfSo_X1_insert : GoodIn wsX1_addIfSo wsX1_insert := goodIn_r _ [31, 1, 16, 14, 17, 18, 13, 15, 19, 20, 21, 22, 23, 24, 25, 26, 32, 33, 34] (by decide +kernel) (by decide +kernel)
set_option maxRecDepth 20000 in
theorem gX1_addIfSo_X1_insert : GoodIn wsX1_addIfSo (wsV RX1 32 RX1 yX1_insert wsX1_insert) := goodIn_app (goodIn_of _ (by decide +kernel)) ggX1_addIfSo_X1_insert
theorem dX1_addIfSo_0 : decode cX1_addIfSo 0 = .ok (.aload_n 0, 1) := by decide +kernel
theorem dX1_addIfSo_1 : decode cX1_addIfSo 1 = .ok (.getfield 18, 3) := by decide +kernel
theorem dX1_addIfSo_4 : decode cX1_addIfSo 4 = .ok (.bipush 10, 2) := by decide +kernel
theorem dX1_addIfSo_6 : decode cX1_addIfSo 6 = .ok (.if_icmp .ge 44, 3) := by decide +kernel
theorem dX1_addIfSo_9 : decode cX1_addIfSo 9 = .ok (.aload_n 1, 1) := by decide +kernel
theorem dX1_addIfSo_10 : decode cX1_addIfSo 10 = .ok (.invokevirtual 22, 3) := by decide +kernel
theorem dX1_addIfSo_13 : decode cX1_addIfSo 13 = .ok (.ifCond .eq 37, 3) := by decide +kernel
theorem dX1_addIfSo_16 : decode cX1_addIfSo 16 = .ok (.aload_n 0, 1) := by decide +kernel
theorem dX1_addIfSo_17 : decode cX1_addIfSo 17 = .ok (.aload_n 0, 1) := by decide +kernel
theorem dX1_addIfSo_18 : decode cX1_addIfSo 18 = .ok (.getfield 9, 3) := by decide +kernel
theorem dX1_addIfSo_21 : decode cX1_addIfSo 21 = .ok (.aload_n 1, 1) := by decide +kernel
theorem dX1_addIfSo_22 : decode cX1_addIfSo 22 = .ok (.getfield 28, 3) := by decide +kernel
theorem dX1_addIfSo_25 : decode cX1_addIfSo 25 = .ok (.invokevirtual 32, 3) := by decide +kernel
theorem dX1_addIfSo_28 : decode cX1_addIfSo 28 = .ok (.aload_n 0, 1) := by decide +kernel
theorem dX1_addIfSo_29 : decode cX1_addIfSo 29 = .ok (.aload_n 0, 1) := by decide +kernel
theorem dX1_addIfSo_30 : decode cX1_addIfSo 30 = .ok (.getfield 15, 3) := by decide +kernel
theorem dX1_addIfSo_33 : decode cX1_addIfSo 33 = .ok (.aload_n 1, 1) := by decide +kernel
theorem dX1_addIfSo_34 : decode cX1_addIfSo 34 = .ok (.getfield 36, 3) := by decide +kernel
theorem dX1_addIfSo_37 : decode cX1_addIfSo 37 = .ok (.invokevirtual 32, 3) := by decide +kernel
theorem dX1_addIfSo_40 : decode cX1_addIfSo 40 = .ok (.aload_n 0, 1) := by decide +kernel
theorem dX1_addIfSo_41 : decode cX1_addIfSo 41 = .ok (.dup, 1) := by decide +kernel
theorem dX1_addIfSo_42 : decode cX1_addIfSo 42 = .ok (.getfield 18, 3) := by decide +kernel
theorem dX1_addIfSo_45 : decode cX1_addIfSo 45 = .ok (.iconst 1, 1) := by decide +kernel
theorem dX1_addIfSo_46 : decode cX1_addIfSo 46 = .ok (.iadd, 1) := by decide +kernel
theorem dX1_addIfSo_47 : decode cX1_addIfSo 47 = .ok (.putfield 18, 3) := by decide +kernel
theorem dX1_addIfSo_50 : decode cX1_addIfSo 50 = .ok (.return_, 1) := by decide +kernel
set_option maxRecDepth 20000 in
theorem ggX1_insert_X2_compare : GoodIn wsX1_insert wsX2_compare := goodIn_r _ [4, 5, 6, 3, 7, 8, 9, 10, 11, 12, 13, 14, 15] (by decide +kernel) (by decide +kernel)
set_option maxRecDepth 20000 in
theorem gX1_insert_X2_compare_n39 : GoodIn wsX1_insert (wsX2_compare) := ggX1_insert_X2_compare
theorem dX1_insert_0 : decode cX1_insert 0 = .ok (.aload_n 0, 1) := by decide +kernel
theorem dX1_insert_1 : decode cX1_insert 1 = .ok (.getfield 18, 3) := by decide +kernel
theorem dX1_insert_4 : decode cX1_insert 4 = .ok (.istore 4, 2) := by decide +kernel
theorem dX1_insert_6 : decode cX1_insert 6 = .ok (.iload 4, 2) := by decide +kernel
theorem dX1_insert_8 : decode cX1_insert 8 = .ok (.ifCond .le 32, 3) := by decide +kernel
theorem dX1_insert_11 : decode cX1_insert 11 = .ok (.aload_n 1, 1) := by decide +kernel
theorem dX1_insert_12 : decode cX1_insert 12 = .ok (.iload 4, 2) := by decide +kernel
theorem dX1_insert_14 : decode cX1_insert 14 = .ok (.iconst 1, 1) := by decide +kernel
theorem dX1_insert_15 : decode cX1_insert 15 = .ok (.isub, 1) := by decide +kernel
theorem dX1_insert_16 : decode cX1_insert 16 = .ok (.laload, 1) := by decide +kernel
theorem dX1_insert_17 : decode cX1_insert 17 = .ok (.lload_n 2, 1) := by decide +kernel
theorem dX1_insert_18 : decode cX1_insert 18 = .ok (.invokestatic 39, 3) := by decide +kernel
theorem dX1_insert_21 : decode cX1_insert 21 = .ok (.ifCond .le 19, 3) := by decide +kernel
theorem dX1_insert_24 : decode cX1_insert 24 = .ok (.aload_n 1, 1) := by decide +kernel
theorem dX1_insert_25 : decode cX1_insert 25 = .ok (.iload 4, 2) := by decide +kernel
theorem dX1_insert_27 : decode cX1_insert 27 = .ok (.aload_n 1, 1) := by decide +kernel
theorem dX1_insert_28 : decode cX1_insert 28 = .ok (.iload 4, 2) := by decide +kernel
theorem dX1_insert_30 : decode cX1_insert 30 = .ok (.iconst 1, 1) := by decide +kernel
theorem dX1_insert_31 : decode cX1_insert 31 = .ok (.isub, 1) := by decide +kernel
theorem dX1_insert_32 : decode cX1_insert 32 = .ok (.laload, 1) := by decide +kernel
theorem dX1_insert_33 : decode cX1_insert 33 = .ok (.lastore, 1) := by decide +kernel
theorem dX1_insert_34 : decode cX1_insert 34 = .ok (.iinc 4 (-1), 3) := by decide +kernel
theorem dX1_insert_37 : decode cX1_insert 37 = .ok (.goto (-31), 3) := by decide +kernel
theorem dX1_insert_40 : decode cX1_insert 40 = .ok (.aload_n 1, 1) := by decide +kernel
theorem dX1_insert_41 : decode cX1_insert 41 = .ok (.iload 4, 2) := by decide +kernel
theorem dX1_insert_43 : decode cX1_insert 43 = .ok (.lload_n 2, 1) := by decide +kernel
theorem dX1_insert_44 : decode cX1_insert 44 = .ok (.lastore, 1) := by decide +kernel
theorem dX1_insert_45 : decode cX1_insert 45 = .ok (.return_, 1) := by decide +kernel
set_option maxRecDepth 20000 in
theorem ggX2_of_X2_commonDivisor : GoodIn wsX2_of wsX2_commonDivisor := goodIn_r _ [8] (by decide +kernel) (by decide +kernel)
set_option maxRecDepth 20000 in
theorem gX2_of_X2_commonDivisor : GoodIn wsX2_of (va_wsS RX2 13 yX2_commonDivisor wsX2_commonDivisor) := goodIn_app (goodIn_of _ (by decide +kernel)) ggX2_of_X2_commonDivisor
set_option maxRecDepth 20000 in
theorem ggX2_of_X2_whole : GoodIn wsX2_of wsX2_whole := goodIn_r _ [11] (by decide +kernel) (by decide +kernel)
set_option maxRecDepth 20000 in
theorem gX2_of_X2_whole : GoodIn wsX2_of (va_wsS RX2 19 yX2_whole wsX2_whole) := goodIn_app (goodIn_of _ (by decide +kernel)) ggX2_of_X2_whole
theorem dX2_of_0 : decode cX2_of 0 = .ok (.iload_n 0, 1) := by decide +kernel
theorem dX2_of_1 : decode cX2_of 1 = .ok (.invokestatic 7, 3) := by decide +kernel
theorem dX2_of_4 : decode cX2_of 4 = .ok (.iload_n 1, 1) := by decide +kernel
theorem dX2_of_5 : decode cX2_of 5 = .ok (.invokestatic 13, 3) := by decide +kernel
theorem dX2_of_8 : decode cX2_of 8 = .ok (.istore_n 2, 1) := by decide +kernel
theorem dX2_of_9 : decode cX2_of 9 = .ok (.iload_n 2, 1) := by decide +kernel
theorem dX2_of_10 : decode cX2_of 10 = .ok (.iconst 1, 1) := by decide +kernel
theorem dX2_of_11 : decode cX2_of 11 = .ok (.if_icmp .ge 8, 3) := by decide +kernel
theorem dX2_of_14 : decode cX2_of 14 = .ok (.iconst 0, 1) := by decide +kernel
theorem dX2_of_15 : decode cX2_of 15 = .ok (.invokestatic 19, 3) := by decide +kernel
theorem dX2_of_18 : decode cX2_of 18 = .ok (.lreturn, 1) := by decide +kernel
theorem dX2_of_19 : decode cX2_of 19 = .ok (.iload_n 0, 1) := by decide +kernel
theorem dX2_of_20 : decode cX2_of 20 = .ok (.iload_n 2, 1) := by decide +kernel
theorem dX2_of_21 : decode cX2_of 21 = .ok (.idiv, 1) := by decide +kernel
theorem dX2_of_22 : decode cX2_of 22 = .ok (.i2l, 1) := by decide +kernel
theorem dX2_of_23 : decode cX2_of 23 = .ok (.bipush 8, 2) := by decide +kernel
theorem dX2_of_25 : decode cX2_of 25 = .ok (.lshl, 1) := by decide +kernel
theorem dX2_of_26 : decode cX2_of 26 = .ok (.iload_n 1, 1) := by decide +kernel
theorem dX2_of_27 : decode cX2_of 27 = .ok (.iload_n 2, 1) := by decide +kernel
theorem dX2_of_28 : decode cX2_of 28 = .ok (.idiv, 1) := by decide +kernel
theorem dX2_of_29 : decode cX2_of 29 = .ok (.i2l, 1) := by decide +kernel
theorem dX2_of_30 : decode cX2_of 30 = .ok (.lor, 1) := by decide +kernel
theorem dX2_of_31 : decode cX2_of 31 = .ok (.lreturn, 1) := by decide +kernel
theorem dX2_whole_0 : decode cX2_whole 0 = .ok (.iload_n 0, 1) := by decide +kernel
theorem dX2_whole_1 : decode cX2_whole 1 = .ok (.i2l, 1) := by decide +kernel
theorem dX2_whole_2 : decode cX2_whole 2 = .ok (.bipush 8, 2) := by decide +kernel
theorem dX2_whole_4 : decode cX2_whole 4 = .ok (.lshl, 1) := by decide +kernel
theorem dX2_whole_5 : decode cX2_whole 5 = .ok (.lconst 1, 1) := by decide +kernel
theorem dX2_whole_6 : decode cX2_whole 6 = .ok (.lor, 1) := by decide +kernel
theorem dX2_whole_7 : decode cX2_whole 7 = .ok (.lreturn, 1) := by decide +kernel
set_option maxRecDepth 20000 in
theorem ggX2_past_X2_of : GoodIn wsX2_past wsX2_of := goodIn_r _ [4, 5, 6, 7, 8, 9, 10, 3, 11, 12, 13, 14] (by decide +kernel) (by decide +kernel)
set_option maxRecDepth 20000 in
theorem gX2_past_X2_of : GoodIn wsX2_past (va_wsS RX2 23 yX2_of wsX2_of) := goodIn_app (goodIn_of _ (by decide +kernel)) ggX2_past_X2_of
theorem dX2_past_0 : decode cX2_past 0 = .ok (.iload_n 0, 1) := by decide +kernel
theorem dX2_past_1 : decode cX2_past 1 = .ok (.iload_n 2, 1) := by decide +kernel
theorem dX2_past_2 : decode cX2_past 2 = .ok (.imul, 1) := by decide +kernel
theorem dX2_past_3 : decode cX2_past 3 = .ok (.iload_n 1, 1) := by decide +kernel
theorem dX2_past_4 : decode cX2_past 4 = .ok (.iadd, 1) := by decide +kernel
theorem dX2_past_5 : decode cX2_past 5 = .ok (.iload_n 2, 1) := by decide +kernel
theorem dX2_past_6 : decode cX2_past 6 = .ok (.invokestatic 23, 3) := by decide +kernel
theorem dX2_past_9 : decode cX2_past 9 = .ok (.lreturn, 1) := by decide +kernel
theorem dX2_upper_0 : decode cX2_upper 0 = .ok (.lload_n 0, 1) := by decide +kernel
theorem dX2_upper_1 : decode cX2_upper 1 = .ok (.bipush 8, 2) := by decide +kernel
theorem dX2_upper_3 : decode cX2_upper 3 = .ok (.lshr, 1) := by decide +kernel
theorem dX2_upper_4 : decode cX2_upper 4 = .ok (.l2i, 1) := by decide +kernel
theorem dX2_upper_5 : decode cX2_upper 5 = .ok (.ireturn, 1) := by decide +kernel
theorem dX2_lower_0 : decode cX2_lower 0 = .ok (.lload_n 0, 1) := by decide +kernel
theorem dX2_lower_1 : decode cX2_lower 1 = .ok (.ldc2_w 27, 3) := by decide +kernel
theorem dX2_lower_4 : decode cX2_lower 4 = .ok (.land, 1) := by decide +kernel
theorem dX2_lower_5 : decode cX2_lower 5 = .ok (.l2i, 1) := by decide +kernel
theorem dX2_lower_6 : decode cX2_lower 6 = .ok (.ireturn, 1) := by decide +kernel
set_option maxRecDepth 20000 in
theorem ggX2_compare_X2_upper : GoodIn wsX2_compare wsX2_upper := goodIn_r _ [4] (by decide +kernel) (by decide +kernel)
set_option maxRecDepth 20000 in
theorem gX2_compare_X2_upper : GoodIn wsX2_compare (va_wsS RX2 29 yX2_upper wsX2_upper) := goodIn_app (goodIn_of _ (by decide +kernel)) ggX2_compare_X2_upper
set_option maxRecDepth 20000 in
theorem ggX2_compare_X2_lower : GoodIn wsX2_compare wsX2_lower := goodIn_r _ [7, 8] (by decide +kernel) (by decide +kernel)
set_option maxRecDepth 20000 in
theorem gX2_compare_X2_lower : GoodIn wsX2_compare (va_wsS RX2 33 yX2_lower wsX2_lower) := goodIn_app (goodIn_of _ (by decide +kernel)) ggX2_compare_X2_lower
set_option maxRecDepth 20000 in
theorem ggX2_compare_J13_compare_74951 : GoodIn wsX2_compare wsJ13_compare_74951 := goodIn_r _ [12] (by decide +kernel) (by decide +kernel)
set_option maxRecDepth 20000 in
theorem gX2_compare_J13_compare_74951 : GoodIn wsX2_compare (va_wsS RX2 36 yJ13_compare_74951 wsJ13_compare_74951) := goodIn_app (goodIn_of _ (by decide +kernel)) ggX2_compare_J13_compare_74951
theorem dX2_compare_0 : decode cX2_compare 0 = .ok (.lload_n 0, 1) := by decide +kernel
theorem dX2_compare_1 : decode cX2_compare 1 = .ok (.invokestatic 29, 3) := by decide +kernel
theorem dX2_compare_4 : decode cX2_compare 4 = .ok (.i2l, 1) := by decide +kernel
theorem dX2_compare_5 : decode cX2_compare 5 = .ok (.lload_n 2, 1) := by decide +kernel
theorem dX2_compare_6 : decode cX2_compare 6 = .ok (.invokestatic 33, 3) := by decide +kernel
theorem dX2_compare_9 : decode cX2_compare 9 = .ok (.i2l, 1) := by decide +kernel
theorem dX2_compare_10 : decode cX2_compare 10 = .ok (.lmul, 1) := by decide +kernel
theorem dX2_compare_11 : decode cX2_compare 11 = .ok (.lload_n 2, 1) := by decide +kernel
theorem dX2_compare_12 : decode cX2_compare 12 = .ok (.invokestatic 29, 3) := by decide +kernel
theorem dX2_compare_15 : decode cX2_compare 15 = .ok (.i2l, 1) := by decide +kernel
theorem dX2_compare_16 : decode cX2_compare 16 = .ok (.lload_n 0, 1) := by decide +kernel
theorem dX2_compare_17 : decode cX2_compare 17 = .ok (.invokestatic 33, 3) := by decide +kernel
theorem dX2_compare_20 : decode cX2_compare 20 = .ok (.i2l, 1) := by decide +kernel
theorem dX2_compare_21 : decode cX2_compare 21 = .ok (.lmul, 1) := by decide +kernel
theorem dX2_compare_22 : decode cX2_compare 22 = .ok (.invokestatic 36, 3) := by decide +kernel
theorem dX2_compare_25 : decode cX2_compare 25 = .ok (.ireturn, 1) := by decide +kernel
theorem dX2_commonDivisor_0 : decode cX2_commonDivisor 0 = .ok (.iload_n 0, 1) := by decide +kernel
theorem dX2_commonDivisor_1 : decode cX2_commonDivisor 1 = .ok (.istore_n 2, 1) := by decide +kernel
theorem dX2_commonDivisor_2 : decode cX2_commonDivisor 2 = .ok (.iload_n 1, 1) := by decide +kernel
theorem dX2_commonDivisor_3 : decode cX2_commonDivisor 3 = .ok (.istore_n 3, 1) := by decide +kernel
theorem dX2_commonDivisor_4 : decode cX2_commonDivisor 4 = .ok (.iconst 0, 1) := by decide +kernel
theorem dX2_commonDivisor_5 : decode cX2_commonDivisor 5 = .ok (.istore 4, 2) := by decide +kernel
theorem dX2_commonDivisor_7 : decode cX2_commonDivisor 7 = .ok (.iload 4, 2) := by decide +kernel
theorem dX2_commonDivisor_9 : decode cX2_commonDivisor 9 = .ok (.bipush 64, 2) := by decide +kernel
theorem dX2_commonDivisor_11 : decode cX2_commonDivisor 11 = .ok (.if_icmp .ge 23, 3) := by decide +kernel
theorem dX2_commonDivisor_14 : decode cX2_commonDivisor 14 = .ok (.iload_n 3, 1) := by decide +kernel
theorem dX2_commonDivisor_15 : decode cX2_commonDivisor 15 = .ok (.ifCond .le 19, 3) := by decide +kernel
theorem dX2_commonDivisor_18 : decode cX2_commonDivisor 18 = .ok (.iload_n 2, 1) := by decide +kernel
theorem dX2_commonDivisor_19 : decode cX2_commonDivisor 19 = .ok (.iload_n 3, 1) := by decide +kernel
theorem dX2_commonDivisor_20 : decode cX2_commonDivisor 20 = .ok (.irem, 1) := by decide +kernel
theorem dX2_commonDivisor_21 : decode cX2_commonDivisor 21 = .ok (.istore 5, 2) := by decide +kernel
theorem dX2_commonDivisor_23 : decode cX2_commonDivisor 23 = .ok (.iload_n 3, 1) := by decide +kernel
theorem dX2_commonDivisor_24 : decode cX2_commonDivisor 24 = .ok (.istore_n 2, 1) := by decide +kernel
theorem dX2_commonDivisor_25 : decode cX2_commonDivisor 25 = .ok (.iload 5, 2) := by decide +kernel
theorem dX2_commonDivisor_27 : decode cX2_commonDivisor 27 = .ok (.istore_n 3, 1) := by decide +kernel
theorem dX2_commonDivisor_28 : decode cX2_commonDivisor 28 = .ok (.iinc 4 1, 3) := by decide +kernel
theorem dX2_commonDivisor_31 : decode cX2_commonDivisor 31 = .ok (.goto (-24), 3) := by decide +kernel
theorem dX2_commonDivisor_34 : decode cX2_commonDivisor 34 = .ok (.iload_n 2, 1) := by decide +kernel
theorem dX2_commonDivisor_35 : decode cX2_commonDivisor 35 = .ok (.ireturn, 1) := by decide +kernel
theorem dX3_init_0 : decode cX3_init 0 = .ok (.aload_n 0, 1) := by decide +kernel
theorem dX3_init_1 : decode cX3_init 1 = .ok (.invokespecial 3, 3) := by decide +kernel
theorem dX3_init_4 : decode cX3_init 4 = .ok (.aload_n 0, 1) := by decide +kernel
theorem dX3_init_5 : decode cX3_init 5 = .ok (.bipush 10, 2) := by decide +kernel
theorem dX3_init_7 : decode cX3_init 7 = .ok (.newarray .int, 2) := by decide +kernel
theorem dX3_init_9 : decode cX3_init 9 = .ok (.putfield 9, 3) := by decide +kernel
theorem dX3_init_12 : decode cX3_init 12 = .ok (.aload_n 0, 1) := by decide +kernel
theorem dX3_init_13 : decode cX3_init 13 = .ok (.bipush 10, 2) := by decide +kernel
theorem dX3_init_15 : decode cX3_init 15 = .ok (.newarray .int, 2) := by decide +kernel
theorem dX3_init_17 : decode cX3_init 17 = .ok (.putfield 15, 3) := by decide +kernel
theorem dX3_init_20 : decode cX3_init 20 = .ok (.return_, 1) := by decide +kernel
theorem dX3_clear_0 : decode cX3_clear 0 = .ok (.aload_n 0, 1) := by decide +kernel
theorem dX3_clear_1 : decode cX3_clear 1 = .ok (.iconst 0, 1) := by decide +kernel
theorem dX3_clear_2 : decode cX3_clear 2 = .ok (.putfield 18, 3) := by decide +kernel
theorem dX3_clear_5 : decode cX3_clear 5 = .ok (.return_, 1) := by decide +kernel
theorem dX3_insert_0 : decode cX3_insert 0 = .ok (.aload_n 0, 1) := by decide +kernel
theorem dX3_insert_1 : decode cX3_insert 1 = .ok (.getfield 18, 3) := by decide +kernel
theorem dX3_insert_4 : decode cX3_insert 4 = .ok (.bipush 10, 2) := by decide +kernel
theorem dX3_insert_6 : decode cX3_insert 6 = .ok (.if_icmp .lt 4, 3) := by decide +kernel
theorem dX3_insert_9 : decode cX3_insert 9 = .ok (.return_, 1) := by decide +kernel
theorem dX3_insert_10 : decode cX3_insert 10 = .ok (.aload_n 0, 1) := by decide +kernel
theorem dX3_insert_11 : decode cX3_insert 11 = .ok (.getfield 18, 3) := by decide +kernel
theorem dX3_insert_14 : decode cX3_insert 14 = .ok (.istore_n 3, 1) := by decide +kernel
theorem dX3_insert_15 : decode cX3_insert 15 = .ok (.iload_n 3, 1) := by decide +kernel
theorem dX3_insert_16 : decode cX3_insert 16 = .ok (.ifCond .le 49, 3) := by decide +kernel
theorem dX3_insert_19 : decode cX3_insert 19 = .ok (.aload_n 0, 1) := by decide +kernel
theorem dX3_insert_20 : decode cX3_insert 20 = .ok (.getfield 15, 3) := by decide +kernel
theorem dX3_insert_23 : decode cX3_insert 23 = .ok (.iload_n 3, 1) := by decide +kernel
theorem dX3_insert_24 : decode cX3_insert 24 = .ok (.iconst 1, 1) := by decide +kernel
theorem dX3_insert_25 : decode cX3_insert 25 = .ok (.isub, 1) := by decide +kernel
theorem dX3_insert_26 : decode cX3_insert 26 = .ok (.iaload, 1) := by decide +kernel
theorem dX3_insert_27 : decode cX3_insert 27 = .ok (.iload_n 2, 1) := by decide +kernel
theorem dX3_insert_28 : decode cX3_insert 28 = .ok (.if_icmp .le 37, 3) := by decide +kernel
theorem dX3_insert_31 : decode cX3_insert 31 = .ok (.aload_n 0, 1) := by decide +kernel
theorem dX3_insert_32 : decode cX3_insert 32 = .ok (.getfield 9, 3) := by decide +kernel
theorem dX3_insert_35 : decode cX3_insert 35 = .ok (.iload_n 3, 1) := by decide +kernel
theorem dX3_insert_36 : decode cX3_insert 36 = .ok (.aload_n 0, 1) := by decide +kernel
theorem dX3_insert_37 : decode cX3_insert 37 = .ok (.getfield 9, 3) := by decide +kernel
theorem dX3_insert_40 : decode cX3_insert 40 = .ok (.iload_n 3, 1) := by decide +kernel
theorem dX3_insert_41 : decode cX3_insert 41 = .ok (.iconst 1, 1) := by decide +kernel
theorem dX3_insert_42 : decode cX3_insert 42 = .ok (.isub, 1) := by decide +kernel
theorem dX3_insert_43 : decode cX3_insert 43 = .ok (.iaload, 1) := by decide +kernel
theorem dX3_insert_44 : decode cX3_insert 44 = .ok (.iastore, 1) := by decide +kernel
theorem dX3_insert_45 : decode cX3_insert 45 = .ok (.aload_n 0, 1) := by decide +kernel
theorem dX3_insert_46 : decode cX3_insert 46 = .ok (.getfield 15, 3) := by decide +kernel
theorem dX3_insert_49 : decode cX3_insert 49 = .ok (.iload_n 3, 1) := by decide +kernel
theorem dX3_insert_50 : decode cX3_insert 50 = .ok (.aload_n 0, 1) := by decide +kernel
theorem dX3_insert_51 : decode cX3_insert 51 = .ok (.getfield 15, 3) := by decide +kernel
theorem dX3_insert_54 : decode cX3_insert 54 = .ok (.iload_n 3, 1) := by decide +kernel
theorem dX3_insert_55 : decode cX3_insert 55 = .ok (.iconst 1, 1) := by decide +kernel
theorem dX3_insert_56 : decode cX3_insert 56 = .ok (.isub, 1) := by decide +kernel
theorem dX3_insert_57 : decode cX3_insert 57 = .ok (.iaload, 1) := by decide +kernel
theorem dX3_insert_58 : decode cX3_insert 58 = .ok (.iastore, 1) := by decide +kernel
theorem dX3_insert_59 : decode cX3_insert 59 = .ok (.iinc 3 (-1), 3) := by decide +kernel
theorem dX3_insert_62 : decode cX3_insert 62 = .ok (.goto (-47), 3) := by decide +kernel
theorem dX3_insert_65 : decode cX3_insert 65 = .ok (.aload_n 0, 1) := by decide +kernel
theorem dX3_insert_66 : decode cX3_insert 66 = .ok (.getfield 9, 3) := by decide +kernel
theorem dX3_insert_69 : decode cX3_insert 69 = .ok (.iload_n 3, 1) := by decide +kernel
theorem dX3_insert_70 : decode cX3_insert 70 = .ok (.iload_n 1, 1) := by decide +kernel
theorem dX3_insert_71 : decode cX3_insert 71 = .ok (.iastore, 1) := by decide +kernel
theorem dX3_insert_72 : decode cX3_insert 72 = .ok (.aload_n 0, 1) := by decide +kernel
theorem dX3_insert_73 : decode cX3_insert 73 = .ok (.getfield 15, 3) := by decide +kernel
theorem dX3_insert_76 : decode cX3_insert 76 = .ok (.iload_n 3, 1) := by decide +kernel
theorem dX3_insert_77 : decode cX3_insert 77 = .ok (.iload_n 2, 1) := by decide +kernel
theorem dX3_insert_78 : decode cX3_insert 78 = .ok (.iastore, 1) := by decide +kernel
theorem dX3_insert_79 : decode cX3_insert 79 = .ok (.aload_n 0, 1) := by decide +kernel
theorem dX3_insert_80 : decode cX3_insert 80 = .ok (.dup, 1) := by decide +kernel
theorem dX3_insert_81 : decode cX3_insert 81 = .ok (.getfield 18, 3) := by decide +kernel
theorem dX3_insert_84 : decode cX3_insert 84 = .ok (.iconst 1, 1) := by decide +kernel
theorem dX3_insert_85 : decode cX3_insert 85 = .ok (.iadd, 1) := by decide +kernel
theorem dX3_insert_86 : decode cX3_insert 86 = .ok (.putfield 18, 3) := by decide +kernel
theorem dX3_insert_89 : decode cX3_insert 89 = .ok (.return_, 1) := by decide +kernel
theorem dX3_tell_0 : decode cX3_tell 0 = .ok (.iload_n 1, 1) := by decide +kernel
theorem dX3_tell_1 : decode cX3_tell 1 = .ok (.ifCond .lt 20, 3) := by decide +kernel
theorem dX3_tell_4 : decode cX3_tell 4 = .ok (.iload_n 1, 1) := by decide +kernel
theorem dX3_tell_5 : decode cX3_tell 5 = .ok (.aload_n 0, 1) := by decide +kernel
theorem dX3_tell_6 : decode cX3_tell 6 = .ok (.getfield 18, 3) := by decide +kernel
theorem dX3_tell_9 : decode cX3_tell 9 = .ok (.if_icmp .ge 12, 3) := by decide +kernel
theorem dX3_tell_12 : decode cX3_tell 12 = .ok (.aload_n 0, 1) := by decide +kernel
theorem dX3_tell_13 : decode cX3_tell 13 = .ok (.getfield 9, 3) := by decide +kernel
theorem dX3_tell_16 : decode cX3_tell 16 = .ok (.iload_n 1, 1) := by decide +kernel
theorem dX3_tell_17 : decode cX3_tell 17 = .ok (.iaload, 1) := by decide +kernel
theorem dX3_tell_18 : decode cX3_tell 18 = .ok (.goto 4, 3) := by decide +kernel
theorem dX3_tell_21 : decode cX3_tell 21 = .ok (.iconst (-1), 1) := by decide +kernel
theorem dX3_tell_22 : decode cX3_tell 22 = .ok (.ireturn, 1) := by decide +kernel
theorem dX3_closestUpper_0 : decode cX3_closestUpper 0 = .ok (.iconst (-1), 1) := by decide +kernel
theorem dX3_closestUpper_1 : decode cX3_closestUpper 1 = .ok (.istore_n 1, 1) := by decide +kernel
theorem dX3_closestUpper_2 : decode cX3_closestUpper 2 = .ok (.iconst 0, 1) := by decide +kernel
theorem dX3_closestUpper_3 : decode cX3_closestUpper 3 = .ok (.istore_n 2, 1) := by decide +kernel
theorem dX3_closestUpper_4 : decode cX3_closestUpper 4 = .ok (.iconst 1, 1) := by decide +kernel
theorem dX3_closestUpper_5 : decode cX3_closestUpper 5 = .ok (.istore_n 3, 1) := by decide +kernel
theorem dX3_closestUpper_6 : decode cX3_closestUpper 6 = .ok (.iload_n 3, 1) := by decide +kernel
theorem dX3_closestUpper_7 : decode cX3_closestUpper 7 = .ok (.aload_n 0, 1) := by decide +kernel
theorem dX3_closestUpper_8 : decode cX3_closestUpper 8 = .ok (.getfield 18, 3) := by decide +kernel
theorem dX3_closestUpper_11 : decode cX3_closestUpper 11 = .ok (.if_icmp .ge 42, 3) := by decide +kernel
theorem dX3_closestUpper_14 : decode cX3_closestUpper 14 = .ok (.aload_n 0, 1) := by decide +kernel
theorem dX3_closestUpper_15 : decode cX3_closestUpper 15 = .ok (.getfield 15, 3) := by decide +kernel
theorem dX3_closestUpper_18 : decode cX3_closestUpper 18 = .ok (.iload_n 3, 1) := by decide +kernel
theorem dX3_closestUpper_19 : decode cX3_closestUpper 19 = .ok (.iaload, 1) := by decide +kernel
theorem dX3_closestUpper_20 : decode cX3_closestUpper 20 = .ok (.aload_n 0, 1) := by decide +kernel
theorem dX3_closestUpper_21 : decode cX3_closestUpper 21 = .ok (.getfield 15, 3) := by decide +kernel
theorem dX3_closestUpper_24 : decode cX3_closestUpper 24 = .ok (.iload_n 3, 1) := by decide +kernel
theorem dX3_closestUpper_25 : decode cX3_closestUpper 25 = .ok (.iconst 1, 1) := by decide +kernel
theorem dX3_closestUpper_26 : decode cX3_closestUpper 26 = .ok (.isub, 1) := by decide +kernel
theorem dX3_closestUpper_27 : decode cX3_closestUpper 27 = .ok (.iaload, 1) := by decide +kernel
theorem dX3_closestUpper_28 : decode cX3_closestUpper 28 = .ok (.isub, 1) := by decide +kernel
theorem dX3_closestUpper_29 : decode cX3_closestUpper 29 = .ok (.istore 4, 2) := by decide +kernel
theorem dX3_closestUpper_31 : decode cX3_closestUpper 31 = .ok (.iload_n 1, 1) := by decide +kernel
theorem dX3_closestUpper_32 : decode cX3_closestUpper 32 = .ok (.iconst (-1), 1) := by decide +kernel
theorem dX3_closestUpper_33 : decode cX3_closestUpper 33 = .ok (.if_icmp .eq 9, 3) := by decide +kernel
theorem dX3_closestUpper_36 : decode cX3_closestUpper 36 = .ok (.iload 4, 2) := by decide +kernel
theorem dX3_closestUpper_38 : decode cX3_closestUpper 38 = .ok (.iload_n 2, 1) := by decide +kernel
theorem dX3_closestUpper_39 : decode cX3_closestUpper 39 = .ok (.if_icmp .ge 8, 3) := by decide +kernel
theorem dX3_closestUpper_42 : decode cX3_closestUpper 42 = .ok (.iload_n 3, 1) := by decide +kernel
theorem dX3_closestUpper_43 : decode cX3_closestUpper 43 = .ok (.istore_n 1, 1) := by decide +kernel
theorem dX3_closestUpper_44 : decode cX3_closestUpper 44 = .ok (.iload 4, 2) := by decide +kernel
theorem dX3_closestUpper_46 : decode cX3_closestUpper 46 = .ok (.istore_n 2, 1) := by decide +kernel
theorem dX3_closestUpper_47 : decode cX3_closestUpper 47 = .ok (.iinc 3 1, 3) := by decide +kernel
theorem dX3_closestUpper_50 : decode cX3_closestUpper 50 = .ok (.goto (-44), 3) := by decide +kernel
theorem dX3_closestUpper_53 : decode cX3_closestUpper 53 = .ok (.iload_n 1, 1) := by decide +kernel
theorem dX3_closestUpper_54 : decode cX3_closestUpper 54 = .ok (.ireturn, 1) := by decide +kernel
theorem dX3_heaps_0 : decode cX3_heaps 0 = .ok (.aload_n 0, 1) := by decide +kernel
theorem dX3_heaps_1 : decode cX3_heaps 1 = .ok (.getfield 18, 3) := by decide +kernel
theorem dX3_heaps_4 : decode cX3_heaps 4 = .ok (.iconst 1, 1) := by decide +kernel
theorem dX3_heaps_5 : decode cX3_heaps 5 = .ok (.invokestatic 22, 3) := by decide +kernel
theorem dX3_heaps_8 : decode cX3_heaps 8 = .ok (.istore_n 2, 1) := by decide +kernel
theorem dX3_heaps_9 : decode cX3_heaps 9 = .ok (.iconst 1, 1) := by decide +kernel
theorem dX3_heaps_10 : decode cX3_heaps 10 = .ok (.istore_n 3, 1) := by decide +kernel
theorem dX3_heaps_11 : decode cX3_heaps 11 = .ok (.iload_n 3, 1) := by decide +kernel
theorem dX3_heaps_12 : decode cX3_heaps 12 = .ok (.aload_n 0, 1) := by decide +kernel
theorem dX3_heaps_13 : decode cX3_heaps 13 = .ok (.getfield 18, 3) := by decide +kernel
theorem dX3_heaps_16 : decode cX3_heaps 16 = .ok (.if_icmp .ge 31, 3) := by decide +kernel
theorem dX3_heaps_19 : decode cX3_heaps 19 = .ok (.aload_n 0, 1) := by decide +kernel
theorem dX3_heaps_20 : decode cX3_heaps 20 = .ok (.getfield 15, 3) := by decide +kernel
theorem dX3_heaps_23 : decode cX3_heaps 23 = .ok (.iload_n 3, 1) := by decide +kernel
theorem dX3_heaps_24 : decode cX3_heaps 24 = .ok (.iaload, 1) := by decide +kernel
theorem dX3_heaps_25 : decode cX3_heaps 25 = .ok (.aload_n 0, 1) := by decide +kernel
theorem dX3_heaps_26 : decode cX3_heaps 26 = .ok (.getfield 15, 3) := by decide +kernel
theorem dX3_heaps_29 : decode cX3_heaps 29 = .ok (.iload_n 3, 1) := by decide +kernel
theorem dX3_heaps_30 : decode cX3_heaps 30 = .ok (.iconst 1, 1) := by decide +kernel
theorem dX3_heaps_31 : decode cX3_heaps 31 = .ok (.isub, 1) := by decide +kernel
theorem dX3_heaps_32 : decode cX3_heaps 32 = .ok (.iaload, 1) := by decide +kernel
theorem dX3_heaps_33 : decode cX3_heaps 33 = .ok (.isub, 1) := by decide +kernel
theorem dX3_heaps_34 : decode cX3_heaps 34 = .ok (.iload_n 1, 1) := by decide +kernel
theorem dX3_heaps_35 : decode cX3_heaps 35 = .ok (.if_icmp .le 6, 3) := by decide +kernel
theorem dX3_heaps_38 : decode cX3_heaps 38 = .ok (.iinc 2 1, 3) := by decide +kernel
theorem dX3_heaps_41 : decode cX3_heaps 41 = .ok (.iinc 3 1, 3) := by decide +kernel
theorem dX3_heaps_44 : decode cX3_heaps 44 = .ok (.goto (-33), 3) := by decide +kernel
theorem dX3_heaps_47 : decode cX3_heaps 47 = .ok (.iload_n 2, 1) := by decide +kernel
theorem dX3_heaps_48 : decode cX3_heaps 48 = .ok (.ireturn, 1) := by decide +kernel
theorem dX4_init_0 : decode cX4_init 0 = .ok (.aload_n 0, 1) := by decide +kernel
theorem dX4_init_1 : decode cX4_init 1 = .ok (.invokespecial 3, 3) := by decide +kernel
theorem dX4_init_4 : decode cX4_init 4 = .ok (.aload_n 0, 1) := by decide +kernel
theorem dX4_init_5 : decode cX4_init 5 = .ok (.bipush 45, 2) := by decide +kernel
theorem dX4_init_7 : decode cX4_init 7 = .ok (.newarray .long, 2) := by decide +kernel
theorem dX4_init_9 : decode cX4_init 9 = .ok (.putfield 9, 3) := by decide +kernel
theorem dX4_init_12 : decode cX4_init 12 = .ok (.aload_n 0, 1) := by decide +kernel
theorem dX4_init_13 : decode cX4_init 13 = .ok (.bipush 45, 2) := by decide +kernel
theorem dX4_init_15 : decode cX4_init 15 = .ok (.newarray .int, 2) := by decide +kernel
theorem dX4_init_17 : decode cX4_init 17 = .ok (.putfield 15, 3) := by decide +kernel
theorem dX4_init_20 : decode cX4_init 20 = .ok (.aload_n 0, 1) := by decide +kernel
theorem dX4_init_21 : decode cX4_init 21 = .ok (.bipush 45, 2) := by decide +kernel
theorem dX4_init_23 : decode cX4_init 23 = .ok (.newarray .int, 2) := by decide +kernel
theorem dX4_init_25 : decode cX4_init 25 = .ok (.putfield 19, 3) := by decide +kernel
theorem dX4_init_28 : decode cX4_init 28 = .ok (.return_, 1) := by decide +kernel
theorem dX4_clear_0 : decode cX4_clear 0 = .ok (.aload_n 0, 1) := by decide +kernel
theorem dX4_clear_1 : decode cX4_clear 1 = .ok (.iconst 0, 1) := by decide +kernel
theorem dX4_clear_2 : decode cX4_clear 2 = .ok (.putfield 22, 3) := by decide +kernel
theorem dX4_clear_5 : decode cX4_clear 5 = .ok (.aload_n 0, 1) := by decide +kernel
theorem dX4_clear_6 : decode cX4_clear 6 = .ok (.iconst 0, 1) := by decide +kernel
theorem dX4_clear_7 : decode cX4_clear 7 = .ok (.putfield 26, 3) := by decide +kernel
theorem dX4_clear_10 : decode cX4_clear 10 = .ok (.return_, 1) := by decide +kernel
set_option maxRecDepth 20000 in
theorem ggX4_insert_X2_compare : GoodIn wsX4_insert wsX2_compare := goodIn_r _ [8, 9, 10, 7, 11, 12, 13, 14, 15, 16, 17, 18, 19] (by decide +kernel) (by decide +kernel)
set_option maxRecDepth 20000 in
theorem gX4_insert_X2_compare_n29 : GoodIn wsX4_insert (wsX2_compare) := ggX4_insert_X2_compare
theorem dX4_insert_0 : decode cX4_insert 0 = .ok (.aload_n 0, 1) := by decide +kernel
theorem dX4_insert_1 : decode cX4_insert 1 = .ok (.getfield 22, 3) := by decide +kernel
theorem dX4_insert_4 : decode cX4_insert 4 = .ok (.bipush 45, 2) := by decide +kernel
theorem dX4_insert_6 : decode cX4_insert 6 = .ok (.if_icmp .lt 4, 3) := by decide +kernel
theorem dX4_insert_9 : decode cX4_insert 9 = .ok (.return_, 1) := by decide +kernel
theorem dX4_insert_10 : decode cX4_insert 10 = .ok (.aload_n 0, 1) := by decide +kernel
theorem dX4_insert_11 : decode cX4_insert 11 = .ok (.getfield 22, 3) := by decide +kernel
theorem dX4_insert_14 : decode cX4_insert 14 = .ok (.istore 6, 2) := by decide +kernel
theorem dX4_insert_16 : decode cX4_insert 16 = .ok (.iload 6, 2) := by decide +kernel
theorem dX4_insert_18 : decode cX4_insert 18 = .ok (.ifCond .le 73, 3) := by decide +kernel
theorem dX4_insert_21 : decode cX4_insert 21 = .ok (.aload_n 0, 1) := by decide +kernel
theorem dX4_insert_22 : decode cX4_insert 22 = .ok (.getfield 9, 3) := by decide +kernel
theorem dX4_insert_25 : decode cX4_insert 25 = .ok (.iload 6, 2) := by decide +kernel
theorem dX4_insert_27 : decode cX4_insert 27 = .ok (.iconst 1, 1) := by decide +kernel
theorem dX4_insert_28 : decode cX4_insert 28 = .ok (.isub, 1) := by decide +kernel
theorem dX4_insert_29 : decode cX4_insert 29 = .ok (.laload, 1) := by decide +kernel
theorem dX4_insert_30 : decode cX4_insert 30 = .ok (.lload_n 1, 1) := by decide +kernel
theorem dX4_insert_31 : decode cX4_insert 31 = .ok (.invokestatic 29, 3) := by decide +kernel
theorem dX4_insert_34 : decode cX4_insert 34 = .ok (.ifCond .le 57, 3) := by decide +kernel
theorem dX4_insert_37 : decode cX4_insert 37 = .ok (.aload_n 0, 1) := by decide +kernel
theorem dX4_insert_38 : decode cX4_insert 38 = .ok (.getfield 9, 3) := by decide +kernel
theorem dX4_insert_41 : decode cX4_insert 41 = .ok (.iload 6, 2) := by decide +kernel
theorem dX4_insert_43 : decode cX4_insert 43 = .ok (.aload_n 0, 1) := by decide +kernel
theorem dX4_insert_44 : decode cX4_insert 44 = .ok (.getfield 9, 3) := by decide +kernel
theorem dX4_insert_47 : decode cX4_insert 47 = .ok (.iload 6, 2) := by decide +kernel
theorem dX4_insert_49 : decode cX4_insert 49 = .ok (.iconst 1, 1) := by decide +kernel
theorem dX4_insert_50 : decode cX4_insert 50 = .ok (.isub, 1) := by decide +kernel
theorem dX4_insert_51 : decode cX4_insert 51 = .ok (.laload, 1) := by decide +kernel
theorem dX4_insert_52 : decode cX4_insert 52 = .ok (.lastore, 1) := by decide +kernel
theorem dX4_insert_53 : decode cX4_insert 53 = .ok (.aload_n 0, 1) := by decide +kernel
theorem dX4_insert_54 : decode cX4_insert 54 = .ok (.getfield 15, 3) := by decide +kernel
theorem dX4_insert_57 : decode cX4_insert 57 = .ok (.iload 6, 2) := by decide +kernel
theorem dX4_insert_59 : decode cX4_insert 59 = .ok (.aload_n 0, 1) := by decide +kernel
theorem dX4_insert_60 : decode cX4_insert 60 = .ok (.getfield 15, 3) := by decide +kernel
theorem dX4_insert_63 : decode cX4_insert 63 = .ok (.iload 6, 2) := by decide +kernel
theorem dX4_insert_65 : decode cX4_insert 65 = .ok (.iconst 1, 1) := by decide +kernel
theorem dX4_insert_66 : decode cX4_insert 66 = .ok (.isub, 1) := by decide +kernel
theorem dX4_insert_67 : decode cX4_insert 67 = .ok (.iaload, 1) := by decide +kernel
theorem dX4_insert_68 : decode cX4_insert 68 = .ok (.iastore, 1) := by decide +kernel
theorem dX4_insert_69 : decode cX4_insert 69 = .ok (.aload_n 0, 1) := by decide +kernel
theorem dX4_insert_70 : decode cX4_insert 70 = .ok (.getfield 19, 3) := by decide +kernel
theorem dX4_insert_73 : decode cX4_insert 73 = .ok (.iload 6, 2) := by decide +kernel
theorem dX4_insert_75 : decode cX4_insert 75 = .ok (.aload_n 0, 1) := by decide +kernel
theorem dX4_insert_76 : decode cX4_insert 76 = .ok (.getfield 19, 3) := by decide +kernel
theorem dX4_insert_79 : decode cX4_insert 79 = .ok (.iload 6, 2) := by decide +kernel
theorem dX4_insert_81 : decode cX4_insert 81 = .ok (.iconst 1, 1) := by decide +kernel
theorem dX4_insert_82 : decode cX4_insert 82 = .ok (.isub, 1) := by decide +kernel
theorem dX4_insert_83 : decode cX4_insert 83 = .ok (.iaload, 1) := by decide +kernel
theorem dX4_insert_84 : decode cX4_insert 84 = .ok (.iastore, 1) := by decide +kernel
theorem dX4_insert_85 : decode cX4_insert 85 = .ok (.iinc 6 (-1), 3) := by decide +kernel
theorem dX4_insert_88 : decode cX4_insert 88 = .ok (.goto (-72), 3) := by decide +kernel
theorem dX4_insert_91 : decode cX4_insert 91 = .ok (.aload_n 0, 1) := by decide +kernel
theorem dX4_insert_92 : decode cX4_insert 92 = .ok (.getfield 9, 3) := by decide +kernel
theorem dX4_insert_95 : decode cX4_insert 95 = .ok (.iload 6, 2) := by decide +kernel
theorem dX4_insert_97 : decode cX4_insert 97 = .ok (.lload_n 1, 1) := by decide +kernel
theorem dX4_insert_98 : decode cX4_insert 98 = .ok (.lastore, 1) := by decide +kernel
theorem dX4_insert_99 : decode cX4_insert 99 = .ok (.aload_n 0, 1) := by decide +kernel
theorem dX4_insert_100 : decode cX4_insert 100 = .ok (.getfield 15, 3) := by decide +kernel
theorem dX4_insert_103 : decode cX4_insert 103 = .ok (.iload 6, 2) := by decide +kernel
theorem dX4_insert_105 : decode cX4_insert 105 = .ok (.iload_n 3, 1) := by decide +kernel
theorem dX4_insert_106 : decode cX4_insert 106 = .ok (.iastore, 1) := by decide +kernel
theorem dX4_insert_107 : decode cX4_insert 107 = .ok (.aload_n 0, 1) := by decide +kernel
theorem dX4_insert_108 : decode cX4_insert 108 = .ok (.getfield 19, 3) := by decide +kernel
theorem dX4_insert_111 : decode cX4_insert 111 = .ok (.iload 6, 2) := by decide +kernel
theorem dX4_insert_113 : decode cX4_insert 113 = .ok (.iload 4, 2) := by decide +kernel
theorem dX4_insert_115 : decode cX4_insert 115 = .ok (.iastore, 1) := by decide +kernel
theorem dX4_insert_116 : decode cX4_insert 116 = .ok (.aload_n 0, 1) := by decide +kernel
theorem dX4_insert_117 : decode cX4_insert 117 = .ok (.dup, 1) := by decide +kernel
theorem dX4_insert_118 : decode cX4_insert 118 = .ok (.getfield 22, 3) := by decide +kernel
theorem dX4_insert_121 : decode cX4_insert 121 = .ok (.iconst 1, 1) := by decide +kernel
theorem dX4_insert_122 : decode cX4_insert 122 = .ok (.iadd, 1) := by decide +kernel
theorem dX4_insert_123 : decode cX4_insert 123 = .ok (.putfield 22, 3) := by decide +kernel
theorem dX4_insert_126 : decode cX4_insert 126 = .ok (.iload 5, 2) := by decide +kernel
theorem dX4_insert_128 : decode cX4_insert 128 = .ok (.ifCond .eq 13, 3) := by decide +kernel
theorem dX4_insert_131 : decode cX4_insert 131 = .ok (.aload_n 0, 1) := by decide +kernel
theorem dX4_insert_132 : decode cX4_insert 132 = .ok (.dup, 1) := by decide +kernel
theorem dX4_insert_133 : decode cX4_insert 133 = .ok (.getfield 26, 3) := by decide +kernel
theorem dX4_insert_136 : decode cX4_insert 136 = .ok (.iconst 1, 1) := by decide +kernel
theorem dX4_insert_137 : decode cX4_insert 137 = .ok (.iadd, 1) := by decide +kernel
theorem dX4_insert_138 : decode cX4_insert 138 = .ok (.putfield 26, 3) := by decide +kernel
theorem dX4_insert_141 : decode cX4_insert 141 = .ok (.return_, 1) := by decide +kernel
set_option maxRecDepth 20000 in
theorem ggX4_tell_X2_upper : GoodIn wsX4_tell wsX2_upper := goodIn_r _ [7] (by decide +kernel) (by decide +kernel)
set_option maxRecDepth 20000 in
theorem gX4_tell_X2_upper_n35 : GoodIn wsX4_tell (wsX2_upper) := ggX4_tell_X2_upper
set_option maxRecDepth 20000 in
theorem ggX4_tell_X2_lower : GoodIn wsX4_tell wsX2_lower := goodIn_r _ [9, 10] (by decide +kernel) (by decide +kernel)
set_option maxRecDepth 20000 in
theorem gX4_tell_X2_lower_n39 : GoodIn wsX4_tell (wsX2_lower) := ggX4_tell_X2_lower
theorem dX4_tell_0 : decode cX4_tell 0 = .ok (.iload_n 1, 1) := by decide +kernel
theorem dX4_tell_1 : decode cX4_tell 1 = .ok (.ifCond .lt 11, 3) := by decide +kernel
theorem dX4_tell_4 : decode cX4_tell 4 = .ok (.iload_n 1, 1) := by decide +kernel
theorem dX4_tell_5 : decode cX4_tell 5 = .ok (.aload_n 0, 1) := by decide +kernel
theorem dX4_tell_6 : decode cX4_tell 6 = .ok (.getfield 22, 3) := by decide +kernel
theorem dX4_tell_9 : decode cX4_tell 9 = .ok (.if_icmp .lt 5, 3) := by decide +kernel
theorem dX4_tell_12 : decode cX4_tell 12 = .ok (.iconst (-1), 1) := by decide +kernel
theorem dX4_tell_13 : decode cX4_tell 13 = .ok (.ireturn, 1) := by decide +kernel
theorem dX4_tell_14 : decode cX4_tell 14 = .ok (.iload_n 2, 1) := by decide +kernel
theorem dX4_tell_15 : decode cX4_tell 15 = .ok (.tableswitch 52 0 2 #[25, 35, 45], 25) := by decide +kernel
theorem dX4_tell_40 : decode cX4_tell 40 = .ok (.aload_n 0, 1) := by decide +kernel
theorem dX4_tell_41 : decode cX4_tell 41 = .ok (.getfield 9, 3) := by decide +kernel
theorem dX4_tell_44 : decode cX4_tell 44 = .ok (.iload_n 1, 1) := by decide +kernel
theorem dX4_tell_45 : decode cX4_tell 45 = .ok (.laload, 1) := by decide +kernel
theorem dX4_tell_46 : decode cX4_tell 46 = .ok (.invokestatic 35, 3) := by decide +kernel
theorem dX4_tell_49 : decode cX4_tell 49 = .ok (.ireturn, 1) := by decide +kernel
theorem dX4_tell_50 : decode cX4_tell 50 = .ok (.aload_n 0, 1) := by decide +kernel
theorem dX4_tell_51 : decode cX4_tell 51 = .ok (.getfield 9, 3) := by decide +kernel
theorem dX4_tell_54 : decode cX4_tell 54 = .ok (.iload_n 1, 1) := by decide +kernel
theorem dX4_tell_55 : decode cX4_tell 55 = .ok (.laload, 1) := by decide +kernel
theorem dX4_tell_56 : decode cX4_tell 56 = .ok (.invokestatic 39, 3) := by decide +kernel
theorem dX4_tell_59 : decode cX4_tell 59 = .ok (.ireturn, 1) := by decide +kernel
theorem dX4_tell_60 : decode cX4_tell 60 = .ok (.aload_n 0, 1) := by decide +kernel
theorem dX4_tell_61 : decode cX4_tell 61 = .ok (.getfield 15, 3) := by decide +kernel
theorem dX4_tell_64 : decode cX4_tell 64 = .ok (.iload_n 1, 1) := by decide +kernel
theorem dX4_tell_65 : decode cX4_tell 65 = .ok (.iaload, 1) := by decide +kernel
theorem dX4_tell_66 : decode cX4_tell 66 = .ok (.ireturn, 1) := by decide +kernel
theorem dX4_tell_67 : decode cX4_tell 67 = .ok (.aload_n 0, 1) := by decide +kernel
theorem dX4_tell_68 : decode cX4_tell 68 = .ok (.getfield 19, 3) := by decide +kernel
theorem dX4_tell_71 : decode cX4_tell 71 = .ok (.iload_n 1, 1) := by decide +kernel
theorem dX4_tell_72 : decode cX4_tell 72 = .ok (.iaload, 1) := by decide +kernel
theorem dX4_tell_73 : decode cX4_tell 73 = .ok (.ireturn, 1) := by decide +kernel
theorem dX5_init_0 : decode cX5_init 0 = .ok (.aload_n 0, 1) := by decide +kernel
theorem dX5_init_1 : decode cX5_init 1 = .ok (.invokespecial 3, 3) := by decide +kernel
theorem dX5_init_4 : decode cX5_init 4 = .ok (.aload_n 0, 1) := by decide +kernel
theorem dX5_init_5 : decode cX5_init 5 = .ok (.bipush 10, 2) := by decide +kernel
theorem dX5_init_7 : decode cX5_init 7 = .ok (.newarray .boolean, 2) := by decide +kernel
theorem dX5_init_9 : decode cX5_init 9 = .ok (.putfield 9, 3) := by decide +kernel
theorem dX5_init_12 : decode cX5_init 12 = .ok (.aload_n 0, 1) := by decide +kernel
theorem dX5_init_13 : decode cX5_init 13 = .ok (.bipush 10, 2) := by decide +kernel
theorem dX5_init_15 : decode cX5_init 15 = .ok (.newarray .int, 2) := by decide +kernel
theorem dX5_init_17 : decode cX5_init 17 = .ok (.putfield 15, 3) := by decide +kernel
theorem dX5_init_20 : decode cX5_init 20 = .ok (.aload_n 0, 1) := by decide +kernel
theorem dX5_init_21 : decode cX5_init 21 = .ok (.bipush 10, 2) := by decide +kernel
theorem dX5_init_23 : decode cX5_init 23 = .ok (.newarray .int, 2) := by decide +kernel
theorem dX5_init_25 : decode cX5_init 25 = .ok (.putfield 19, 3) := by decide +kernel
theorem dX5_init_28 : decode cX5_init 28 = .ok (.return_, 1) := by decide +kernel
theorem dX5_clear_0 : decode cX5_clear 0 = .ok (.aload_n 0, 1) := by decide +kernel
theorem dX5_clear_1 : decode cX5_clear 1 = .ok (.iconst 0, 1) := by decide +kernel
theorem dX5_clear_2 : decode cX5_clear 2 = .ok (.putfield 22, 3) := by decide +kernel
theorem dX5_clear_5 : decode cX5_clear 5 = .ok (.return_, 1) := by decide +kernel
set_option maxRecDepth 20000 in
theorem ggX5_add_X0_isThere : GoodIn wsX5_add wsX0_isThere := goodIn_r _ [8, 9, 10, 32, 33, 34, 35, 36] (by decide +kernel) (by decide +kernel)
set_option maxRecDepth 20000 in
theorem gX5_add_X0_isThere_n26 : GoodIn wsX5_add (wsX0_isThere) := ggX5_add_X0_isThere
set_option maxRecDepth 20000 in
theorem ggX5_add_X0_placeAt : GoodIn wsX5_add wsX0_placeAt := goodIn_r _ [13, 14, 15, 16, 6, 17, 18, 19, 9, 20, 21, 22, 23, 24, 32, 33, 34, 35, 36] (by decide +kernel) (by decide +kernel)
set_option maxRecDepth 20000 in
theorem gX5_add_X0_placeAt_n31 : GoodIn wsX5_add (wsX0_placeAt) := ggX5_add_X0_placeAt
set_option maxRecDepth 20000 in
theorem ggX5_add_X0_speedAt : GoodIn wsX5_add wsX0_speedAt := goodIn_r _ [27, 19, 20, 21, 22, 6, 23, 24, 9, 32, 33, 34, 35, 36] (by decide +kernel) (by decide +kernel)
set_option maxRecDepth 20000 in
theorem gX5_add_X0_speedAt_n35 : GoodIn wsX5_add (wsX0_speedAt) := ggX5_add_X0_speedAt
theorem dX5_add_0 : decode cX5_add 0 = .ok (.aload_n 0, 1) := by decide +kernel
theorem dX5_add_1 : decode cX5_add 1 = .ok (.getfield 22, 3) := by decide +kernel
theorem dX5_add_4 : decode cX5_add 4 = .ok (.bipush 10, 2) := by decide +kernel
theorem dX5_add_6 : decode cX5_add 6 = .ok (.if_icmp .lt 4, 3) := by decide +kernel
theorem dX5_add_9 : decode cX5_add 9 = .ok (.return_, 1) := by decide +kernel
theorem dX5_add_10 : decode cX5_add 10 = .ok (.aload_n 0, 1) := by decide +kernel
theorem dX5_add_11 : decode cX5_add 11 = .ok (.getfield 9, 3) := by decide +kernel
theorem dX5_add_14 : decode cX5_add 14 = .ok (.aload_n 0, 1) := by decide +kernel
theorem dX5_add_15 : decode cX5_add 15 = .ok (.getfield 22, 3) := by decide +kernel
theorem dX5_add_18 : decode cX5_add 18 = .ok (.aload_n 1, 1) := by decide +kernel
theorem dX5_add_19 : decode cX5_add 19 = .ok (.iload_n 2, 1) := by decide +kernel
theorem dX5_add_20 : decode cX5_add 20 = .ok (.iconst 1, 1) := by decide +kernel
theorem dX5_add_21 : decode cX5_add 21 = .ok (.invokevirtual 26, 3) := by decide +kernel
theorem dX5_add_24 : decode cX5_add 24 = .ok (.bastore, 1) := by decide +kernel
theorem dX5_add_25 : decode cX5_add 25 = .ok (.aload_n 0, 1) := by decide +kernel
theorem dX5_add_26 : decode cX5_add 26 = .ok (.getfield 15, 3) := by decide +kernel
theorem dX5_add_29 : decode cX5_add 29 = .ok (.aload_n 0, 1) := by decide +kernel
theorem dX5_add_30 : decode cX5_add 30 = .ok (.getfield 22, 3) := by decide +kernel
theorem dX5_add_33 : decode cX5_add 33 = .ok (.aload_n 1, 1) := by decide +kernel
theorem dX5_add_34 : decode cX5_add 34 = .ok (.iload_n 2, 1) := by decide +kernel
theorem dX5_add_35 : decode cX5_add 35 = .ok (.invokevirtual 31, 3) := by decide +kernel
theorem dX5_add_38 : decode cX5_add 38 = .ok (.iastore, 1) := by decide +kernel
theorem dX5_add_39 : decode cX5_add 39 = .ok (.aload_n 0, 1) := by decide +kernel
theorem dX5_add_40 : decode cX5_add 40 = .ok (.getfield 19, 3) := by decide +kernel
theorem dX5_add_43 : decode cX5_add 43 = .ok (.aload_n 0, 1) := by decide +kernel
theorem dX5_add_44 : decode cX5_add 44 = .ok (.getfield 22, 3) := by decide +kernel
theorem dX5_add_47 : decode cX5_add 47 = .ok (.aload_n 1, 1) := by decide +kernel
theorem dX5_add_48 : decode cX5_add 48 = .ok (.iload_n 2, 1) := by decide +kernel
theorem dX5_add_49 : decode cX5_add 49 = .ok (.invokevirtual 35, 3) := by decide +kernel
theorem dX5_add_52 : decode cX5_add 52 = .ok (.iastore, 1) := by decide +kernel
theorem dX5_add_53 : decode cX5_add 53 = .ok (.aload_n 0, 1) := by decide +kernel
theorem dX5_add_54 : decode cX5_add 54 = .ok (.dup, 1) := by decide +kernel
theorem dX5_add_55 : decode cX5_add 55 = .ok (.getfield 22, 3) := by decide +kernel
theorem dX5_add_58 : decode cX5_add 58 = .ok (.iconst 1, 1) := by decide +kernel
theorem dX5_add_59 : decode cX5_add 59 = .ok (.iadd, 1) := by decide +kernel
theorem dX5_add_60 : decode cX5_add 60 = .ok (.putfield 22, 3) := by decide +kernel
theorem dX5_add_63 : decode cX5_add 63 = .ok (.return_, 1) := by decide +kernel
theorem dX5_has_0 : decode cX5_has 0 = .ok (.iload_n 1, 1) := by decide +kernel
theorem dX5_has_1 : decode cX5_has 1 = .ok (.ifCond .lt 24, 3) := by decide +kernel
theorem dX5_has_4 : decode cX5_has 4 = .ok (.iload_n 1, 1) := by decide +kernel
theorem dX5_has_5 : decode cX5_has 5 = .ok (.aload_n 0, 1) := by decide +kernel
theorem dX5_has_6 : decode cX5_has 6 = .ok (.getfield 22, 3) := by decide +kernel
theorem dX5_has_9 : decode cX5_has 9 = .ok (.if_icmp .ge 16, 3) := by decide +kernel
theorem dX5_has_12 : decode cX5_has 12 = .ok (.aload_n 0, 1) := by decide +kernel
theorem dX5_has_13 : decode cX5_has 13 = .ok (.getfield 9, 3) := by decide +kernel
theorem dX5_has_16 : decode cX5_has 16 = .ok (.iload_n 1, 1) := by decide +kernel
theorem dX5_has_17 : decode cX5_has 17 = .ok (.baload, 1) := by decide +kernel
theorem dX5_has_18 : decode cX5_has 18 = .ok (.ifCond .eq 7, 3) := by decide +kernel
theorem dX5_has_21 : decode cX5_has 21 = .ok (.iconst 1, 1) := by decide +kernel
theorem dX5_has_22 : decode cX5_has 22 = .ok (.goto 4, 3) := by decide +kernel
theorem dX5_has_25 : decode cX5_has 25 = .ok (.iconst 0, 1) := by decide +kernel
theorem dX5_has_26 : decode cX5_has 26 = .ok (.ireturn, 1) := by decide +kernel
theorem dX5_gap_0 : decode cX5_gap 0 = .ok (.aload_n 0, 1) := by decide +kernel
theorem dX5_gap_1 : decode cX5_gap 1 = .ok (.getfield 15, 3) := by decide +kernel
theorem dX5_gap_4 : decode cX5_gap 4 = .ok (.iload_n 2, 1) := by decide +kernel
theorem dX5_gap_5 : decode cX5_gap 5 = .ok (.iaload, 1) := by decide +kernel
theorem dX5_gap_6 : decode cX5_gap 6 = .ok (.aload_n 0, 1) := by decide +kernel
theorem dX5_gap_7 : decode cX5_gap 7 = .ok (.getfield 15, 3) := by decide +kernel
theorem dX5_gap_10 : decode cX5_gap 10 = .ok (.iload_n 1, 1) := by decide +kernel
theorem dX5_gap_11 : decode cX5_gap 11 = .ok (.iaload, 1) := by decide +kernel
theorem dX5_gap_12 : decode cX5_gap 12 = .ok (.isub, 1) := by decide +kernel
theorem dX5_gap_13 : decode cX5_gap 13 = .ok (.ireturn, 1) := by decide +kernel
theorem dX5_growth_0 : decode cX5_growth 0 = .ok (.aload_n 0, 1) := by decide +kernel
theorem dX5_growth_1 : decode cX5_growth 1 = .ok (.getfield 19, 3) := by decide +kernel
theorem dX5_growth_4 : decode cX5_growth 4 = .ok (.iload_n 2, 1) := by decide +kernel
theorem dX5_growth_5 : decode cX5_growth 5 = .ok (.iaload, 1) := by decide +kernel
theorem dX5_growth_6 : decode cX5_growth 6 = .ok (.aload_n 0, 1) := by decide +kernel
theorem dX5_growth_7 : decode cX5_growth 7 = .ok (.getfield 19, 3) := by decide +kernel
theorem dX5_growth_10 : decode cX5_growth 10 = .ok (.iload_n 1, 1) := by decide +kernel
theorem dX5_growth_11 : decode cX5_growth 11 = .ok (.iaload, 1) := by decide +kernel
theorem dX5_growth_12 : decode cX5_growth 12 = .ok (.isub, 1) := by decide +kernel
theorem dX5_growth_13 : decode cX5_growth 13 = .ok (.ireturn, 1) := by decide +kernel
theorem dX6_init_0 : decode cX6_init 0 = .ok (.aload_n 0, 1) := by decide +kernel
theorem dX6_init_1 : decode cX6_init 1 = .ok (.invokespecial 3, 3) := by decide +kernel
theorem dX6_init_4 : decode cX6_init 4 = .ok (.return_, 1) := by decide +kernel
theorem dX6_seek_0 : decode cX6_seek 0 = .ok (.aload_n 0, 1) := by decide +kernel
theorem dX6_seek_1 : decode cX6_seek 1 = .ok (.iload_n 1, 1) := by decide +kernel
theorem dX6_seek_2 : decode cX6_seek 2 = .ok (.putfield 9, 3) := by decide +kernel
theorem dX6_seek_5 : decode cX6_seek 5 = .ok (.aload_n 0, 1) := by decide +kernel
theorem dX6_seek_6 : decode cX6_seek 6 = .ok (.iconst 0, 1) := by decide +kernel
theorem dX6_seek_7 : decode cX6_seek 7 = .ok (.putfield 15, 3) := by decide +kernel
theorem dX6_seek_10 : decode cX6_seek 10 = .ok (.return_, 1) := by decide +kernel
set_option maxRecDepth 20000 in
theorem ggX6_addIfSo_X7_isSo : GoodIn wsX6_addIfSo wsX7_isSo := goodIn_r _ [4, 5, 6, 7, 8, 9, 10, 11, 12, 13, 14, 15, 16, 17, 18, 19, 20, 21, 22, 23, 34, 35, 36, 37, 38] (by decide +kernel) (by decide +kernel)
set_option maxRecDepth 20000 in
theorem gX6_addIfSo_X7_isSo_n18 : GoodIn wsX6_addIfSo (wsX7_isSo) := ggX6_addIfSo_X7_isSo
set_option maxRecDepth 20000 in
theorem ggX6_addIfSo_X6_add : GoodIn wsX6_addIfSo wsX6_add := goodIn_r _ [28, 29, 30, 31, 32, 33, 13, 11, 14, 15, 10, 12, 16, 17, 18, 19, 20, 21, 22, 23, 39, 40, 41, 42, 43] (by decide +kernel) (by decide +kernel)
set_option maxRecDepth 20000 in
theorem gX6_addIfSo_X6_add : GoodIn wsX6_addIfSo (wsV RX6 31 RX6 yX6_add wsX6_add) := goodIn_app (goodIn_of _ (by decide +kernel)) ggX6_addIfSo_X6_add
theorem dX6_addIfSo_0 : decode cX6_addIfSo 0 = .ok (.aload_n 1, 1) := by decide +kernel
theorem dX6_addIfSo_1 : decode cX6_addIfSo 1 = .ok (.invokevirtual 18, 3) := by decide +kernel
theorem dX6_addIfSo_4 : decode cX6_addIfSo 4 = .ok (.ifCond .eq 15, 3) := by decide +kernel
theorem dX6_addIfSo_7 : decode cX6_addIfSo 7 = .ok (.aload_n 0, 1) := by decide +kernel
theorem dX6_addIfSo_8 : decode cX6_addIfSo 8 = .ok (.aload_n 1, 1) := by decide +kernel
theorem dX6_addIfSo_9 : decode cX6_addIfSo 9 = .ok (.getfield 24, 3) := by decide +kernel
theorem dX6_addIfSo_12 : decode cX6_addIfSo 12 = .ok (.aload_n 1, 1) := by decide +kernel
theorem dX6_addIfSo_13 : decode cX6_addIfSo 13 = .ok (.getfield 28, 3) := by decide +kernel
theorem dX6_addIfSo_16 : decode cX6_addIfSo 16 = .ok (.invokevirtual 31, 3) := by decide +kernel
theorem dX6_addIfSo_19 : decode cX6_addIfSo 19 = .ok (.return_, 1) := by decide +kernel
set_option maxRecDepth 20000 in
theorem ggX6_add_X2_compare : GoodIn wsX6_add wsX2_compare := goodIn_r _ [8, 9, 10, 7, 11, 12, 13, 14, 15, 16, 17, 18, 19] (by decide +kernel) (by decide +kernel)
set_option maxRecDepth 20000 in
theorem gX6_add_X2_compare_n38 : GoodIn wsX6_add (wsX2_compare) := ggX6_add_X2_compare
theorem dX6_add_0 : decode cX6_add 0 = .ok (.aload_n 0, 1) := by decide +kernel
theorem dX6_add_1 : decode cX6_add 1 = .ok (.getfield 15, 3) := by decide +kernel
theorem dX6_add_4 : decode cX6_add 4 = .ok (.ifCond .le 18, 3) := by decide +kernel
theorem dX6_add_7 : decode cX6_add 7 = .ok (.lload_n 1, 1) := by decide +kernel
theorem dX6_add_8 : decode cX6_add 8 = .ok (.aload_n 0, 1) := by decide +kernel
theorem dX6_add_9 : decode cX6_add 9 = .ok (.getfield 35, 3) := by decide +kernel
theorem dX6_add_12 : decode cX6_add 12 = .ok (.invokestatic 38, 3) := by decide +kernel
theorem dX6_add_15 : decode cX6_add 15 = .ok (.ifCond .gt 7, 3) := by decide +kernel
theorem dX6_add_18 : decode cX6_add 18 = .ok (.iconst 1, 1) := by decide +kernel
theorem dX6_add_19 : decode cX6_add 19 = .ok (.goto 4, 3) := by decide +kernel
theorem dX6_add_22 : decode cX6_add 22 = .ok (.iconst 0, 1) := by decide +kernel
theorem dX6_add_23 : decode cX6_add 23 = .ok (.istore 5, 2) := by decide +kernel
theorem dX6_add_25 : decode cX6_add 25 = .ok (.iload 5, 2) := by decide +kernel
theorem dX6_add_27 : decode cX6_add 27 = .ok (.ifCond .ne 31, 3) := by decide +kernel
theorem dX6_add_30 : decode cX6_add 30 = .ok (.aload_n 0, 1) := by decide +kernel
theorem dX6_add_31 : decode cX6_add 31 = .ok (.dup, 1) := by decide +kernel
theorem dX6_add_32 : decode cX6_add 32 = .ok (.getfield 15, 3) := by decide +kernel
theorem dX6_add_35 : decode cX6_add 35 = .ok (.iconst 1, 1) := by decide +kernel
theorem dX6_add_36 : decode cX6_add 36 = .ok (.iadd, 1) := by decide +kernel
theorem dX6_add_37 : decode cX6_add 37 = .ok (.putfield 15, 3) := by decide +kernel
theorem dX6_add_40 : decode cX6_add 40 = .ok (.aload_n 0, 1) := by decide +kernel
theorem dX6_add_41 : decode cX6_add 41 = .ok (.getfield 15, 3) := by decide +kernel
theorem dX6_add_44 : decode cX6_add 44 = .ok (.iconst 1, 1) := by decide +kernel
theorem dX6_add_45 : decode cX6_add 45 = .ok (.isub, 1) := by decide +kernel
theorem dX6_add_46 : decode cX6_add 46 = .ok (.aload_n 0, 1) := by decide +kernel
theorem dX6_add_47 : decode cX6_add 47 = .ok (.getfield 9, 3) := by decide +kernel
theorem dX6_add_50 : decode cX6_add 50 = .ok (.if_icmp .ne 8, 3) := by decide +kernel
theorem dX6_add_53 : decode cX6_add 53 = .ok (.aload_n 0, 1) := by decide +kernel
theorem dX6_add_54 : decode cX6_add 54 = .ok (.lload_n 1, 1) := by decide +kernel
theorem dX6_add_55 : decode cX6_add 55 = .ok (.putfield 44, 3) := by decide +kernel
theorem dX6_add_58 : decode cX6_add 58 = .ok (.aload_n 0, 1) := by decide +kernel
theorem dX6_add_59 : decode cX6_add 59 = .ok (.lload_n 3, 1) := by decide +kernel
theorem dX6_add_60 : decode cX6_add 60 = .ok (.putfield 35, 3) := by decide +kernel
theorem dX6_add_63 : decode cX6_add 63 = .ok (.aload_n 0, 1) := by decide +kernel
theorem dX6_add_64 : decode cX6_add 64 = .ok (.getfield 15, 3) := by decide +kernel
theorem dX6_add_67 : decode cX6_add 67 = .ok (.iconst 1, 1) := by decide +kernel
theorem dX6_add_68 : decode cX6_add 68 = .ok (.isub, 1) := by decide +kernel
theorem dX6_add_69 : decode cX6_add 69 = .ok (.aload_n 0, 1) := by decide +kernel
theorem dX6_add_70 : decode cX6_add 70 = .ok (.getfield 9, 3) := by decide +kernel
theorem dX6_add_73 : decode cX6_add 73 = .ok (.if_icmp .ne 8, 3) := by decide +kernel
theorem dX6_add_76 : decode cX6_add 76 = .ok (.aload_n 0, 1) := by decide +kernel
theorem dX6_add_77 : decode cX6_add 77 = .ok (.lload_n 3, 1) := by decide +kernel
theorem dX6_add_78 : decode cX6_add 78 = .ok (.putfield 47, 3) := by decide +kernel
theorem dX6_add_81 : decode cX6_add 81 = .ok (.return_, 1) := by decide +kernel
set_option maxRecDepth 20000 in
theorem ggX6_tell_X2_upper : GoodIn wsX6_tell wsX2_upper := goodIn_r _ [7] (by decide +kernel) (by decide +kernel)
set_option maxRecDepth 20000 in
theorem gX6_tell_X2_upper_n50 : GoodIn wsX6_tell (wsX2_upper) := ggX6_tell_X2_upper
set_option maxRecDepth 20000 in
theorem ggX6_tell_X2_lower : GoodIn wsX6_tell wsX2_lower := goodIn_r _ [9, 10] (by decide +kernel) (by decide +kernel)
set_option maxRecDepth 20000 in
theorem gX6_tell_X2_lower_n54 : GoodIn wsX6_tell (wsX2_lower) := ggX6_tell_X2_lower
theorem dX6_tell_0 : decode cX6_tell 0 = .ok (.aload_n 0, 1) := by decide +kernel
theorem dX6_tell_1 : decode cX6_tell 1 = .ok (.getfield 9, 3) := by decide +kernel
theorem dX6_tell_4 : decode cX6_tell 4 = .ok (.iconst (-1), 1) := by decide +kernel
theorem dX6_tell_5 : decode cX6_tell 5 = .ok (.if_icmp .ne 8, 3) := by decide +kernel
theorem dX6_tell_8 : decode cX6_tell 8 = .ok (.aload_n 0, 1) := by decide +kernel
theorem dX6_tell_9 : decode cX6_tell 9 = .ok (.getfield 15, 3) := by decide +kernel
theorem dX6_tell_12 : decode cX6_tell 12 = .ok (.ireturn, 1) := by decide +kernel
theorem dX6_tell_13 : decode cX6_tell 13 = .ok (.aload_n 0, 1) := by decide +kernel
theorem dX6_tell_14 : decode cX6_tell 14 = .ok (.getfield 9, 3) := by decide +kernel
theorem dX6_tell_17 : decode cX6_tell 17 = .ok (.ifCond .lt 14, 3) := by decide +kernel
theorem dX6_tell_20 : decode cX6_tell 20 = .ok (.aload_n 0, 1) := by decide +kernel
theorem dX6_tell_21 : decode cX6_tell 21 = .ok (.getfield 9, 3) := by decide +kernel
theorem dX6_tell_24 : decode cX6_tell 24 = .ok (.aload_n 0, 1) := by decide +kernel
theorem dX6_tell_25 : decode cX6_tell 25 = .ok (.getfield 15, 3) := by decide +kernel
theorem dX6_tell_28 : decode cX6_tell 28 = .ok (.if_icmp .lt 5, 3) := by decide +kernel
theorem dX6_tell_31 : decode cX6_tell 31 = .ok (.iconst (-1), 1) := by decide +kernel
theorem dX6_tell_32 : decode cX6_tell 32 = .ok (.ireturn, 1) := by decide +kernel
theorem dX6_tell_33 : decode cX6_tell 33 = .ok (.iload_n 1, 1) := by decide +kernel
theorem dX6_tell_34 : decode cX6_tell 34 = .ok (.iconst 2, 1) := by decide +kernel
theorem dX6_tell_35 : decode cX6_tell 35 = .ok (.if_icmp .ge 10, 3) := by decide +kernel
theorem dX6_tell_38 : decode cX6_tell 38 = .ok (.aload_n 0, 1) := by decide +kernel
theorem dX6_tell_39 : decode cX6_tell 39 = .ok (.getfield 44, 3) := by decide +kernel
theorem dX6_tell_42 : decode cX6_tell 42 = .ok (.goto 7, 3) := by decide +kernel
theorem dX6_tell_45 : decode cX6_tell 45 = .ok (.aload_n 0, 1) := by decide +kernel
theorem dX6_tell_46 : decode cX6_tell 46 = .ok (.getfield 47, 3) := by decide +kernel
theorem dX6_tell_49 : decode cX6_tell 49 = .ok (.lstore_n 2, 1) := by decide +kernel
theorem dX6_tell_50 : decode cX6_tell 50 = .ok (.iload_n 1, 1) := by decide +kernel
theorem dX6_tell_51 : decode cX6_tell 51 = .ok (.iconst 2, 1) := by decide +kernel
theorem dX6_tell_52 : decode cX6_tell 52 = .ok (.irem, 1) := by decide +kernel
theorem dX6_tell_53 : decode cX6_tell 53 = .ok (.ifCond .ne 10, 3) := by decide +kernel
theorem dX6_tell_56 : decode cX6_tell 56 = .ok (.lload_n 2, 1) := by decide +kernel
theorem dX6_tell_57 : decode cX6_tell 57 = .ok (.invokestatic 50, 3) := by decide +kernel
theorem dX6_tell_60 : decode cX6_tell 60 = .ok (.goto 7, 3) := by decide +kernel
theorem dX6_tell_63 : decode cX6_tell 63 = .ok (.lload_n 2, 1) := by decide +kernel
theorem dX6_tell_64 : decode cX6_tell 64 = .ok (.invokestatic 54, 3) := by decide +kernel
theorem dX6_tell_67 : decode cX6_tell 67 = .ok (.ireturn, 1) := by decide +kernel
theorem dX7_init_0 : decode cX7_init 0 = .ok (.aload_n 0, 1) := by decide +kernel
theorem dX7_init_1 : decode cX7_init 1 = .ok (.invokespecial 1, 3) := by decide +kernel
theorem dX7_init_4 : decode cX7_init 4 = .ok (.return_, 1) := by decide +kernel
set_option maxRecDepth 20000 in
theorem ggX7_open_X2_whole : GoodIn wsX7_open wsX2_whole := goodIn_r _ [5] (by decide +kernel) (by decide +kernel)
set_option maxRecDepth 20000 in
theorem gX7_open_X2_whole_n13 : GoodIn wsX7_open (wsX2_whole) := ggX7_open_X2_whole
set_option maxRecDepth 20000 in
theorem ggX7_open_X7_keepAll : GoodIn wsX7_open wsX7_keepAll := goodIn_r _ [10, 1, 11, 2, 12, 13, 3, 4, 5, 14, 15, 16, 17, 18] (by decide +kernel) (by decide +kernel)
set_option maxRecDepth 20000 in
theorem gX7_open_X7_keepAll : GoodIn wsX7_open (wsV RX7 23 RX7 yX7_keepAll wsX7_keepAll) := goodIn_app (goodIn_of _ (by decide +kernel)) ggX7_open_X7_keepAll
theorem dX7_open_0 : decode cX7_open 0 = .ok (.aload_n 0, 1) := by decide +kernel
theorem dX7_open_1 : decode cX7_open 1 = .ok (.iload_n 1, 1) := by decide +kernel
theorem dX7_open_2 : decode cX7_open 2 = .ok (.putfield 7, 3) := by decide +kernel
theorem dX7_open_5 : decode cX7_open 5 = .ok (.aload_n 0, 1) := by decide +kernel
theorem dX7_open_6 : decode cX7_open 6 = .ok (.iload_n 2, 1) := by decide +kernel
theorem dX7_open_7 : decode cX7_open 7 = .ok (.invokestatic 13, 3) := by decide +kernel
theorem dX7_open_10 : decode cX7_open 10 = .ok (.putfield 19, 3) := by decide +kernel
theorem dX7_open_13 : decode cX7_open 13 = .ok (.aload_n 0, 1) := by decide +kernel
theorem dX7_open_14 : decode cX7_open 14 = .ok (.invokevirtual 23, 3) := by decide +kernel
theorem dX7_open_17 : decode cX7_open 17 = .ok (.return_, 1) := by decide +kernel
set_option maxRecDepth 20000 in
theorem ggX7_keepAll_X2_whole : GoodIn wsX7_keepAll wsX2_whole := goodIn_r _ [8] (by decide +kernel) (by decide +kernel)
set_option maxRecDepth 20000 in
theorem gX7_keepAll_X2_whole_n13 : GoodIn wsX7_keepAll (wsX2_whole) := ggX7_keepAll_X2_whole
theorem dX7_keepAll_0 : decode cX7_keepAll 0 = .ok (.aload_n 0, 1) := by decide +kernel
theorem dX7_keepAll_1 : decode cX7_keepAll 1 = .ok (.aload_n 0, 1) := by decide +kernel
theorem dX7_keepAll_2 : decode cX7_keepAll 2 = .ok (.getfield 7, 3) := by decide +kernel
theorem dX7_keepAll_5 : decode cX7_keepAll 5 = .ok (.invokestatic 13, 3) := by decide +kernel
theorem dX7_keepAll_8 : decode cX7_keepAll 8 = .ok (.putfield 26, 3) := by decide +kernel
theorem dX7_keepAll_11 : decode cX7_keepAll 11 = .ok (.aload_n 0, 1) := by decide +kernel
theorem dX7_keepAll_12 : decode cX7_keepAll 12 = .ok (.aload_n 0, 1) := by decide +kernel
theorem dX7_keepAll_13 : decode cX7_keepAll 13 = .ok (.getfield 19, 3) := by decide +kernel
theorem dX7_keepAll_16 : decode cX7_keepAll 16 = .ok (.putfield 29, 3) := by decide +kernel
theorem dX7_keepAll_19 : decode cX7_keepAll 19 = .ok (.aload_n 0, 1) := by decide +kernel
theorem dX7_keepAll_20 : decode cX7_keepAll 20 = .ok (.iconst 0, 1) := by decide +kernel
theorem dX7_keepAll_21 : decode cX7_keepAll 21 = .ok (.putfield 32, 3) := by decide +kernel
theorem dX7_keepAll_24 : decode cX7_keepAll 24 = .ok (.return_, 1) := by decide +kernel
theorem dX7_keepNothing_0 : decode cX7_keepNothing 0 = .ok (.aload_n 0, 1) := by decide +kernel
theorem dX7_keepNothing_1 : decode cX7_keepNothing 1 = .ok (.iconst 1, 1) := by decide +kernel
theorem dX7_keepNothing_2 : decode cX7_keepNothing 2 = .ok (.putfield 32, 3) := by decide +kernel
theorem dX7_keepNothing_5 : decode cX7_keepNothing 5 = .ok (.return_, 1) := by decide +kernel
set_option maxRecDepth 20000 in
theorem ggX7_keepAtMost_X2_past : GoodIn wsX7_keepAtMost wsX2_past := goodIn_r _ [6, 7, 8, 5, 9, 10, 11, 12, 13, 14, 15, 16, 17, 18, 19] (by decide +kernel) (by decide +kernel)
set_option maxRecDepth 20000 in
theorem gX7_keepAtMost_X2_past_n36 : GoodIn wsX7_keepAtMost (wsX2_past) := ggX7_keepAtMost_X2_past
set_option maxRecDepth 20000 in
theorem ggX7_keepAtMost_X2_compare : GoodIn wsX7_keepAtMost wsX2_compare := goodIn_r _ [21, 22, 23, 5, 24, 25, 26, 27, 28, 29, 30, 31, 32] (by decide +kernel) (by decide +kernel)
set_option maxRecDepth 20000 in
theorem gX7_keepAtMost_X2_compare_n40 : GoodIn wsX7_keepAtMost (wsX2_compare) := ggX7_keepAtMost_X2_compare
set_option maxRecDepth 20000 in
theorem ggX7_keepAtMost_X7_keepNothing : GoodIn wsX7_keepAtMost wsX7_keepNothing := goodIn_r _ [37, 38, 39, 40, 41, 42, 43] (by decide +kernel) (by decide +kernel)
set_option maxRecDepth 20000 in
theorem gX7_keepAtMost_X7_keepNothing : GoodIn wsX7_keepAtMost (wsV RX7 44 RX7 yX7_keepNothing wsX7_keepNothing) := goodIn_app (goodIn_of _ (by decide +kernel)) ggX7_keepAtMost_X7_keepNothing
theorem dX7_keepAtMost_0 : decode cX7_keepAtMost 0 = .ok (.iload_n 2, 1) := by decide +kernel
theorem dX7_keepAtMost_1 : decode cX7_keepAtMost 1 = .ok (.ifCond .le 44, 3) := by decide +kernel
theorem dX7_keepAtMost_4 : decode cX7_keepAtMost 4 = .ok (.aload_n 0, 1) := by decide +kernel
theorem dX7_keepAtMost_5 : decode cX7_keepAtMost 5 = .ok (.getfield 7, 3) := by decide +kernel
theorem dX7_keepAtMost_8 : decode cX7_keepAtMost 8 = .ok (.iload_n 3, 1) := by decide +kernel
theorem dX7_keepAtMost_9 : decode cX7_keepAtMost 9 = .ok (.iload_n 1, 1) := by decide +kernel
theorem dX7_keepAtMost_10 : decode cX7_keepAtMost 10 = .ok (.isub, 1) := by decide +kernel
theorem dX7_keepAtMost_11 : decode cX7_keepAtMost 11 = .ok (.iload_n 2, 1) := by decide +kernel
theorem dX7_keepAtMost_12 : decode cX7_keepAtMost 12 = .ok (.invokestatic 36, 3) := by decide +kernel
theorem dX7_keepAtMost_15 : decode cX7_keepAtMost 15 = .ok (.lstore 4, 2) := by decide +kernel
theorem dX7_keepAtMost_17 : decode cX7_keepAtMost 17 = .ok (.aload_n 0, 1) := by decide +kernel
theorem dX7_keepAtMost_18 : decode cX7_keepAtMost 18 = .ok (.lload 4, 2) := by decide +kernel
theorem dX7_keepAtMost_20 : decode cX7_keepAtMost 20 = .ok (.aload_n 0, 1) := by decide +kernel
theorem dX7_keepAtMost_21 : decode cX7_keepAtMost 21 = .ok (.getfield 29, 3) := by decide +kernel
theorem dX7_keepAtMost_24 : decode cX7_keepAtMost 24 = .ok (.invokestatic 40, 3) := by decide +kernel
theorem dX7_keepAtMost_27 : decode cX7_keepAtMost 27 = .ok (.ifCond .ge 8, 3) := by decide +kernel
theorem dX7_keepAtMost_30 : decode cX7_keepAtMost 30 = .ok (.lload 4, 2) := by decide +kernel
theorem dX7_keepAtMost_32 : decode cX7_keepAtMost 32 = .ok (.goto 7, 3) := by decide +kernel
theorem dX7_keepAtMost_35 : decode cX7_keepAtMost 35 = .ok (.aload_n 0, 1) := by decide +kernel
theorem dX7_keepAtMost_36 : decode cX7_keepAtMost 36 = .ok (.getfield 29, 3) := by decide +kernel
theorem dX7_keepAtMost_39 : decode cX7_keepAtMost 39 = .ok (.putfield 29, 3) := by decide +kernel
theorem dX7_keepAtMost_42 : decode cX7_keepAtMost 42 = .ok (.goto 58, 3) := by decide +kernel
theorem dX7_keepAtMost_45 : decode cX7_keepAtMost 45 = .ok (.iload_n 2, 1) := by decide +kernel
theorem dX7_keepAtMost_46 : decode cX7_keepAtMost 46 = .ok (.ifCond .ge 45, 3) := by decide +kernel
theorem dX7_keepAtMost_49 : decode cX7_keepAtMost 49 = .ok (.aload_n 0, 1) := by decide +kernel
theorem dX7_keepAtMost_50 : decode cX7_keepAtMost 50 = .ok (.getfield 7, 3) := by decide +kernel
theorem dX7_keepAtMost_53 : decode cX7_keepAtMost 53 = .ok (.iload_n 1, 1) := by decide +kernel
theorem dX7_keepAtMost_54 : decode cX7_keepAtMost 54 = .ok (.iload_n 3, 1) := by decide +kernel
theorem dX7_keepAtMost_55 : decode cX7_keepAtMost 55 = .ok (.isub, 1) := by decide +kernel
theorem dX7_keepAtMost_56 : decode cX7_keepAtMost 56 = .ok (.iload_n 2, 1) := by decide +kernel
theorem dX7_keepAtMost_57 : decode cX7_keepAtMost 57 = .ok (.ineg, 1) := by decide +kernel
theorem dX7_keepAtMost_58 : decode cX7_keepAtMost 58 = .ok (.invokestatic 36, 3) := by decide +kernel
theorem dX7_keepAtMost_61 : decode cX7_keepAtMost 61 = .ok (.lstore 4, 2) := by decide +kernel
theorem dX7_keepAtMost_63 : decode cX7_keepAtMost 63 = .ok (.aload_n 0, 1) := by decide +kernel
theorem dX7_keepAtMost_64 : decode cX7_keepAtMost 64 = .ok (.lload 4, 2) := by decide +kernel
theorem dX7_keepAtMost_66 : decode cX7_keepAtMost 66 = .ok (.aload_n 0, 1) := by decide +kernel
theorem dX7_keepAtMost_67 : decode cX7_keepAtMost 67 = .ok (.getfield 26, 3) := by decide +kernel
theorem dX7_keepAtMost_70 : decode cX7_keepAtMost 70 = .ok (.invokestatic 40, 3) := by decide +kernel
theorem dX7_keepAtMost_73 : decode cX7_keepAtMost 73 = .ok (.ifCond .le 8, 3) := by decide +kernel
theorem dX7_keepAtMost_76 : decode cX7_keepAtMost 76 = .ok (.lload 4, 2) := by decide +kernel
theorem dX7_keepAtMost_78 : decode cX7_keepAtMost 78 = .ok (.goto 7, 3) := by decide +kernel
theorem dX7_keepAtMost_81 : decode cX7_keepAtMost 81 = .ok (.aload_n 0, 1) := by decide +kernel
theorem dX7_keepAtMost_82 : decode cX7_keepAtMost 82 = .ok (.getfield 26, 3) := by decide +kernel
theorem dX7_keepAtMost_85 : decode cX7_keepAtMost 85 = .ok (.putfield 26, 3) := by decide +kernel
theorem dX7_keepAtMost_88 : decode cX7_keepAtMost 88 = .ok (.goto 12, 3) := by decide +kernel
theorem dX7_keepAtMost_91 : decode cX7_keepAtMost 91 = .ok (.iload_n 1, 1) := by decide +kernel
theorem dX7_keepAtMost_92 : decode cX7_keepAtMost 92 = .ok (.iload_n 3, 1) := by decide +kernel
theorem dX7_keepAtMost_93 : decode cX7_keepAtMost 93 = .ok (.if_icmp .le 7, 3) := by decide +kernel
theorem dX7_keepAtMost_96 : decode cX7_keepAtMost 96 = .ok (.aload_n 0, 1) := by decide +kernel
theorem dX7_keepAtMost_97 : decode cX7_keepAtMost 97 = .ok (.invokevirtual 44, 3) := by decide +kernel
theorem dX7_keepAtMost_100 : decode cX7_keepAtMost 100 = .ok (.return_, 1) := by decide +kernel
set_option maxRecDepth 20000 in
theorem ggX7_isSo_X2_upper : GoodIn wsX7_isSo wsX2_upper := goodIn_r _ [8] (by decide +kernel) (by decide +kernel)
set_option maxRecDepth 20000 in
theorem gX7_isSo_X2_upper_n47 : GoodIn wsX7_isSo (wsX2_upper) := ggX7_isSo_X2_upper
set_option maxRecDepth 20000 in
theorem ggX7_isSo_X2_compare : GoodIn wsX7_isSo wsX2_compare := goodIn_r _ [10, 11, 6, 7, 8, 12, 13, 14, 15, 16, 17, 18, 19] (by decide +kernel) (by decide +kernel)
set_option maxRecDepth 20000 in
theorem gX7_isSo_X2_compare_n40 : GoodIn wsX7_isSo (wsX2_compare) := ggX7_isSo_X2_compare
theorem dX7_isSo_0 : decode cX7_isSo 0 = .ok (.aload_n 0, 1) := by decide +kernel
theorem dX7_isSo_1 : decode cX7_isSo 1 = .ok (.getfield 26, 3) := by decide +kernel
theorem dX7_isSo_4 : decode cX7_isSo 4 = .ok (.aload_n 0, 1) := by decide +kernel
theorem dX7_isSo_5 : decode cX7_isSo 5 = .ok (.getfield 19, 3) := by decide +kernel
theorem dX7_isSo_8 : decode cX7_isSo 8 = .ok (.lcmp, 1) := by decide +kernel
theorem dX7_isSo_9 : decode cX7_isSo 9 = .ok (.ifCond .ne 21, 3) := by decide +kernel
theorem dX7_isSo_12 : decode cX7_isSo 12 = .ok (.aload_n 0, 1) := by decide +kernel
theorem dX7_isSo_13 : decode cX7_isSo 13 = .ok (.getfield 7, 3) := by decide +kernel
theorem dX7_isSo_16 : decode cX7_isSo 16 = .ok (.aload_n 0, 1) := by decide +kernel
theorem dX7_isSo_17 : decode cX7_isSo 17 = .ok (.getfield 19, 3) := by decide +kernel
theorem dX7_isSo_20 : decode cX7_isSo 20 = .ok (.invokestatic 47, 3) := by decide +kernel
theorem dX7_isSo_23 : decode cX7_isSo 23 = .ok (.if_icmp .eq 7, 3) := by decide +kernel
theorem dX7_isSo_26 : decode cX7_isSo 26 = .ok (.iconst 1, 1) := by decide +kernel
theorem dX7_isSo_27 : decode cX7_isSo 27 = .ok (.goto 4, 3) := by decide +kernel
theorem dX7_isSo_30 : decode cX7_isSo 30 = .ok (.iconst 0, 1) := by decide +kernel
theorem dX7_isSo_31 : decode cX7_isSo 31 = .ok (.istore_n 1, 1) := by decide +kernel
theorem dX7_isSo_32 : decode cX7_isSo 32 = .ok (.aload_n 0, 1) := by decide +kernel
theorem dX7_isSo_33 : decode cX7_isSo 33 = .ok (.getfield 32, 3) := by decide +kernel
theorem dX7_isSo_36 : decode cX7_isSo 36 = .ok (.ifCond .ne 25, 3) := by decide +kernel
theorem dX7_isSo_39 : decode cX7_isSo 39 = .ok (.iload_n 1, 1) := by decide +kernel
theorem dX7_isSo_40 : decode cX7_isSo 40 = .ok (.ifCond .ne 21, 3) := by decide +kernel
theorem dX7_isSo_43 : decode cX7_isSo 43 = .ok (.aload_n 0, 1) := by decide +kernel
theorem dX7_isSo_44 : decode cX7_isSo 44 = .ok (.getfield 26, 3) := by decide +kernel
theorem dX7_isSo_47 : decode cX7_isSo 47 = .ok (.aload_n 0, 1) := by decide +kernel
theorem dX7_isSo_48 : decode cX7_isSo 48 = .ok (.getfield 29, 3) := by decide +kernel
theorem dX7_isSo_51 : decode cX7_isSo 51 = .ok (.invokestatic 40, 3) := by decide +kernel
theorem dX7_isSo_54 : decode cX7_isSo 54 = .ok (.ifCond .gt 7, 3) := by decide +kernel
theorem dX7_isSo_57 : decode cX7_isSo 57 = .ok (.iconst 1, 1) := by decide +kernel
theorem dX7_isSo_58 : decode cX7_isSo 58 = .ok (.goto 4, 3) := by decide +kernel
theorem dX7_isSo_61 : decode cX7_isSo 61 = .ok (.iconst 0, 1) := by decide +kernel
theorem dX7_isSo_62 : decode cX7_isSo 62 = .ok (.ireturn, 1) := by decide +kernel
