set_option maxRecDepth 20000 in
theorem ggX0_init_X1_init : GoodIn wsX0_init wsX1_init := goodIn_r _ [3, 4, 5, 6, 7, 8, 9, 10, 11, 12, 13] (by decide +kernel) (by decide +kernel)
set_option maxRecDepth 20000 in
theorem gX0_init_X1_init_n3 : GoodIn wsX0_init (wsX1_init) := ggX0_init_X1_init
theorem dX0_init_0 : decode cX0_init 0 = .ok (.aload_n 0, 1) := by decide +kernel
theorem dX0_init_1 : decode cX0_init 1 = .ok (.invokespecial 3, 3) := by decide +kernel
theorem dX0_init_4 : decode cX0_init 4 = .ok (.return_, 1) := by decide +kernel
set_option maxRecDepth 20000 in
theorem ggX0_trace_X0_isOverLast : GoodIn wsX0_trace wsX0_isOverLast := goodIn_r _ [7, 1, 2, 8, 9, 10, 31, 32, 33, 34, 35, 36, 37, 38] (by decide +kernel) (by decide +kernel)
set_option maxRecDepth 20000 in
theorem gX0_trace_X0_isOverLast : GoodIn wsX0_trace (wsV RX0 15 RX0 yX0_isOverLast wsX0_isOverLast) := goodIn_app (goodIn_of _ (by decide +kernel)) ggX0_trace_X0_isOverLast
set_option maxRecDepth 20000 in
theorem ggX0_trace_X0_lastStays : GoodIn wsX0_trace wsX0_lastStays := goodIn_r _ [14, 1, 2, 8, 15, 9, 10, 3, 4, 5, 6, 7, 16, 17, 18, 19, 20, 21, 22, 31, 32, 33, 34, 35, 36, 37, 38] (by decide +kernel) (by decide +kernel)
set_option maxRecDepth 20000 in
theorem gX0_trace_X0_lastStays : GoodIn wsX0_trace (wsV RX0 19 RX0 yX0_lastStays wsX0_lastStays) := goodIn_app (goodIn_of _ (by decide +kernel)) ggX0_trace_X0_lastStays
set_option maxRecDepth 20000 in
theorem ggX0_trace_X1_append : GoodIn wsX0_trace wsX1_append := goodIn_r _ [28, 29, 30, 31, 32, 33, 34] (by decide +kernel) (by decide +kernel)
set_option maxRecDepth 20000 in
theorem gX0_trace_X1_append_u23X0 : GoodIn wsX0_trace (va_wsU RX0 23 RX0 "LiveHull$Corners" ⟨"LiveHull$Chain", "append", "(I)V"⟩ yX1_append wsX1_append) := goodIn_app (goodIn_of _ (by decide +kernel)) ggX0_trace_X1_append
theorem dX0_trace_0 : decode cX0_trace 0 = .ok (.aload_n 0, 1) := by decide +kernel
theorem dX0_trace_1 : decode cX0_trace 1 = .ok (.iconst 0, 1) := by decide +kernel
theorem dX0_trace_2 : decode cX0_trace 2 = .ok (.putfield 9, 3) := by decide +kernel
theorem dX0_trace_5 : decode cX0_trace 5 = .ok (.iload_n 2, 1) := by decide +kernel
theorem dX0_trace_6 : decode cX0_trace 6 = .ok (.istore 5, 2) := by decide +kernel
theorem dX0_trace_8 : decode cX0_trace 8 = .ok (.iload 5, 2) := by decide +kernel
theorem dX0_trace_10 : decode cX0_trace 10 = .ok (.iload_n 2, 1) := by decide +kernel
theorem dX0_trace_11 : decode cX0_trace 11 = .ok (.iload_n 3, 1) := by decide +kernel
theorem dX0_trace_12 : decode cX0_trace 12 = .ok (.iadd, 1) := by decide +kernel
theorem dX0_trace_13 : decode cX0_trace 13 = .ok (.if_icmp .ge 66, 3) := by decide +kernel
theorem dX0_trace_16 : decode cX0_trace 16 = .ok (.iload 4, 2) := by decide +kernel
theorem dX0_trace_18 : decode cX0_trace 18 = .ok (.iconst 1, 1) := by decide +kernel
theorem dX0_trace_19 : decode cX0_trace 19 = .ok (.if_icmp .ne 16, 3) := by decide +kernel
theorem dX0_trace_22 : decode cX0_trace 22 = .ok (.aload_n 0, 1) := by decide +kernel
theorem dX0_trace_23 : decode cX0_trace 23 = .ok (.aload_n 1, 1) := by decide +kernel
theorem dX0_trace_24 : decode cX0_trace 24 = .ok (.iload 5, 2) := by decide +kernel
theorem dX0_trace_26 : decode cX0_trace 26 = .ok (.invokevirtual 15, 3) := by decide +kernel
theorem dX0_trace_29 : decode cX0_trace 29 = .ok (.ifCond .eq 6, 3) := by decide +kernel
theorem dX0_trace_32 : decode cX0_trace 32 = .ok (.goto 41, 3) := by decide +kernel
theorem dX0_trace_35 : decode cX0_trace 35 = .ok (.aload_n 0, 1) := by decide +kernel
theorem dX0_trace_36 : decode cX0_trace 36 = .ok (.getfield 9, 3) := by decide +kernel
theorem dX0_trace_39 : decode cX0_trace 39 = .ok (.ifCond .le 28, 3) := by decide +kernel
theorem dX0_trace_42 : decode cX0_trace 42 = .ok (.aload_n 0, 1) := by decide +kernel
theorem dX0_trace_43 : decode cX0_trace 43 = .ok (.aload_n 1, 1) := by decide +kernel
theorem dX0_trace_44 : decode cX0_trace 44 = .ok (.iload 5, 2) := by decide +kernel
theorem dX0_trace_46 : decode cX0_trace 46 = .ok (.iload 4, 2) := by decide +kernel
theorem dX0_trace_48 : decode cX0_trace 48 = .ok (.invokevirtual 19, 3) := by decide +kernel
theorem dX0_trace_51 : decode cX0_trace 51 = .ok (.ifCond .ne 16, 3) := by decide +kernel
theorem dX0_trace_54 : decode cX0_trace 54 = .ok (.aload_n 0, 1) := by decide +kernel
theorem dX0_trace_55 : decode cX0_trace 55 = .ok (.dup, 1) := by decide +kernel
theorem dX0_trace_56 : decode cX0_trace 56 = .ok (.getfield 9, 3) := by decide +kernel
theorem dX0_trace_59 : decode cX0_trace 59 = .ok (.iconst 1, 1) := by decide +kernel
theorem dX0_trace_60 : decode cX0_trace 60 = .ok (.isub, 1) := by decide +kernel
theorem dX0_trace_61 : decode cX0_trace 61 = .ok (.putfield 9, 3) := by decide +kernel
theorem dX0_trace_64 : decode cX0_trace 64 = .ok (.goto (-29), 3) := by decide +kernel
theorem dX0_trace_67 : decode cX0_trace 67 = .ok (.aload_n 0, 1) := by decide +kernel
theorem dX0_trace_68 : decode cX0_trace 68 = .ok (.iload 5, 2) := by decide +kernel
theorem dX0_trace_70 : decode cX0_trace 70 = .ok (.invokevirtual 23, 3) := by decide +kernel
theorem dX0_trace_73 : decode cX0_trace 73 = .ok (.iinc 5 1, 3) := by decide +kernel
theorem dX0_trace_76 : decode cX0_trace 76 = .ok (.goto (-68), 3) := by decide +kernel
theorem dX0_trace_79 : decode cX0_trace 79 = .ok (.return_, 1) := by decide +kernel
theorem dX0_isOverLast_0 : decode cX0_isOverLast 0 = .ok (.aload_n 0, 1) := by decide +kernel
theorem dX0_isOverLast_1 : decode cX0_isOverLast 1 = .ok (.getfield 9, 3) := by decide +kernel
theorem dX0_isOverLast_4 : decode cX0_isOverLast 4 = .ok (.ifCond .le 32, 3) := by decide +kernel
theorem dX0_isOverLast_7 : decode cX0_isOverLast 7 = .ok (.aload_n 1, 1) := by decide +kernel
theorem dX0_isOverLast_8 : decode cX0_isOverLast 8 = .ok (.getfield 27, 3) := by decide +kernel
theorem dX0_isOverLast_11 : decode cX0_isOverLast 11 = .ok (.aload_n 0, 1) := by decide +kernel
theorem dX0_isOverLast_12 : decode cX0_isOverLast 12 = .ok (.getfield 33, 3) := by decide +kernel
theorem dX0_isOverLast_15 : decode cX0_isOverLast 15 = .ok (.aload_n 0, 1) := by decide +kernel
theorem dX0_isOverLast_16 : decode cX0_isOverLast 16 = .ok (.getfield 9, 3) := by decide +kernel
theorem dX0_isOverLast_19 : decode cX0_isOverLast 19 = .ok (.iconst 1, 1) := by decide +kernel
theorem dX0_isOverLast_20 : decode cX0_isOverLast 20 = .ok (.isub, 1) := by decide +kernel
theorem dX0_isOverLast_21 : decode cX0_isOverLast 21 = .ok (.iaload, 1) := by decide +kernel
theorem dX0_isOverLast_22 : decode cX0_isOverLast 22 = .ok (.iaload, 1) := by decide +kernel
theorem dX0_isOverLast_23 : decode cX0_isOverLast 23 = .ok (.aload_n 1, 1) := by decide +kernel
theorem dX0_isOverLast_24 : decode cX0_isOverLast 24 = .ok (.getfield 27, 3) := by decide +kernel
theorem dX0_isOverLast_27 : decode cX0_isOverLast 27 = .ok (.iload_n 2, 1) := by decide +kernel
theorem dX0_isOverLast_28 : decode cX0_isOverLast 28 = .ok (.iaload, 1) := by decide +kernel
theorem dX0_isOverLast_29 : decode cX0_isOverLast 29 = .ok (.if_icmp .ne 7, 3) := by decide +kernel
theorem dX0_isOverLast_32 : decode cX0_isOverLast 32 = .ok (.iconst 1, 1) := by decide +kernel
theorem dX0_isOverLast_33 : decode cX0_isOverLast 33 = .ok (.goto 4, 3) := by decide +kernel
theorem dX0_isOverLast_36 : decode cX0_isOverLast 36 = .ok (.iconst 0, 1) := by decide +kernel
theorem dX0_isOverLast_37 : decode cX0_isOverLast 37 = .ok (.ireturn, 1) := by decide +kernel
set_option maxRecDepth 20000 in
theorem ggX0_lastStays_X0_isOverLast : GoodIn wsX0_lastStays wsX0_isOverLast := goodIn_r _ [11, 1, 2, 3, 5, 6, 19, 20, 21, 22, 23, 24, 25, 26] (by decide +kernel) (by decide +kernel)
set_option maxRecDepth 20000 in
theorem gX0_lastStays_X0_isOverLast : GoodIn wsX0_lastStays (wsV RX0 15 RX0 yX0_isOverLast wsX0_isOverLast) := goodIn_app (goodIn_of _ (by decide +kernel)) ggX0_lastStays_X0_isOverLast
set_option maxRecDepth 20000 in
theorem ggX0_lastStays_X3_turn : GoodIn wsX0_lastStays wsX3_turn := goodIn_r _ [16, 17, 18, 23, 24, 25, 26] (by decide +kernel) (by decide +kernel)
set_option maxRecDepth 20000 in
theorem gX0_lastStays_X3_turn : GoodIn wsX0_lastStays (wsV RX0 39 RX3 yX3_turn wsX3_turn) := goodIn_app (goodIn_of _ (by decide +kernel)) ggX0_lastStays_X3_turn
theorem dX0_lastStays_0 : decode cX0_lastStays 0 = .ok (.aload_n 0, 1) := by decide +kernel
theorem dX0_lastStays_1 : decode cX0_lastStays 1 = .ok (.aload_n 1, 1) := by decide +kernel
theorem dX0_lastStays_2 : decode cX0_lastStays 2 = .ok (.iload_n 2, 1) := by decide +kernel
theorem dX0_lastStays_3 : decode cX0_lastStays 3 = .ok (.invokevirtual 15, 3) := by decide +kernel
theorem dX0_lastStays_6 : decode cX0_lastStays 6 = .ok (.ifCond .eq 5, 3) := by decide +kernel
theorem dX0_lastStays_9 : decode cX0_lastStays 9 = .ok (.iconst 0, 1) := by decide +kernel
theorem dX0_lastStays_10 : decode cX0_lastStays 10 = .ok (.ireturn, 1) := by decide +kernel
theorem dX0_lastStays_11 : decode cX0_lastStays 11 = .ok (.aload_n 0, 1) := by decide +kernel
theorem dX0_lastStays_12 : decode cX0_lastStays 12 = .ok (.getfield 9, 3) := by decide +kernel
theorem dX0_lastStays_15 : decode cX0_lastStays 15 = .ok (.iconst 2, 1) := by decide +kernel
theorem dX0_lastStays_16 : decode cX0_lastStays 16 = .ok (.if_icmp .ge 5, 3) := by decide +kernel
theorem dX0_lastStays_19 : decode cX0_lastStays 19 = .ok (.iconst 1, 1) := by decide +kernel
theorem dX0_lastStays_20 : decode cX0_lastStays 20 = .ok (.ireturn, 1) := by decide +kernel
theorem dX0_lastStays_21 : decode cX0_lastStays 21 = .ok (.aload_n 1, 1) := by decide +kernel
theorem dX0_lastStays_22 : decode cX0_lastStays 22 = .ok (.getfield 27, 3) := by decide +kernel
theorem dX0_lastStays_25 : decode cX0_lastStays 25 = .ok (.iload_n 2, 1) := by decide +kernel
theorem dX0_lastStays_26 : decode cX0_lastStays 26 = .ok (.iaload, 1) := by decide +kernel
theorem dX0_lastStays_27 : decode cX0_lastStays 27 = .ok (.istore 4, 2) := by decide +kernel
theorem dX0_lastStays_29 : decode cX0_lastStays 29 = .ok (.aload_n 1, 1) := by decide +kernel
theorem dX0_lastStays_30 : decode cX0_lastStays 30 = .ok (.getfield 36, 3) := by decide +kernel
theorem dX0_lastStays_33 : decode cX0_lastStays 33 = .ok (.iload_n 2, 1) := by decide +kernel
theorem dX0_lastStays_34 : decode cX0_lastStays 34 = .ok (.iaload, 1) := by decide +kernel
theorem dX0_lastStays_35 : decode cX0_lastStays 35 = .ok (.istore 5, 2) := by decide +kernel
theorem dX0_lastStays_37 : decode cX0_lastStays 37 = .ok (.aload_n 1, 1) := by decide +kernel
theorem dX0_lastStays_38 : decode cX0_lastStays 38 = .ok (.aload_n 0, 1) := by decide +kernel
theorem dX0_lastStays_39 : decode cX0_lastStays 39 = .ok (.getfield 33, 3) := by decide +kernel
theorem dX0_lastStays_42 : decode cX0_lastStays 42 = .ok (.aload_n 0, 1) := by decide +kernel
theorem dX0_lastStays_43 : decode cX0_lastStays 43 = .ok (.getfield 9, 3) := by decide +kernel
theorem dX0_lastStays_46 : decode cX0_lastStays 46 = .ok (.iconst 2, 1) := by decide +kernel
theorem dX0_lastStays_47 : decode cX0_lastStays 47 = .ok (.isub, 1) := by decide +kernel
theorem dX0_lastStays_48 : decode cX0_lastStays 48 = .ok (.iaload, 1) := by decide +kernel
theorem dX0_lastStays_49 : decode cX0_lastStays 49 = .ok (.aload_n 0, 1) := by decide +kernel
theorem dX0_lastStays_50 : decode cX0_lastStays 50 = .ok (.getfield 33, 3) := by decide +kernel
theorem dX0_lastStays_53 : decode cX0_lastStays 53 = .ok (.aload_n 0, 1) := by decide +kernel
theorem dX0_lastStays_54 : decode cX0_lastStays 54 = .ok (.getfield 9, 3) := by decide +kernel
theorem dX0_lastStays_57 : decode cX0_lastStays 57 = .ok (.iconst 1, 1) := by decide +kernel
theorem dX0_lastStays_58 : decode cX0_lastStays 58 = .ok (.isub, 1) := by decide +kernel
theorem dX0_lastStays_59 : decode cX0_lastStays 59 = .ok (.iaload, 1) := by decide +kernel
theorem dX0_lastStays_60 : decode cX0_lastStays 60 = .ok (.iload 4, 2) := by decide +kernel
theorem dX0_lastStays_62 : decode cX0_lastStays 62 = .ok (.iload 5, 2) := by decide +kernel
theorem dX0_lastStays_64 : decode cX0_lastStays 64 = .ok (.invokevirtual 39, 3) := by decide +kernel
theorem dX0_lastStays_67 : decode cX0_lastStays 67 = .ok (.lstore 6, 2) := by decide +kernel
theorem dX0_lastStays_69 : decode cX0_lastStays 69 = .ok (.iload_n 3, 1) := by decide +kernel
theorem dX0_lastStays_70 : decode cX0_lastStays 70 = .ok (.ifCond .ne 18, 3) := by decide +kernel
theorem dX0_lastStays_73 : decode cX0_lastStays 73 = .ok (.lload 6, 2) := by decide +kernel
theorem dX0_lastStays_75 : decode cX0_lastStays 75 = .ok (.lconst 0, 1) := by decide +kernel
theorem dX0_lastStays_76 : decode cX0_lastStays 76 = .ok (.lcmp, 1) := by decide +kernel
theorem dX0_lastStays_77 : decode cX0_lastStays 77 = .ok (.ifCond .ge 7, 3) := by decide +kernel
theorem dX0_lastStays_80 : decode cX0_lastStays 80 = .ok (.iconst 1, 1) := by decide +kernel
theorem dX0_lastStays_81 : decode cX0_lastStays 81 = .ok (.goto 19, 3) := by decide +kernel
theorem dX0_lastStays_84 : decode cX0_lastStays 84 = .ok (.iconst 0, 1) := by decide +kernel
theorem dX0_lastStays_85 : decode cX0_lastStays 85 = .ok (.goto 15, 3) := by decide +kernel
theorem dX0_lastStays_88 : decode cX0_lastStays 88 = .ok (.lload 6, 2) := by decide +kernel
theorem dX0_lastStays_90 : decode cX0_lastStays 90 = .ok (.lconst 0, 1) := by decide +kernel
theorem dX0_lastStays_91 : decode cX0_lastStays 91 = .ok (.lcmp, 1) := by decide +kernel
theorem dX0_lastStays_92 : decode cX0_lastStays 92 = .ok (.ifCond .le 7, 3) := by decide +kernel
theorem dX0_lastStays_95 : decode cX0_lastStays 95 = .ok (.iconst 1, 1) := by decide +kernel
theorem dX0_lastStays_96 : decode cX0_lastStays 96 = .ok (.goto 4, 3) := by decide +kernel
theorem dX0_lastStays_99 : decode cX0_lastStays 99 = .ok (.iconst 0, 1) := by decide +kernel
theorem dX0_lastStays_100 : decode cX0_lastStays 100 = .ok (.ireturn, 1) := by decide +kernel
theorem dX0_lastBefore_0 : decode cX0_lastBefore 0 = .ok (.aload_n 0, 1) := by decide +kernel
theorem dX0_lastBefore_1 : decode cX0_lastBefore 1 = .ok (.getfield 9, 3) := by decide +kernel
theorem dX0_lastBefore_4 : decode cX0_lastBefore 4 = .ok (.iconst 1, 1) := by decide +kernel
theorem dX0_lastBefore_5 : decode cX0_lastBefore 5 = .ok (.isub, 1) := by decide +kernel
theorem dX0_lastBefore_6 : decode cX0_lastBefore 6 = .ok (.istore_n 2, 1) := by decide +kernel
theorem dX0_lastBefore_7 : decode cX0_lastBefore 7 = .ok (.iload_n 2, 1) := by decide +kernel
theorem dX0_lastBefore_8 : decode cX0_lastBefore 8 = .ok (.ifCond .lt 26, 3) := by decide +kernel
theorem dX0_lastBefore_11 : decode cX0_lastBefore 11 = .ok (.aload_n 0, 1) := by decide +kernel
theorem dX0_lastBefore_12 : decode cX0_lastBefore 12 = .ok (.getfield 33, 3) := by decide +kernel
theorem dX0_lastBefore_15 : decode cX0_lastBefore 15 = .ok (.iload_n 2, 1) := by decide +kernel
theorem dX0_lastBefore_16 : decode cX0_lastBefore 16 = .ok (.iaload, 1) := by decide +kernel
theorem dX0_lastBefore_17 : decode cX0_lastBefore 17 = .ok (.iload_n 1, 1) := by decide +kernel
theorem dX0_lastBefore_18 : decode cX0_lastBefore 18 = .ok (.if_icmp .ge 10, 3) := by decide +kernel
theorem dX0_lastBefore_21 : decode cX0_lastBefore 21 = .ok (.aload_n 0, 1) := by decide +kernel
theorem dX0_lastBefore_22 : decode cX0_lastBefore 22 = .ok (.getfield 33, 3) := by decide +kernel
theorem dX0_lastBefore_25 : decode cX0_lastBefore 25 = .ok (.iload_n 2, 1) := by decide +kernel
theorem dX0_lastBefore_26 : decode cX0_lastBefore 26 = .ok (.iaload, 1) := by decide +kernel
theorem dX0_lastBefore_27 : decode cX0_lastBefore 27 = .ok (.ireturn, 1) := by decide +kernel
theorem dX0_lastBefore_28 : decode cX0_lastBefore 28 = .ok (.iinc 2 (-1), 3) := by decide +kernel
theorem dX0_lastBefore_31 : decode cX0_lastBefore 31 = .ok (.goto (-24), 3) := by decide +kernel
theorem dX0_lastBefore_34 : decode cX0_lastBefore 34 = .ok (.bipush (-6), 2) := by decide +kernel
theorem dX0_lastBefore_36 : decode cX0_lastBefore 36 = .ok (.ireturn, 1) := by decide +kernel
theorem dX0_firstFrom_0 : decode cX0_firstFrom 0 = .ok (.iconst 0, 1) := by decide +kernel
theorem dX0_firstFrom_1 : decode cX0_firstFrom 1 = .ok (.istore_n 2, 1) := by decide +kernel
theorem dX0_firstFrom_2 : decode cX0_firstFrom 2 = .ok (.iload_n 2, 1) := by decide +kernel
theorem dX0_firstFrom_3 : decode cX0_firstFrom 3 = .ok (.aload_n 0, 1) := by decide +kernel
theorem dX0_firstFrom_4 : decode cX0_firstFrom 4 = .ok (.getfield 9, 3) := by decide +kernel
theorem dX0_firstFrom_7 : decode cX0_firstFrom 7 = .ok (.if_icmp .ge 26, 3) := by decide +kernel
theorem dX0_firstFrom_10 : decode cX0_firstFrom 10 = .ok (.aload_n 0, 1) := by decide +kernel
theorem dX0_firstFrom_11 : decode cX0_firstFrom 11 = .ok (.getfield 33, 3) := by decide +kernel
theorem dX0_firstFrom_14 : decode cX0_firstFrom 14 = .ok (.iload_n 2, 1) := by decide +kernel
theorem dX0_firstFrom_15 : decode cX0_firstFrom 15 = .ok (.iaload, 1) := by decide +kernel
theorem dX0_firstFrom_16 : decode cX0_firstFrom 16 = .ok (.iload_n 1, 1) := by decide +kernel
theorem dX0_firstFrom_17 : decode cX0_firstFrom 17 = .ok (.if_icmp .lt 10, 3) := by decide +kernel
theorem dX0_firstFrom_20 : decode cX0_firstFrom 20 = .ok (.aload_n 0, 1) := by decide +kernel
theorem dX0_firstFrom_21 : decode cX0_firstFrom 21 = .ok (.getfield 33, 3) := by decide +kernel
theorem dX0_firstFrom_24 : decode cX0_firstFrom 24 = .ok (.iload_n 2, 1) := by decide +kernel
theorem dX0_firstFrom_25 : decode cX0_firstFrom 25 = .ok (.iaload, 1) := by decide +kernel
theorem dX0_firstFrom_26 : decode cX0_firstFrom 26 = .ok (.ireturn, 1) := by decide +kernel
theorem dX0_firstFrom_27 : decode cX0_firstFrom 27 = .ok (.iinc 2 1, 3) := by decide +kernel
theorem dX0_firstFrom_30 : decode cX0_firstFrom 30 = .ok (.goto (-28), 3) := by decide +kernel
theorem dX0_firstFrom_33 : decode cX0_firstFrom 33 = .ok (.bipush (-6), 2) := by decide +kernel
theorem dX0_firstFrom_35 : decode cX0_firstFrom 35 = .ok (.ireturn, 1) := by decide +kernel
theorem dX1_init_0 : decode cX1_init 0 = .ok (.aload_n 0, 1) := by decide +kernel
theorem dX1_init_1 : decode cX1_init 1 = .ok (.invokespecial 3, 3) := by decide +kernel
theorem dX1_init_4 : decode cX1_init 4 = .ok (.aload_n 0, 1) := by decide +kernel
theorem dX1_init_5 : decode cX1_init 5 = .ok (.bipush 32, 2) := by decide +kernel
theorem dX1_init_7 : decode cX1_init 7 = .ok (.newarray .int, 2) := by decide +kernel
theorem dX1_init_9 : decode cX1_init 9 = .ok (.putfield 9, 3) := by decide +kernel
theorem dX1_init_12 : decode cX1_init 12 = .ok (.aload_n 0, 1) := by decide +kernel
theorem dX1_init_13 : decode cX1_init 13 = .ok (.iconst 0, 1) := by decide +kernel
theorem dX1_init_14 : decode cX1_init 14 = .ok (.putfield 15, 3) := by decide +kernel
theorem dX1_init_17 : decode cX1_init 17 = .ok (.return_, 1) := by decide +kernel
theorem dX1_rankAt_0 : decode cX1_rankAt 0 = .ok (.iload_n 1, 1) := by decide +kernel
theorem dX1_rankAt_1 : decode cX1_rankAt 1 = .ok (.ifCond .lt 20, 3) := by decide +kernel
theorem dX1_rankAt_4 : decode cX1_rankAt 4 = .ok (.iload_n 1, 1) := by decide +kernel
theorem dX1_rankAt_5 : decode cX1_rankAt 5 = .ok (.aload_n 0, 1) := by decide +kernel
theorem dX1_rankAt_6 : decode cX1_rankAt 6 = .ok (.getfield 15, 3) := by decide +kernel
theorem dX1_rankAt_9 : decode cX1_rankAt 9 = .ok (.if_icmp .ge 12, 3) := by decide +kernel
theorem dX1_rankAt_12 : decode cX1_rankAt 12 = .ok (.aload_n 0, 1) := by decide +kernel
theorem dX1_rankAt_13 : decode cX1_rankAt 13 = .ok (.getfield 9, 3) := by decide +kernel
theorem dX1_rankAt_16 : decode cX1_rankAt 16 = .ok (.iload_n 1, 1) := by decide +kernel
theorem dX1_rankAt_17 : decode cX1_rankAt 17 = .ok (.iaload, 1) := by decide +kernel
theorem dX1_rankAt_18 : decode cX1_rankAt 18 = .ok (.goto 5, 3) := by decide +kernel
theorem dX1_rankAt_21 : decode cX1_rankAt 21 = .ok (.bipush (-6), 2) := by decide +kernel
theorem dX1_rankAt_23 : decode cX1_rankAt 23 = .ok (.ireturn, 1) := by decide +kernel
theorem dX1_has_0 : decode cX1_has 0 = .ok (.iconst 0, 1) := by decide +kernel
theorem dX1_has_1 : decode cX1_has 1 = .ok (.istore_n 2, 1) := by decide +kernel
theorem dX1_has_2 : decode cX1_has 2 = .ok (.iload_n 2, 1) := by decide +kernel
theorem dX1_has_3 : decode cX1_has 3 = .ok (.aload_n 0, 1) := by decide +kernel
theorem dX1_has_4 : decode cX1_has 4 = .ok (.getfield 15, 3) := by decide +kernel
theorem dX1_has_7 : decode cX1_has 7 = .ok (.if_icmp .ge 21, 3) := by decide +kernel
theorem dX1_has_10 : decode cX1_has 10 = .ok (.aload_n 0, 1) := by decide +kernel
theorem dX1_has_11 : decode cX1_has 11 = .ok (.getfield 9, 3) := by decide +kernel
theorem dX1_has_14 : decode cX1_has 14 = .ok (.iload_n 2, 1) := by decide +kernel
theorem dX1_has_15 : decode cX1_has 15 = .ok (.iaload, 1) := by decide +kernel
theorem dX1_has_16 : decode cX1_has 16 = .ok (.iload_n 1, 1) := by decide +kernel
theorem dX1_has_17 : decode cX1_has 17 = .ok (.if_icmp .ne 5, 3) := by decide +kernel
theorem dX1_has_20 : decode cX1_has 20 = .ok (.iconst 1, 1) := by decide +kernel
theorem dX1_has_21 : decode cX1_has 21 = .ok (.ireturn, 1) := by decide +kernel
theorem dX1_has_22 : decode cX1_has 22 = .ok (.iinc 2 1, 3) := by decide +kernel
theorem dX1_has_25 : decode cX1_has 25 = .ok (.goto (-23), 3) := by decide +kernel
theorem dX1_has_28 : decode cX1_has 28 = .ok (.iconst 0, 1) := by decide +kernel
theorem dX1_has_29 : decode cX1_has 29 = .ok (.ireturn, 1) := by decide +kernel
theorem dX1_append_0 : decode cX1_append 0 = .ok (.aload_n 0, 1) := by decide +kernel
theorem dX1_append_1 : decode cX1_append 1 = .ok (.getfield 15, 3) := by decide +kernel
theorem dX1_append_4 : decode cX1_append 4 = .ok (.bipush 32, 2) := by decide +kernel
theorem dX1_append_6 : decode cX1_append 6 = .ok (.if_icmp .ge 23, 3) := by decide +kernel
theorem dX1_append_9 : decode cX1_append 9 = .ok (.aload_n 0, 1) := by decide +kernel
theorem dX1_append_10 : decode cX1_append 10 = .ok (.getfield 9, 3) := by decide +kernel
theorem dX1_append_13 : decode cX1_append 13 = .ok (.aload_n 0, 1) := by decide +kernel
theorem dX1_append_14 : decode cX1_append 14 = .ok (.getfield 15, 3) := by decide +kernel
theorem dX1_append_17 : decode cX1_append 17 = .ok (.iload_n 1, 1) := by decide +kernel
theorem dX1_append_18 : decode cX1_append 18 = .ok (.iastore, 1) := by decide +kernel
theorem dX1_append_19 : decode cX1_append 19 = .ok (.aload_n 0, 1) := by decide +kernel
theorem dX1_append_20 : decode cX1_append 20 = .ok (.dup, 1) := by decide +kernel
theorem dX1_append_21 : decode cX1_append 21 = .ok (.getfield 15, 3) := by decide +kernel
theorem dX1_append_24 : decode cX1_append 24 = .ok (.iconst 1, 1) := by decide +kernel
theorem dX1_append_25 : decode cX1_append 25 = .ok (.iadd, 1) := by decide +kernel
theorem dX1_append_26 : decode cX1_append 26 = .ok (.putfield 15, 3) := by decide +kernel
theorem dX1_append_29 : decode cX1_append 29 = .ok (.return_, 1) := by decide +kernel
theorem dX2_init_0 : decode cX2_init 0 = .ok (.aload_n 0, 1) := by decide +kernel
theorem dX2_init_1 : decode cX2_init 1 = .ok (.invokespecial 3, 3) := by decide +kernel
theorem dX2_init_4 : decode cX2_init 4 = .ok (.aload_n 0, 1) := by decide +kernel
theorem dX2_init_5 : decode cX2_init 5 = .ok (.bipush 64, 2) := by decide +kernel
theorem dX2_init_7 : decode cX2_init 7 = .ok (.newarray .int, 2) := by decide +kernel
theorem dX2_init_9 : decode cX2_init 9 = .ok (.putfield 9, 3) := by decide +kernel
theorem dX2_init_12 : decode cX2_init 12 = .ok (.aload_n 0, 1) := by decide +kernel
theorem dX2_init_13 : decode cX2_init 13 = .ok (.bipush 64, 2) := by decide +kernel
theorem dX2_init_15 : decode cX2_init 15 = .ok (.newarray .int, 2) := by decide +kernel
theorem dX2_init_17 : decode cX2_init 17 = .ok (.putfield 15, 3) := by decide +kernel
theorem dX2_init_20 : decode cX2_init 20 = .ok (.return_, 1) := by decide +kernel
set_option maxRecDepth 20000 in
theorem ggX2_split_X2_splitPart : GoodIn wsX2_split wsX2_splitPart := goodIn_r _ [7, 2, 1, 8, 9] (by decide +kernel) (by decide +kernel)
set_option maxRecDepth 20000 in
theorem gX2_split_X2_splitPart : GoodIn wsX2_split (wsV RX2 18 RX2 yX2_splitPart wsX2_splitPart) := goodIn_app (goodIn_of _ (by decide +kernel)) ggX2_split_X2_splitPart
theorem dX2_split_0 : decode cX2_split 0 = .ok (.aload_n 0, 1) := by decide +kernel
theorem dX2_split_1 : decode cX2_split 1 = .ok (.getfield 9, 3) := by decide +kernel
theorem dX2_split_4 : decode cX2_split 4 = .ok (.iconst 1, 1) := by decide +kernel
theorem dX2_split_5 : decode cX2_split 5 = .ok (.iconst 0, 1) := by decide +kernel
theorem dX2_split_6 : decode cX2_split 6 = .ok (.iastore, 1) := by decide +kernel
theorem dX2_split_7 : decode cX2_split 7 = .ok (.aload_n 0, 1) := by decide +kernel
theorem dX2_split_8 : decode cX2_split 8 = .ok (.getfield 15, 3) := by decide +kernel
theorem dX2_split_11 : decode cX2_split 11 = .ok (.iconst 1, 1) := by decide +kernel
theorem dX2_split_12 : decode cX2_split 12 = .ok (.iload_n 1, 1) := by decide +kernel
theorem dX2_split_13 : decode cX2_split 13 = .ok (.iastore, 1) := by decide +kernel
theorem dX2_split_14 : decode cX2_split 14 = .ok (.iconst 1, 1) := by decide +kernel
theorem dX2_split_15 : decode cX2_split 15 = .ok (.istore_n 2, 1) := by decide +kernel
theorem dX2_split_16 : decode cX2_split 16 = .ok (.iconst 2, 1) := by decide +kernel
theorem dX2_split_17 : decode cX2_split 17 = .ok (.iload_n 2, 1) := by decide +kernel
theorem dX2_split_18 : decode cX2_split 18 = .ok (.imul, 1) := by decide +kernel
theorem dX2_split_19 : decode cX2_split 19 = .ok (.iconst 1, 1) := by decide +kernel
theorem dX2_split_20 : decode cX2_split 20 = .ok (.iadd, 1) := by decide +kernel
theorem dX2_split_21 : decode cX2_split 21 = .ok (.bipush 63, 2) := by decide +kernel
theorem dX2_split_23 : decode cX2_split 23 = .ok (.if_icmp .gt 14, 3) := by decide +kernel
theorem dX2_split_26 : decode cX2_split 26 = .ok (.aload_n 0, 1) := by decide +kernel
theorem dX2_split_27 : decode cX2_split 27 = .ok (.iload_n 2, 1) := by decide +kernel
theorem dX2_split_28 : decode cX2_split 28 = .ok (.invokevirtual 18, 3) := by decide +kernel
theorem dX2_split_31 : decode cX2_split 31 = .ok (.iinc 2 1, 3) := by decide +kernel
theorem dX2_split_34 : decode cX2_split 34 = .ok (.goto (-18), 3) := by decide +kernel
theorem dX2_split_37 : decode cX2_split 37 = .ok (.return_, 1) := by decide +kernel
theorem dX2_splitPart_0 : decode cX2_splitPart 0 = .ok (.aload_n 0, 1) := by decide +kernel
theorem dX2_splitPart_1 : decode cX2_splitPart 1 = .ok (.getfield 15, 3) := by decide +kernel
theorem dX2_splitPart_4 : decode cX2_splitPart 4 = .ok (.iload_n 1, 1) := by decide +kernel
theorem dX2_splitPart_5 : decode cX2_splitPart 5 = .ok (.iaload, 1) := by decide +kernel
theorem dX2_splitPart_6 : decode cX2_splitPart 6 = .ok (.istore_n 2, 1) := by decide +kernel
theorem dX2_splitPart_7 : decode cX2_splitPart 7 = .ok (.iload_n 2, 1) := by decide +kernel
theorem dX2_splitPart_8 : decode cX2_splitPart 8 = .ok (.iconst 1, 1) := by decide +kernel
theorem dX2_splitPart_9 : decode cX2_splitPart 9 = .ok (.if_icmp .le 7, 3) := by decide +kernel
theorem dX2_splitPart_12 : decode cX2_splitPart 12 = .ok (.iconst 1, 1) := by decide +kernel
theorem dX2_splitPart_13 : decode cX2_splitPart 13 = .ok (.goto 4, 3) := by decide +kernel
theorem dX2_splitPart_16 : decode cX2_splitPart 16 = .ok (.iconst 0, 1) := by decide +kernel
theorem dX2_splitPart_17 : decode cX2_splitPart 17 = .ok (.istore_n 3, 1) := by decide +kernel
theorem dX2_splitPart_18 : decode cX2_splitPart 18 = .ok (.iload_n 2, 1) := by decide +kernel
theorem dX2_splitPart_19 : decode cX2_splitPart 19 = .ok (.iconst 1, 1) := by decide +kernel
theorem dX2_splitPart_20 : decode cX2_splitPart 20 = .ok (.iadd, 1) := by decide +kernel
theorem dX2_splitPart_21 : decode cX2_splitPart 21 = .ok (.iconst 2, 1) := by decide +kernel
theorem dX2_splitPart_22 : decode cX2_splitPart 22 = .ok (.idiv, 1) := by decide +kernel
theorem dX2_splitPart_23 : decode cX2_splitPart 23 = .ok (.istore 4, 2) := by decide +kernel
theorem dX2_splitPart_25 : decode cX2_splitPart 25 = .ok (.aload_n 0, 1) := by decide +kernel
theorem dX2_splitPart_26 : decode cX2_splitPart 26 = .ok (.getfield 9, 3) := by decide +kernel
theorem dX2_splitPart_29 : decode cX2_splitPart 29 = .ok (.iconst 2, 1) := by decide +kernel
theorem dX2_splitPart_30 : decode cX2_splitPart 30 = .ok (.iload_n 1, 1) := by decide +kernel
theorem dX2_splitPart_31 : decode cX2_splitPart 31 = .ok (.imul, 1) := by decide +kernel
theorem dX2_splitPart_32 : decode cX2_splitPart 32 = .ok (.aload_n 0, 1) := by decide +kernel
theorem dX2_splitPart_33 : decode cX2_splitPart 33 = .ok (.getfield 9, 3) := by decide +kernel
theorem dX2_splitPart_36 : decode cX2_splitPart 36 = .ok (.iload_n 1, 1) := by decide +kernel
theorem dX2_splitPart_37 : decode cX2_splitPart 37 = .ok (.iaload, 1) := by decide +kernel
theorem dX2_splitPart_38 : decode cX2_splitPart 38 = .ok (.iastore, 1) := by decide +kernel
theorem dX2_splitPart_39 : decode cX2_splitPart 39 = .ok (.aload_n 0, 1) := by decide +kernel
theorem dX2_splitPart_40 : decode cX2_splitPart 40 = .ok (.getfield 15, 3) := by decide +kernel
theorem dX2_splitPart_43 : decode cX2_splitPart 43 = .ok (.iconst 2, 1) := by decide +kernel
theorem dX2_splitPart_44 : decode cX2_splitPart 44 = .ok (.iload_n 1, 1) := by decide +kernel
theorem dX2_splitPart_45 : decode cX2_splitPart 45 = .ok (.imul, 1) := by decide +kernel
theorem dX2_splitPart_46 : decode cX2_splitPart 46 = .ok (.iload_n 3, 1) := by decide +kernel
theorem dX2_splitPart_47 : decode cX2_splitPart 47 = .ok (.ifCond .eq 8, 3) := by decide +kernel
theorem dX2_splitPart_50 : decode cX2_splitPart 50 = .ok (.iload 4, 2) := by decide +kernel
theorem dX2_splitPart_52 : decode cX2_splitPart 52 = .ok (.goto 4, 3) := by decide +kernel
theorem dX2_splitPart_55 : decode cX2_splitPart 55 = .ok (.iconst 0, 1) := by decide +kernel
theorem dX2_splitPart_56 : decode cX2_splitPart 56 = .ok (.iastore, 1) := by decide +kernel
theorem dX2_splitPart_57 : decode cX2_splitPart 57 = .ok (.aload_n 0, 1) := by decide +kernel
theorem dX2_splitPart_58 : decode cX2_splitPart 58 = .ok (.getfield 9, 3) := by decide +kernel
theorem dX2_splitPart_61 : decode cX2_splitPart 61 = .ok (.iconst 2, 1) := by decide +kernel
theorem dX2_splitPart_62 : decode cX2_splitPart 62 = .ok (.iload_n 1, 1) := by decide +kernel
theorem dX2_splitPart_63 : decode cX2_splitPart 63 = .ok (.imul, 1) := by decide +kernel
theorem dX2_splitPart_64 : decode cX2_splitPart 64 = .ok (.iconst 1, 1) := by decide +kernel
theorem dX2_splitPart_65 : decode cX2_splitPart 65 = .ok (.iadd, 1) := by decide +kernel
theorem dX2_splitPart_66 : decode cX2_splitPart 66 = .ok (.aload_n 0, 1) := by decide +kernel
theorem dX2_splitPart_67 : decode cX2_splitPart 67 = .ok (.getfield 9, 3) := by decide +kernel
theorem dX2_splitPart_70 : decode cX2_splitPart 70 = .ok (.iload_n 1, 1) := by decide +kernel
theorem dX2_splitPart_71 : decode cX2_splitPart 71 = .ok (.iaload, 1) := by decide +kernel
theorem dX2_splitPart_72 : decode cX2_splitPart 72 = .ok (.iload 4, 2) := by decide +kernel
theorem dX2_splitPart_74 : decode cX2_splitPart 74 = .ok (.iadd, 1) := by decide +kernel
theorem dX2_splitPart_75 : decode cX2_splitPart 75 = .ok (.iastore, 1) := by decide +kernel
theorem dX2_splitPart_76 : decode cX2_splitPart 76 = .ok (.aload_n 0, 1) := by decide +kernel
theorem dX2_splitPart_77 : decode cX2_splitPart 77 = .ok (.getfield 15, 3) := by decide +kernel
theorem dX2_splitPart_80 : decode cX2_splitPart 80 = .ok (.iconst 2, 1) := by decide +kernel
theorem dX2_splitPart_81 : decode cX2_splitPart 81 = .ok (.iload_n 1, 1) := by decide +kernel
theorem dX2_splitPart_82 : decode cX2_splitPart 82 = .ok (.imul, 1) := by decide +kernel
theorem dX2_splitPart_83 : decode cX2_splitPart 83 = .ok (.iconst 1, 1) := by decide +kernel
theorem dX2_splitPart_84 : decode cX2_splitPart 84 = .ok (.iadd, 1) := by decide +kernel
theorem dX2_splitPart_85 : decode cX2_splitPart 85 = .ok (.iload_n 3, 1) := by decide +kernel
theorem dX2_splitPart_86 : decode cX2_splitPart 86 = .ok (.ifCond .eq 10, 3) := by decide +kernel
theorem dX2_splitPart_89 : decode cX2_splitPart 89 = .ok (.iload_n 2, 1) := by decide +kernel
theorem dX2_splitPart_90 : decode cX2_splitPart 90 = .ok (.iload 4, 2) := by decide +kernel
theorem dX2_splitPart_92 : decode cX2_splitPart 92 = .ok (.isub, 1) := by decide +kernel
theorem dX2_splitPart_93 : decode cX2_splitPart 93 = .ok (.goto 4, 3) := by decide +kernel
theorem dX2_splitPart_96 : decode cX2_splitPart 96 = .ok (.iconst 0, 1) := by decide +kernel
theorem dX2_splitPart_97 : decode cX2_splitPart 97 = .ok (.iastore, 1) := by decide +kernel
theorem dX2_splitPart_98 : decode cX2_splitPart 98 = .ok (.return_, 1) := by decide +kernel
theorem dX2_has_0 : decode cX2_has 0 = .ok (.iload_n 1, 1) := by decide +kernel
theorem dX2_has_1 : decode cX2_has 1 = .ok (.iconst 1, 1) := by decide +kernel
theorem dX2_has_2 : decode cX2_has 2 = .ok (.if_icmp .lt 22, 3) := by decide +kernel
theorem dX2_has_5 : decode cX2_has 5 = .ok (.iload_n 1, 1) := by decide +kernel
theorem dX2_has_6 : decode cX2_has 6 = .ok (.bipush 63, 2) := by decide +kernel
theorem dX2_has_8 : decode cX2_has 8 = .ok (.if_icmp .gt 16, 3) := by decide +kernel
theorem dX2_has_11 : decode cX2_has 11 = .ok (.aload_n 0, 1) := by decide +kernel
theorem dX2_has_12 : decode cX2_has 12 = .ok (.getfield 15, 3) := by decide +kernel
theorem dX2_has_15 : decode cX2_has 15 = .ok (.iload_n 1, 1) := by decide +kernel
theorem dX2_has_16 : decode cX2_has 16 = .ok (.iaload, 1) := by decide +kernel
theorem dX2_has_17 : decode cX2_has 17 = .ok (.ifCond .le 7, 3) := by decide +kernel
theorem dX2_has_20 : decode cX2_has 20 = .ok (.iconst 1, 1) := by decide +kernel
theorem dX2_has_21 : decode cX2_has 21 = .ok (.goto 4, 3) := by decide +kernel
theorem dX2_has_24 : decode cX2_has 24 = .ok (.iconst 0, 1) := by decide +kernel
theorem dX2_has_25 : decode cX2_has 25 = .ok (.ireturn, 1) := by decide +kernel
set_option maxRecDepth 20000 in
theorem ggX2_hasHalves_X2_has : GoodIn wsX2_hasHalves wsX2_has := goodIn_r _ [6, 1, 7, 8] (by decide +kernel) (by decide +kernel)
set_option maxRecDepth 20000 in
theorem gX2_hasHalves_X2_has : GoodIn wsX2_hasHalves (wsV RX2 22 RX2 yX2_has wsX2_has) := goodIn_app (goodIn_of _ (by decide +kernel)) ggX2_hasHalves_X2_has
theorem dX2_hasHalves_0 : decode cX2_hasHalves 0 = .ok (.aload_n 0, 1) := by decide +kernel
theorem dX2_hasHalves_1 : decode cX2_hasHalves 1 = .ok (.iload_n 1, 1) := by decide +kernel
theorem dX2_hasHalves_2 : decode cX2_hasHalves 2 = .ok (.invokevirtual 22, 3) := by decide +kernel
theorem dX2_hasHalves_5 : decode cX2_hasHalves 5 = .ok (.ifCond .eq 23, 3) := by decide +kernel
theorem dX2_hasHalves_8 : decode cX2_hasHalves 8 = .ok (.iload_n 1, 1) := by decide +kernel
theorem dX2_hasHalves_9 : decode cX2_hasHalves 9 = .ok (.bipush 31, 2) := by decide +kernel
theorem dX2_hasHalves_11 : decode cX2_hasHalves 11 = .ok (.if_icmp .gt 17, 3) := by decide +kernel
theorem dX2_hasHalves_14 : decode cX2_hasHalves 14 = .ok (.aload_n 0, 1) := by decide +kernel
theorem dX2_hasHalves_15 : decode cX2_hasHalves 15 = .ok (.getfield 15, 3) := by decide +kernel
theorem dX2_hasHalves_18 : decode cX2_hasHalves 18 = .ok (.iload_n 1, 1) := by decide +kernel
theorem dX2_hasHalves_19 : decode cX2_hasHalves 19 = .ok (.iaload, 1) := by decide +kernel
theorem dX2_hasHalves_20 : decode cX2_hasHalves 20 = .ok (.iconst 1, 1) := by decide +kernel
theorem dX2_hasHalves_21 : decode cX2_hasHalves 21 = .ok (.if_icmp .le 7, 3) := by decide +kernel
theorem dX2_hasHalves_24 : decode cX2_hasHalves 24 = .ok (.iconst 1, 1) := by decide +kernel
theorem dX2_hasHalves_25 : decode cX2_hasHalves 25 = .ok (.goto 4, 3) := by decide +kernel
theorem dX2_hasHalves_28 : decode cX2_hasHalves 28 = .ok (.iconst 0, 1) := by decide +kernel
theorem dX2_hasHalves_29 : decode cX2_hasHalves 29 = .ok (.ireturn, 1) := by decide +kernel
set_option maxRecDepth 20000 in
theorem ggX2_holds_X2_has : GoodIn wsX2_holds wsX2_has := goodIn_r _ [7, 2, 8, 9] (by decide +kernel) (by decide +kernel)
set_option maxRecDepth 20000 in
theorem gX2_holds_X2_has : GoodIn wsX2_holds (wsV RX2 22 RX2 yX2_has wsX2_has) := goodIn_app (goodIn_of _ (by decide +kernel)) ggX2_holds_X2_has
theorem dX2_holds_0 : decode cX2_holds 0 = .ok (.aload_n 0, 1) := by decide +kernel
theorem dX2_holds_1 : decode cX2_holds 1 = .ok (.iload_n 1, 1) := by decide +kernel
theorem dX2_holds_2 : decode cX2_holds 2 = .ok (.invokevirtual 22, 3) := by decide +kernel
theorem dX2_holds_5 : decode cX2_holds 5 = .ok (.ifCond .eq 34, 3) := by decide +kernel
theorem dX2_holds_8 : decode cX2_holds 8 = .ok (.iload_n 2, 1) := by decide +kernel
theorem dX2_holds_9 : decode cX2_holds 9 = .ok (.aload_n 0, 1) := by decide +kernel
theorem dX2_holds_10 : decode cX2_holds 10 = .ok (.getfield 9, 3) := by decide +kernel
theorem dX2_holds_13 : decode cX2_holds 13 = .ok (.iload_n 1, 1) := by decide +kernel
theorem dX2_holds_14 : decode cX2_holds 14 = .ok (.iaload, 1) := by decide +kernel
theorem dX2_holds_15 : decode cX2_holds 15 = .ok (.if_icmp .lt 24, 3) := by decide +kernel
theorem dX2_holds_18 : decode cX2_holds 18 = .ok (.iload_n 2, 1) := by decide +kernel
theorem dX2_holds_19 : decode cX2_holds 19 = .ok (.aload_n 0, 1) := by decide +kernel
theorem dX2_holds_20 : decode cX2_holds 20 = .ok (.getfield 9, 3) := by decide +kernel
theorem dX2_holds_23 : decode cX2_holds 23 = .ok (.iload_n 1, 1) := by decide +kernel
theorem dX2_holds_24 : decode cX2_holds 24 = .ok (.iaload, 1) := by decide +kernel
theorem dX2_holds_25 : decode cX2_holds 25 = .ok (.aload_n 0, 1) := by decide +kernel
theorem dX2_holds_26 : decode cX2_holds 26 = .ok (.getfield 15, 3) := by decide +kernel
theorem dX2_holds_29 : decode cX2_holds 29 = .ok (.iload_n 1, 1) := by decide +kernel
theorem dX2_holds_30 : decode cX2_holds 30 = .ok (.iaload, 1) := by decide +kernel
theorem dX2_holds_31 : decode cX2_holds 31 = .ok (.iadd, 1) := by decide +kernel
theorem dX2_holds_32 : decode cX2_holds 32 = .ok (.if_icmp .ge 7, 3) := by decide +kernel
theorem dX2_holds_35 : decode cX2_holds 35 = .ok (.iconst 1, 1) := by decide +kernel
theorem dX2_holds_36 : decode cX2_holds 36 = .ok (.goto 4, 3) := by decide +kernel
theorem dX2_holds_39 : decode cX2_holds 39 = .ok (.iconst 0, 1) := by decide +kernel
theorem dX2_holds_40 : decode cX2_holds 40 = .ok (.ireturn, 1) := by decide +kernel
set_option maxRecDepth 20000 in
theorem ggX2_howMany_X2_has : GoodIn wsX2_howMany wsX2_has := goodIn_r _ [5, 6, 7, 8] (by decide +kernel) (by decide +kernel)
set_option maxRecDepth 20000 in
theorem gX2_howMany_X2_has : GoodIn wsX2_howMany (wsV RX2 22 RX2 yX2_has wsX2_has) := goodIn_app (goodIn_of _ (by decide +kernel)) ggX2_howMany_X2_has
theorem dX2_howMany_0 : decode cX2_howMany 0 = .ok (.iconst 0, 1) := by decide +kernel
theorem dX2_howMany_1 : decode cX2_howMany 1 = .ok (.istore_n 1, 1) := by decide +kernel
theorem dX2_howMany_2 : decode cX2_howMany 2 = .ok (.iconst 1, 1) := by decide +kernel
theorem dX2_howMany_3 : decode cX2_howMany 3 = .ok (.istore_n 2, 1) := by decide +kernel
theorem dX2_howMany_4 : decode cX2_howMany 4 = .ok (.iload_n 2, 1) := by decide +kernel
theorem dX2_howMany_5 : decode cX2_howMany 5 = .ok (.bipush 63, 2) := by decide +kernel
theorem dX2_howMany_7 : decode cX2_howMany 7 = .ok (.if_icmp .gt 20, 3) := by decide +kernel
theorem dX2_howMany_10 : decode cX2_howMany 10 = .ok (.aload_n 0, 1) := by decide +kernel
theorem dX2_howMany_11 : decode cX2_howMany 11 = .ok (.iload_n 2, 1) := by decide +kernel
theorem dX2_howMany_12 : decode cX2_howMany 12 = .ok (.invokevirtual 22, 3) := by decide +kernel
theorem dX2_howMany_15 : decode cX2_howMany 15 = .ok (.ifCond .eq 6, 3) := by decide +kernel
theorem dX2_howMany_18 : decode cX2_howMany 18 = .ok (.iinc 1 1, 3) := by decide +kernel
theorem dX2_howMany_21 : decode cX2_howMany 21 = .ok (.iinc 2 1, 3) := by decide +kernel
theorem dX2_howMany_24 : decode cX2_howMany 24 = .ok (.goto (-20), 3) := by decide +kernel
theorem dX2_howMany_27 : decode cX2_howMany 27 = .ok (.iload_n 1, 1) := by decide +kernel
theorem dX2_howMany_28 : decode cX2_howMany 28 = .ok (.ireturn, 1) := by decide +kernel
set_option maxRecDepth 20000 in
theorem ggX2_greatestDepth_X2_has : GoodIn wsX2_greatestDepth wsX2_has := goodIn_r _ [5, 6, 10, 11] (by decide +kernel) (by decide +kernel)
set_option maxRecDepth 20000 in
theorem gX2_greatestDepth_X2_has : GoodIn wsX2_greatestDepth (wsV RX2 22 RX2 yX2_has wsX2_has) := goodIn_app (goodIn_of _ (by decide +kernel)) ggX2_greatestDepth_X2_has
set_option maxRecDepth 20000 in
theorem ggX2_greatestDepth_X2_depthOf : GoodIn wsX2_greatestDepth wsX2_depthOf := goodIn_r _ [9] (by decide +kernel) (by decide +kernel)
set_option maxRecDepth 20000 in
theorem gX2_greatestDepth_X2_depthOf : GoodIn wsX2_greatestDepth (va_wsS RX2 26 yX2_depthOf wsX2_depthOf) := goodIn_app (goodIn_of _ (by decide +kernel)) ggX2_greatestDepth_X2_depthOf
theorem dX2_greatestDepth_0 : decode cX2_greatestDepth 0 = .ok (.bipush 63, 2) := by decide +kernel
theorem dX2_greatestDepth_2 : decode cX2_greatestDepth 2 = .ok (.istore_n 1, 1) := by decide +kernel
theorem dX2_greatestDepth_3 : decode cX2_greatestDepth 3 = .ok (.iload_n 1, 1) := by decide +kernel
theorem dX2_greatestDepth_4 : decode cX2_greatestDepth 4 = .ok (.iconst 1, 1) := by decide +kernel
theorem dX2_greatestDepth_5 : decode cX2_greatestDepth 5 = .ok (.if_icmp .lt 22, 3) := by decide +kernel
theorem dX2_greatestDepth_8 : decode cX2_greatestDepth 8 = .ok (.aload_n 0, 1) := by decide +kernel
theorem dX2_greatestDepth_9 : decode cX2_greatestDepth 9 = .ok (.iload_n 1, 1) := by decide +kernel
theorem dX2_greatestDepth_10 : decode cX2_greatestDepth 10 = .ok (.invokevirtual 22, 3) := by decide +kernel
theorem dX2_greatestDepth_13 : decode cX2_greatestDepth 13 = .ok (.ifCond .eq 8, 3) := by decide +kernel
theorem dX2_greatestDepth_16 : decode cX2_greatestDepth 16 = .ok (.iload_n 1, 1) := by decide +kernel
theorem dX2_greatestDepth_17 : decode cX2_greatestDepth 17 = .ok (.invokestatic 26, 3) := by decide +kernel
theorem dX2_greatestDepth_20 : decode cX2_greatestDepth 20 = .ok (.ireturn, 1) := by decide +kernel
theorem dX2_greatestDepth_21 : decode cX2_greatestDepth 21 = .ok (.iinc 1 (-1), 3) := by decide +kernel
theorem dX2_greatestDepth_24 : decode cX2_greatestDepth 24 = .ok (.goto (-21), 3) := by decide +kernel
theorem dX2_greatestDepth_27 : decode cX2_greatestDepth 27 = .ok (.bipush (-6), 2) := by decide +kernel
theorem dX2_greatestDepth_29 : decode cX2_greatestDepth 29 = .ok (.ireturn, 1) := by decide +kernel
theorem dX2_depthOf_0 : decode cX2_depthOf 0 = .ok (.iconst 0, 1) := by decide +kernel
theorem dX2_depthOf_1 : decode cX2_depthOf 1 = .ok (.istore_n 1, 1) := by decide +kernel
theorem dX2_depthOf_2 : decode cX2_depthOf 2 = .ok (.iload_n 0, 1) := by decide +kernel
theorem dX2_depthOf_3 : decode cX2_depthOf 3 = .ok (.iconst 2, 1) := by decide +kernel
theorem dX2_depthOf_4 : decode cX2_depthOf 4 = .ok (.idiv, 1) := by decide +kernel
theorem dX2_depthOf_5 : decode cX2_depthOf 5 = .ok (.istore_n 2, 1) := by decide +kernel
theorem dX2_depthOf_6 : decode cX2_depthOf 6 = .ok (.iload_n 2, 1) := by decide +kernel
theorem dX2_depthOf_7 : decode cX2_depthOf 7 = .ok (.iconst 1, 1) := by decide +kernel
theorem dX2_depthOf_8 : decode cX2_depthOf 8 = .ok (.if_icmp .lt 13, 3) := by decide +kernel
theorem dX2_depthOf_11 : decode cX2_depthOf 11 = .ok (.iinc 1 1, 3) := by decide +kernel
theorem dX2_depthOf_14 : decode cX2_depthOf 14 = .ok (.iload_n 2, 1) := by decide +kernel
theorem dX2_depthOf_15 : decode cX2_depthOf 15 = .ok (.iconst 2, 1) := by decide +kernel
theorem dX2_depthOf_16 : decode cX2_depthOf 16 = .ok (.idiv, 1) := by decide +kernel
theorem dX2_depthOf_17 : decode cX2_depthOf 17 = .ok (.istore_n 2, 1) := by decide +kernel
theorem dX2_depthOf_18 : decode cX2_depthOf 18 = .ok (.goto (-12), 3) := by decide +kernel
theorem dX2_depthOf_21 : decode cX2_depthOf 21 = .ok (.iload_n 1, 1) := by decide +kernel
theorem dX2_depthOf_22 : decode cX2_depthOf 22 = .ok (.ireturn, 1) := by decide +kernel
theorem dX3_init_0 : decode cX3_init 0 = .ok (.aload_n 0, 1) := by decide +kernel
theorem dX3_init_1 : decode cX3_init 1 = .ok (.invokespecial 3, 3) := by decide +kernel
theorem dX3_init_4 : decode cX3_init 4 = .ok (.aload_n 0, 1) := by decide +kernel
theorem dX3_init_5 : decode cX3_init 5 = .ok (.bipush 32, 2) := by decide +kernel
theorem dX3_init_7 : decode cX3_init 7 = .ok (.newarray .int, 2) := by decide +kernel
theorem dX3_init_9 : decode cX3_init 9 = .ok (.putfield 9, 3) := by decide +kernel
theorem dX3_init_12 : decode cX3_init 12 = .ok (.aload_n 0, 1) := by decide +kernel
theorem dX3_init_13 : decode cX3_init 13 = .ok (.bipush 32, 2) := by decide +kernel
theorem dX3_init_15 : decode cX3_init 15 = .ok (.newarray .int, 2) := by decide +kernel
theorem dX3_init_17 : decode cX3_init 17 = .ok (.putfield 15, 3) := by decide +kernel
theorem dX3_init_20 : decode cX3_init 20 = .ok (.aload_n 0, 1) := by decide +kernel
theorem dX3_init_21 : decode cX3_init 21 = .ok (.bipush 32, 2) := by decide +kernel
theorem dX3_init_23 : decode cX3_init 23 = .ok (.newarray .int, 2) := by decide +kernel
theorem dX3_init_25 : decode cX3_init 25 = .ok (.putfield 18, 3) := by decide +kernel
theorem dX3_init_28 : decode cX3_init 28 = .ok (.aload_n 0, 1) := by decide +kernel
theorem dX3_init_29 : decode cX3_init 29 = .ok (.iconst 0, 1) := by decide +kernel
theorem dX3_init_30 : decode cX3_init 30 = .ok (.putfield 21, 3) := by decide +kernel
theorem dX3_init_33 : decode cX3_init 33 = .ok (.return_, 1) := by decide +kernel
theorem dX3_idAt_0 : decode cX3_idAt 0 = .ok (.iload_n 1, 1) := by decide +kernel
theorem dX3_idAt_1 : decode cX3_idAt 1 = .ok (.ifCond .lt 20, 3) := by decide +kernel
theorem dX3_idAt_4 : decode cX3_idAt 4 = .ok (.iload_n 1, 1) := by decide +kernel
theorem dX3_idAt_5 : decode cX3_idAt 5 = .ok (.aload_n 0, 1) := by decide +kernel
theorem dX3_idAt_6 : decode cX3_idAt 6 = .ok (.getfield 21, 3) := by decide +kernel
theorem dX3_idAt_9 : decode cX3_idAt 9 = .ok (.if_icmp .ge 12, 3) := by decide +kernel
theorem dX3_idAt_12 : decode cX3_idAt 12 = .ok (.aload_n 0, 1) := by decide +kernel
theorem dX3_idAt_13 : decode cX3_idAt 13 = .ok (.getfield 9, 3) := by decide +kernel
theorem dX3_idAt_16 : decode cX3_idAt 16 = .ok (.iload_n 1, 1) := by decide +kernel
theorem dX3_idAt_17 : decode cX3_idAt 17 = .ok (.iaload, 1) := by decide +kernel
theorem dX3_idAt_18 : decode cX3_idAt 18 = .ok (.goto 5, 3) := by decide +kernel
theorem dX3_idAt_21 : decode cX3_idAt 21 = .ok (.bipush (-6), 2) := by decide +kernel
theorem dX3_idAt_23 : decode cX3_idAt 23 = .ok (.ireturn, 1) := by decide +kernel
theorem dX3_rankOf_0 : decode cX3_rankOf 0 = .ok (.iconst 0, 1) := by decide +kernel
theorem dX3_rankOf_1 : decode cX3_rankOf 1 = .ok (.istore_n 2, 1) := by decide +kernel
theorem dX3_rankOf_2 : decode cX3_rankOf 2 = .ok (.iload_n 2, 1) := by decide +kernel
theorem dX3_rankOf_3 : decode cX3_rankOf 3 = .ok (.aload_n 0, 1) := by decide +kernel
theorem dX3_rankOf_4 : decode cX3_rankOf 4 = .ok (.getfield 21, 3) := by decide +kernel
theorem dX3_rankOf_7 : decode cX3_rankOf 7 = .ok (.if_icmp .ge 21, 3) := by decide +kernel
theorem dX3_rankOf_10 : decode cX3_rankOf 10 = .ok (.aload_n 0, 1) := by decide +kernel
theorem dX3_rankOf_11 : decode cX3_rankOf 11 = .ok (.getfield 9, 3) := by decide +kernel
theorem dX3_rankOf_14 : decode cX3_rankOf 14 = .ok (.iload_n 2, 1) := by decide +kernel
theorem dX3_rankOf_15 : decode cX3_rankOf 15 = .ok (.iaload, 1) := by decide +kernel
theorem dX3_rankOf_16 : decode cX3_rankOf 16 = .ok (.iload_n 1, 1) := by decide +kernel
theorem dX3_rankOf_17 : decode cX3_rankOf 17 = .ok (.if_icmp .ne 5, 3) := by decide +kernel
theorem dX3_rankOf_20 : decode cX3_rankOf 20 = .ok (.iload_n 2, 1) := by decide +kernel
theorem dX3_rankOf_21 : decode cX3_rankOf 21 = .ok (.ireturn, 1) := by decide +kernel
theorem dX3_rankOf_22 : decode cX3_rankOf 22 = .ok (.iinc 2 1, 3) := by decide +kernel
theorem dX3_rankOf_25 : decode cX3_rankOf 25 = .ok (.goto (-23), 3) := by decide +kernel
theorem dX3_rankOf_28 : decode cX3_rankOf 28 = .ok (.bipush (-6), 2) := by decide +kernel
theorem dX3_rankOf_30 : decode cX3_rankOf 30 = .ok (.ireturn, 1) := by decide +kernel
set_option maxRecDepth 20000 in
theorem ggX3_isTaken_X3_isAt : GoodIn wsX3_isTaken wsX3_isAt := goodIn_r _ [6, 7, 8, 9, 10, 11, 12] (by decide +kernel) (by decide +kernel)
set_option maxRecDepth 20000 in
theorem gX3_isTaken_X3_isAt : GoodIn wsX3_isTaken (wsV RX3 25 RX3 yX3_isAt wsX3_isAt) := goodIn_app (goodIn_of _ (by decide +kernel)) ggX3_isTaken_X3_isAt
theorem dX3_isTaken_0 : decode cX3_isTaken 0 = .ok (.iconst 0, 1) := by decide +kernel
theorem dX3_isTaken_1 : decode cX3_isTaken 1 = .ok (.istore_n 3, 1) := by decide +kernel
theorem dX3_isTaken_2 : decode cX3_isTaken 2 = .ok (.iload_n 3, 1) := by decide +kernel
theorem dX3_isTaken_3 : decode cX3_isTaken 3 = .ok (.aload_n 0, 1) := by decide +kernel
theorem dX3_isTaken_4 : decode cX3_isTaken 4 = .ok (.getfield 21, 3) := by decide +kernel
theorem dX3_isTaken_7 : decode cX3_isTaken 7 = .ok (.if_icmp .ge 21, 3) := by decide +kernel
theorem dX3_isTaken_10 : decode cX3_isTaken 10 = .ok (.aload_n 0, 1) := by decide +kernel
theorem dX3_isTaken_11 : decode cX3_isTaken 11 = .ok (.iload_n 3, 1) := by decide +kernel
theorem dX3_isTaken_12 : decode cX3_isTaken 12 = .ok (.iload_n 1, 1) := by decide +kernel
theorem dX3_isTaken_13 : decode cX3_isTaken 13 = .ok (.iload_n 2, 1) := by decide +kernel
theorem dX3_isTaken_14 : decode cX3_isTaken 14 = .ok (.invokevirtual 25, 3) := by decide +kernel
theorem dX3_isTaken_17 : decode cX3_isTaken 17 = .ok (.ifCond .eq 5, 3) := by decide +kernel
theorem dX3_isTaken_20 : decode cX3_isTaken 20 = .ok (.iconst 1, 1) := by decide +kernel
theorem dX3_isTaken_21 : decode cX3_isTaken 21 = .ok (.ireturn, 1) := by decide +kernel
theorem dX3_isTaken_22 : decode cX3_isTaken 22 = .ok (.iinc 3 1, 3) := by decide +kernel
theorem dX3_isTaken_25 : decode cX3_isTaken 25 = .ok (.goto (-23), 3) := by decide +kernel
theorem dX3_isTaken_28 : decode cX3_isTaken 28 = .ok (.iconst 0, 1) := by decide +kernel
theorem dX3_isTaken_29 : decode cX3_isTaken 29 = .ok (.ireturn, 1) := by decide +kernel
theorem dX3_isAt_0 : decode cX3_isAt 0 = .ok (.aload_n 0, 1) := by decide +kernel
theorem dX3_isAt_1 : decode cX3_isAt 1 = .ok (.getfield 15, 3) := by decide +kernel
theorem dX3_isAt_4 : decode cX3_isAt 4 = .ok (.iload_n 1, 1) := by decide +kernel
theorem dX3_isAt_5 : decode cX3_isAt 5 = .ok (.iaload, 1) := by decide +kernel
theorem dX3_isAt_6 : decode cX3_isAt 6 = .ok (.iload_n 2, 1) := by decide +kernel
theorem dX3_isAt_7 : decode cX3_isAt 7 = .ok (.if_icmp .ne 17, 3) := by decide +kernel
theorem dX3_isAt_10 : decode cX3_isAt 10 = .ok (.aload_n 0, 1) := by decide +kernel
theorem dX3_isAt_11 : decode cX3_isAt 11 = .ok (.getfield 18, 3) := by decide +kernel
theorem dX3_isAt_14 : decode cX3_isAt 14 = .ok (.iload_n 1, 1) := by decide +kernel
theorem dX3_isAt_15 : decode cX3_isAt 15 = .ok (.iaload, 1) := by decide +kernel
theorem dX3_isAt_16 : decode cX3_isAt 16 = .ok (.iload_n 3, 1) := by decide +kernel
theorem dX3_isAt_17 : decode cX3_isAt 17 = .ok (.if_icmp .ne 7, 3) := by decide +kernel
theorem dX3_isAt_20 : decode cX3_isAt 20 = .ok (.iconst 1, 1) := by decide +kernel
theorem dX3_isAt_21 : decode cX3_isAt 21 = .ok (.goto 4, 3) := by decide +kernel
theorem dX3_isAt_24 : decode cX3_isAt 24 = .ok (.iconst 0, 1) := by decide +kernel
theorem dX3_isAt_25 : decode cX3_isAt 25 = .ok (.ireturn, 1) := by decide +kernel
set_option maxRecDepth 20000 in
theorem ggX3_leastFreeId_X3_rankOf : GoodIn wsX3_leastFreeId wsX3_rankOf := goodIn_r _ [5, 6, 7, 8, 9, 10, 11] (by decide +kernel) (by decide +kernel)
set_option maxRecDepth 20000 in
theorem gX3_leastFreeId_X3_rankOf : GoodIn wsX3_leastFreeId (wsV RX3 29 RX3 yX3_rankOf wsX3_rankOf) := goodIn_app (goodIn_of _ (by decide +kernel)) ggX3_leastFreeId_X3_rankOf
theorem dX3_leastFreeId_0 : decode cX3_leastFreeId 0 = .ok (.iconst 0, 1) := by decide +kernel
theorem dX3_leastFreeId_1 : decode cX3_leastFreeId 1 = .ok (.istore_n 1, 1) := by decide +kernel
theorem dX3_leastFreeId_2 : decode cX3_leastFreeId 2 = .ok (.iload_n 1, 1) := by decide +kernel
theorem dX3_leastFreeId_3 : decode cX3_leastFreeId 3 = .ok (.bipush 32, 2) := by decide +kernel
theorem dX3_leastFreeId_5 : decode cX3_leastFreeId 5 = .ok (.if_icmp .ge 21, 3) := by decide +kernel
theorem dX3_leastFreeId_8 : decode cX3_leastFreeId 8 = .ok (.aload_n 0, 1) := by decide +kernel
theorem dX3_leastFreeId_9 : decode cX3_leastFreeId 9 = .ok (.iload_n 1, 1) := by decide +kernel
theorem dX3_leastFreeId_10 : decode cX3_leastFreeId 10 = .ok (.invokevirtual 29, 3) := by decide +kernel
theorem dX3_leastFreeId_13 : decode cX3_leastFreeId 13 = .ok (.bipush (-6), 2) := by decide +kernel
theorem dX3_leastFreeId_15 : decode cX3_leastFreeId 15 = .ok (.if_icmp .ne 5, 3) := by decide +kernel
theorem dX3_leastFreeId_18 : decode cX3_leastFreeId 18 = .ok (.iload_n 1, 1) := by decide +kernel
theorem dX3_leastFreeId_19 : decode cX3_leastFreeId 19 = .ok (.ireturn, 1) := by decide +kernel
theorem dX3_leastFreeId_20 : decode cX3_leastFreeId 20 = .ok (.iinc 1 1, 3) := by decide +kernel
theorem dX3_leastFreeId_23 : decode cX3_leastFreeId 23 = .ok (.goto (-21), 3) := by decide +kernel
theorem dX3_leastFreeId_26 : decode cX3_leastFreeId 26 = .ok (.bipush (-6), 2) := by decide +kernel
theorem dX3_leastFreeId_28 : decode cX3_leastFreeId 28 = .ok (.ireturn, 1) := by decide +kernel
set_option maxRecDepth 20000 in
theorem ggX3_insert_X3_isBefore : GoodIn wsX3_insert wsX3_isBefore := goodIn_r _ [9, 3, 4, 14, 15, 16, 17] (by decide +kernel) (by decide +kernel)
set_option maxRecDepth 20000 in
theorem gX3_insert_X3_isBefore : GoodIn wsX3_insert (wsV RX3 33 RX3 yX3_isBefore wsX3_isBefore) := goodIn_app (goodIn_of _ (by decide +kernel)) ggX3_insert_X3_isBefore
set_option maxRecDepth 20000 in
theorem ggX3_insert_X3_setRow : GoodIn wsX3_insert wsX3_setRow := goodIn_r _ [13, 2, 3, 4, 14, 15, 16, 17] (by decide +kernel) (by decide +kernel)
set_option maxRecDepth 20000 in
theorem gX3_insert_X3_setRow : GoodIn wsX3_insert (wsV RX3 36 RX3 yX3_setRow wsX3_setRow) := goodIn_app (goodIn_of _ (by decide +kernel)) ggX3_insert_X3_setRow
theorem dX3_insert_0 : decode cX3_insert 0 = .ok (.aload_n 0, 1) := by decide +kernel
theorem dX3_insert_1 : decode cX3_insert 1 = .ok (.getfield 21, 3) := by decide +kernel
theorem dX3_insert_4 : decode cX3_insert 4 = .ok (.bipush 32, 2) := by decide +kernel
theorem dX3_insert_6 : decode cX3_insert 6 = .ok (.if_icmp .lt 4, 3) := by decide +kernel
theorem dX3_insert_9 : decode cX3_insert 9 = .ok (.return_, 1) := by decide +kernel
theorem dX3_insert_10 : decode cX3_insert 10 = .ok (.aload_n 0, 1) := by decide +kernel
theorem dX3_insert_11 : decode cX3_insert 11 = .ok (.getfield 21, 3) := by decide +kernel
theorem dX3_insert_14 : decode cX3_insert 14 = .ok (.istore 4, 2) := by decide +kernel
theorem dX3_insert_16 : decode cX3_insert 16 = .ok (.iload 4, 2) := by decide +kernel
theorem dX3_insert_18 : decode cX3_insert 18 = .ok (.ifCond .le 55, 3) := by decide +kernel
theorem dX3_insert_21 : decode cX3_insert 21 = .ok (.aload_n 0, 1) := by decide +kernel
theorem dX3_insert_22 : decode cX3_insert 22 = .ok (.iload_n 2, 1) := by decide +kernel
theorem dX3_insert_23 : decode cX3_insert 23 = .ok (.iload_n 3, 1) := by decide +kernel
theorem dX3_insert_24 : decode cX3_insert 24 = .ok (.iload 4, 2) := by decide +kernel
theorem dX3_insert_26 : decode cX3_insert 26 = .ok (.iconst 1, 1) := by decide +kernel
theorem dX3_insert_27 : decode cX3_insert 27 = .ok (.isub, 1) := by decide +kernel
theorem dX3_insert_28 : decode cX3_insert 28 = .ok (.invokevirtual 33, 3) := by decide +kernel
theorem dX3_insert_31 : decode cX3_insert 31 = .ok (.ifCond .eq 42, 3) := by decide +kernel
theorem dX3_insert_34 : decode cX3_insert 34 = .ok (.aload_n 0, 1) := by decide +kernel
theorem dX3_insert_35 : decode cX3_insert 35 = .ok (.iload 4, 2) := by decide +kernel
theorem dX3_insert_37 : decode cX3_insert 37 = .ok (.aload_n 0, 1) := by decide +kernel
theorem dX3_insert_38 : decode cX3_insert 38 = .ok (.getfield 9, 3) := by decide +kernel
theorem dX3_insert_41 : decode cX3_insert 41 = .ok (.iload 4, 2) := by decide +kernel
theorem dX3_insert_43 : decode cX3_insert 43 = .ok (.iconst 1, 1) := by decide +kernel
theorem dX3_insert_44 : decode cX3_insert 44 = .ok (.isub, 1) := by decide +kernel
theorem dX3_insert_45 : decode cX3_insert 45 = .ok (.iaload, 1) := by decide +kernel
theorem dX3_insert_46 : decode cX3_insert 46 = .ok (.aload_n 0, 1) := by decide +kernel
theorem dX3_insert_47 : decode cX3_insert 47 = .ok (.getfield 15, 3) := by decide +kernel
theorem dX3_insert_50 : decode cX3_insert 50 = .ok (.iload 4, 2) := by decide +kernel
theorem dX3_insert_52 : decode cX3_insert 52 = .ok (.iconst 1, 1) := by decide +kernel
theorem dX3_insert_53 : decode cX3_insert 53 = .ok (.isub, 1) := by decide +kernel
theorem dX3_insert_54 : decode cX3_insert 54 = .ok (.iaload, 1) := by decide +kernel
theorem dX3_insert_55 : decode cX3_insert 55 = .ok (.aload_n 0, 1) := by decide +kernel
theorem dX3_insert_56 : decode cX3_insert 56 = .ok (.getfield 18, 3) := by decide +kernel
theorem dX3_insert_59 : decode cX3_insert 59 = .ok (.iload 4, 2) := by decide +kernel
theorem dX3_insert_61 : decode cX3_insert 61 = .ok (.iconst 1, 1) := by decide +kernel
theorem dX3_insert_62 : decode cX3_insert 62 = .ok (.isub, 1) := by decide +kernel
theorem dX3_insert_63 : decode cX3_insert 63 = .ok (.iaload, 1) := by decide +kernel
theorem dX3_insert_64 : decode cX3_insert 64 = .ok (.invokevirtual 36, 3) := by decide +kernel
theorem dX3_insert_67 : decode cX3_insert 67 = .ok (.iinc 4 (-1), 3) := by decide +kernel
theorem dX3_insert_70 : decode cX3_insert 70 = .ok (.goto (-54), 3) := by decide +kernel
theorem dX3_insert_73 : decode cX3_insert 73 = .ok (.aload_n 0, 1) := by decide +kernel
theorem dX3_insert_74 : decode cX3_insert 74 = .ok (.iload 4, 2) := by decide +kernel
theorem dX3_insert_76 : decode cX3_insert 76 = .ok (.iload_n 1, 1) := by decide +kernel
theorem dX3_insert_77 : decode cX3_insert 77 = .ok (.iload_n 2, 1) := by decide +kernel
theorem dX3_insert_78 : decode cX3_insert 78 = .ok (.iload_n 3, 1) := by decide +kernel
theorem dX3_insert_79 : decode cX3_insert 79 = .ok (.invokevirtual 36, 3) := by decide +kernel
theorem dX3_insert_82 : decode cX3_insert 82 = .ok (.aload_n 0, 1) := by decide +kernel
theorem dX3_insert_83 : decode cX3_insert 83 = .ok (.dup, 1) := by decide +kernel
theorem dX3_insert_84 : decode cX3_insert 84 = .ok (.getfield 21, 3) := by decide +kernel
theorem dX3_insert_87 : decode cX3_insert 87 = .ok (.iconst 1, 1) := by decide +kernel
theorem dX3_insert_88 : decode cX3_insert 88 = .ok (.iadd, 1) := by decide +kernel
theorem dX3_insert_89 : decode cX3_insert 89 = .ok (.putfield 21, 3) := by decide +kernel
theorem dX3_insert_92 : decode cX3_insert 92 = .ok (.return_, 1) := by decide +kernel
set_option maxRecDepth 20000 in
theorem ggX3_delete_X3_setRow : GoodIn wsX3_delete wsX3_setRow := goodIn_r _ [9, 2, 3, 4, 10, 11, 12, 13] (by decide +kernel) (by decide +kernel)
set_option maxRecDepth 20000 in
theorem gX3_delete_X3_setRow : GoodIn wsX3_delete (wsV RX3 36 RX3 yX3_setRow wsX3_setRow) := goodIn_app (goodIn_of _ (by decide +kernel)) ggX3_delete_X3_setRow
theorem dX3_delete_0 : decode cX3_delete 0 = .ok (.iload_n 1, 1) := by decide +kernel
theorem dX3_delete_1 : decode cX3_delete 1 = .ok (.ifCond .lt 11, 3) := by decide +kernel
theorem dX3_delete_4 : decode cX3_delete 4 = .ok (.iload_n 1, 1) := by decide +kernel
theorem dX3_delete_5 : decode cX3_delete 5 = .ok (.aload_n 0, 1) := by decide +kernel
theorem dX3_delete_6 : decode cX3_delete 6 = .ok (.getfield 21, 3) := by decide +kernel
theorem dX3_delete_9 : decode cX3_delete 9 = .ok (.if_icmp .lt 4, 3) := by decide +kernel
theorem dX3_delete_12 : decode cX3_delete 12 = .ok (.return_, 1) := by decide +kernel
theorem dX3_delete_13 : decode cX3_delete 13 = .ok (.iload_n 1, 1) := by decide +kernel
theorem dX3_delete_14 : decode cX3_delete 14 = .ok (.iconst 1, 1) := by decide +kernel
theorem dX3_delete_15 : decode cX3_delete 15 = .ok (.iadd, 1) := by decide +kernel
theorem dX3_delete_16 : decode cX3_delete 16 = .ok (.istore_n 2, 1) := by decide +kernel
theorem dX3_delete_17 : decode cX3_delete 17 = .ok (.iload_n 2, 1) := by decide +kernel
theorem dX3_delete_18 : decode cX3_delete 18 = .ok (.aload_n 0, 1) := by decide +kernel
theorem dX3_delete_19 : decode cX3_delete 19 = .ok (.getfield 21, 3) := by decide +kernel
theorem dX3_delete_22 : decode cX3_delete 22 = .ok (.if_icmp .ge 34, 3) := by decide +kernel
theorem dX3_delete_25 : decode cX3_delete 25 = .ok (.aload_n 0, 1) := by decide +kernel
theorem dX3_delete_26 : decode cX3_delete 26 = .ok (.iload_n 2, 1) := by decide +kernel
theorem dX3_delete_27 : decode cX3_delete 27 = .ok (.iconst 1, 1) := by decide +kernel
theorem dX3_delete_28 : decode cX3_delete 28 = .ok (.isub, 1) := by decide +kernel
theorem dX3_delete_29 : decode cX3_delete 29 = .ok (.aload_n 0, 1) := by decide +kernel
theorem dX3_delete_30 : decode cX3_delete 30 = .ok (.getfield 9, 3) := by decide +kernel
theorem dX3_delete_33 : decode cX3_delete 33 = .ok (.iload_n 2, 1) := by decide +kernel
theorem dX3_delete_34 : decode cX3_delete 34 = .ok (.iaload, 1) := by decide +kernel
theorem dX3_delete_35 : decode cX3_delete 35 = .ok (.aload_n 0, 1) := by decide +kernel
theorem dX3_delete_36 : decode cX3_delete 36 = .ok (.getfield 15, 3) := by decide +kernel
theorem dX3_delete_39 : decode cX3_delete 39 = .ok (.iload_n 2, 1) := by decide +kernel
theorem dX3_delete_40 : decode cX3_delete 40 = .ok (.iaload, 1) := by decide +kernel
theorem dX3_delete_41 : decode cX3_delete 41 = .ok (.aload_n 0, 1) := by decide +kernel
theorem dX3_delete_42 : decode cX3_delete 42 = .ok (.getfield 18, 3) := by decide +kernel
theorem dX3_delete_45 : decode cX3_delete 45 = .ok (.iload_n 2, 1) := by decide +kernel
theorem dX3_delete_46 : decode cX3_delete 46 = .ok (.iaload, 1) := by decide +kernel
theorem dX3_delete_47 : decode cX3_delete 47 = .ok (.invokevirtual 36, 3) := by decide +kernel
theorem dX3_delete_50 : decode cX3_delete 50 = .ok (.iinc 2 1, 3) := by decide +kernel
theorem dX3_delete_53 : decode cX3_delete 53 = .ok (.goto (-36), 3) := by decide +kernel
theorem dX3_delete_56 : decode cX3_delete 56 = .ok (.aload_n 0, 1) := by decide +kernel
theorem dX3_delete_57 : decode cX3_delete 57 = .ok (.dup, 1) := by decide +kernel
theorem dX3_delete_58 : decode cX3_delete 58 = .ok (.getfield 21, 3) := by decide +kernel
theorem dX3_delete_61 : decode cX3_delete 61 = .ok (.iconst 1, 1) := by decide +kernel
theorem dX3_delete_62 : decode cX3_delete 62 = .ok (.isub, 1) := by decide +kernel
theorem dX3_delete_63 : decode cX3_delete 63 = .ok (.putfield 21, 3) := by decide +kernel
theorem dX3_delete_66 : decode cX3_delete 66 = .ok (.return_, 1) := by decide +kernel
set_option maxRecDepth 20000 in
theorem ggX3_copyFrom_X3_setRow : GoodIn wsX3_copyFrom wsX3_setRow := goodIn_r _ [9, 2, 3, 4, 10, 11, 12, 13] (by decide +kernel) (by decide +kernel)
set_option maxRecDepth 20000 in
theorem gX3_copyFrom_X3_setRow : GoodIn wsX3_copyFrom (wsV RX3 36 RX3 yX3_setRow wsX3_setRow) := goodIn_app (goodIn_of _ (by decide +kernel)) ggX3_copyFrom_X3_setRow
theorem dX3_copyFrom_0 : decode cX3_copyFrom 0 = .ok (.iconst 0, 1) := by decide +kernel
theorem dX3_copyFrom_1 : decode cX3_copyFrom 1 = .ok (.istore_n 2, 1) := by decide +kernel
theorem dX3_copyFrom_2 : decode cX3_copyFrom 2 = .ok (.iload_n 2, 1) := by decide +kernel
theorem dX3_copyFrom_3 : decode cX3_copyFrom 3 = .ok (.aload_n 1, 1) := by decide +kernel
theorem dX3_copyFrom_4 : decode cX3_copyFrom 4 = .ok (.getfield 21, 3) := by decide +kernel
theorem dX3_copyFrom_7 : decode cX3_copyFrom 7 = .ok (.if_icmp .ge 32, 3) := by decide +kernel
theorem dX3_copyFrom_10 : decode cX3_copyFrom 10 = .ok (.aload_n 0, 1) := by decide +kernel
theorem dX3_copyFrom_11 : decode cX3_copyFrom 11 = .ok (.iload_n 2, 1) := by decide +kernel
theorem dX3_copyFrom_12 : decode cX3_copyFrom 12 = .ok (.aload_n 1, 1) := by decide +kernel
theorem dX3_copyFrom_13 : decode cX3_copyFrom 13 = .ok (.getfield 9, 3) := by decide +kernel
theorem dX3_copyFrom_16 : decode cX3_copyFrom 16 = .ok (.iload_n 2, 1) := by decide +kernel
theorem dX3_copyFrom_17 : decode cX3_copyFrom 17 = .ok (.iaload, 1) := by decide +kernel
theorem dX3_copyFrom_18 : decode cX3_copyFrom 18 = .ok (.aload_n 1, 1) := by decide +kernel
theorem dX3_copyFrom_19 : decode cX3_copyFrom 19 = .ok (.getfield 15, 3) := by decide +kernel
theorem dX3_copyFrom_22 : decode cX3_copyFrom 22 = .ok (.iload_n 2, 1) := by decide +kernel
theorem dX3_copyFrom_23 : decode cX3_copyFrom 23 = .ok (.iaload, 1) := by decide +kernel
theorem dX3_copyFrom_24 : decode cX3_copyFrom 24 = .ok (.aload_n 1, 1) := by decide +kernel
theorem dX3_copyFrom_25 : decode cX3_copyFrom 25 = .ok (.getfield 18, 3) := by decide +kernel
theorem dX3_copyFrom_28 : decode cX3_copyFrom 28 = .ok (.iload_n 2, 1) := by decide +kernel
theorem dX3_copyFrom_29 : decode cX3_copyFrom 29 = .ok (.iaload, 1) := by decide +kernel
theorem dX3_copyFrom_30 : decode cX3_copyFrom 30 = .ok (.invokevirtual 36, 3) := by decide +kernel
theorem dX3_copyFrom_33 : decode cX3_copyFrom 33 = .ok (.iinc 2 1, 3) := by decide +kernel
theorem dX3_copyFrom_36 : decode cX3_copyFrom 36 = .ok (.goto (-34), 3) := by decide +kernel
theorem dX3_copyFrom_39 : decode cX3_copyFrom 39 = .ok (.aload_n 0, 1) := by decide +kernel
theorem dX3_copyFrom_40 : decode cX3_copyFrom 40 = .ok (.aload_n 1, 1) := by decide +kernel
theorem dX3_copyFrom_41 : decode cX3_copyFrom 41 = .ok (.getfield 21, 3) := by decide +kernel
theorem dX3_copyFrom_44 : decode cX3_copyFrom 44 = .ok (.putfield 21, 3) := by decide +kernel
theorem dX3_copyFrom_47 : decode cX3_copyFrom 47 = .ok (.return_, 1) := by decide +kernel
theorem dX3_isBefore_0 : decode cX3_isBefore 0 = .ok (.iload_n 1, 1) := by decide +kernel
theorem dX3_isBefore_1 : decode cX3_isBefore 1 = .ok (.aload_n 0, 1) := by decide +kernel
theorem dX3_isBefore_2 : decode cX3_isBefore 2 = .ok (.getfield 15, 3) := by decide +kernel
theorem dX3_isBefore_5 : decode cX3_isBefore 5 = .ok (.iload_n 3, 1) := by decide +kernel
theorem dX3_isBefore_6 : decode cX3_isBefore 6 = .ok (.iaload, 1) := by decide +kernel
theorem dX3_isBefore_7 : decode cX3_isBefore 7 = .ok (.if_icmp .lt 23, 3) := by decide +kernel
theorem dX3_isBefore_10 : decode cX3_isBefore 10 = .ok (.iload_n 1, 1) := by decide +kernel
theorem dX3_isBefore_11 : decode cX3_isBefore 11 = .ok (.aload_n 0, 1) := by decide +kernel
theorem dX3_isBefore_12 : decode cX3_isBefore 12 = .ok (.getfield 15, 3) := by decide +kernel
theorem dX3_isBefore_15 : decode cX3_isBefore 15 = .ok (.iload_n 3, 1) := by decide +kernel
theorem dX3_isBefore_16 : decode cX3_isBefore 16 = .ok (.iaload, 1) := by decide +kernel
theorem dX3_isBefore_17 : decode cX3_isBefore 17 = .ok (.if_icmp .ne 17, 3) := by decide +kernel
theorem dX3_isBefore_20 : decode cX3_isBefore 20 = .ok (.iload_n 2, 1) := by decide +kernel
theorem dX3_isBefore_21 : decode cX3_isBefore 21 = .ok (.aload_n 0, 1) := by decide +kernel
theorem dX3_isBefore_22 : decode cX3_isBefore 22 = .ok (.getfield 18, 3) := by decide +kernel
theorem dX3_isBefore_25 : decode cX3_isBefore 25 = .ok (.iload_n 3, 1) := by decide +kernel
theorem dX3_isBefore_26 : decode cX3_isBefore 26 = .ok (.iaload, 1) := by decide +kernel
theorem dX3_isBefore_27 : decode cX3_isBefore 27 = .ok (.if_icmp .ge 7, 3) := by decide +kernel
theorem dX3_isBefore_30 : decode cX3_isBefore 30 = .ok (.iconst 1, 1) := by decide +kernel
theorem dX3_isBefore_31 : decode cX3_isBefore 31 = .ok (.goto 4, 3) := by decide +kernel
theorem dX3_isBefore_34 : decode cX3_isBefore 34 = .ok (.iconst 0, 1) := by decide +kernel
theorem dX3_isBefore_35 : decode cX3_isBefore 35 = .ok (.ireturn, 1) := by decide +kernel
theorem dX3_setRow_0 : decode cX3_setRow 0 = .ok (.aload_n 0, 1) := by decide +kernel
theorem dX3_setRow_1 : decode cX3_setRow 1 = .ok (.getfield 9, 3) := by decide +kernel
theorem dX3_setRow_4 : decode cX3_setRow 4 = .ok (.iload_n 1, 1) := by decide +kernel
theorem dX3_setRow_5 : decode cX3_setRow 5 = .ok (.iload_n 2, 1) := by decide +kernel
theorem dX3_setRow_6 : decode cX3_setRow 6 = .ok (.iastore, 1) := by decide +kernel
theorem dX3_setRow_7 : decode cX3_setRow 7 = .ok (.aload_n 0, 1) := by decide +kernel
theorem dX3_setRow_8 : decode cX3_setRow 8 = .ok (.getfield 15, 3) := by decide +kernel
theorem dX3_setRow_11 : decode cX3_setRow 11 = .ok (.iload_n 1, 1) := by decide +kernel
theorem dX3_setRow_12 : decode cX3_setRow 12 = .ok (.iload_n 3, 1) := by decide +kernel
theorem dX3_setRow_13 : decode cX3_setRow 13 = .ok (.iastore, 1) := by decide +kernel
theorem dX3_setRow_14 : decode cX3_setRow 14 = .ok (.aload_n 0, 1) := by decide +kernel
theorem dX3_setRow_15 : decode cX3_setRow 15 = .ok (.getfield 18, 3) := by decide +kernel
theorem dX3_setRow_18 : decode cX3_setRow 18 = .ok (.iload_n 1, 1) := by decide +kernel
theorem dX3_setRow_19 : decode cX3_setRow 19 = .ok (.iload 4, 2) := by decide +kernel
theorem dX3_setRow_21 : decode cX3_setRow 21 = .ok (.iastore, 1) := by decide +kernel
theorem dX3_setRow_22 : decode cX3_setRow 22 = .ok (.return_, 1) := by decide +kernel
theorem dX3_turn_0 : decode cX3_turn 0 = .ok (.aload_n 0, 1) := by decide +kernel
theorem dX3_turn_1 : decode cX3_turn 1 = .ok (.getfield 15, 3) := by decide +kernel
theorem dX3_turn_4 : decode cX3_turn 4 = .ok (.iload_n 2, 1) := by decide +kernel
theorem dX3_turn_5 : decode cX3_turn 5 = .ok (.iaload, 1) := by decide +kernel
theorem dX3_turn_6 : decode cX3_turn 6 = .ok (.i2l, 1) := by decide +kernel
theorem dX3_turn_7 : decode cX3_turn 7 = .ok (.aload_n 0, 1) := by decide +kernel
theorem dX3_turn_8 : decode cX3_turn 8 = .ok (.getfield 15, 3) := by decide +kernel
theorem dX3_turn_11 : decode cX3_turn 11 = .ok (.iload_n 1, 1) := by decide +kernel
theorem dX3_turn_12 : decode cX3_turn 12 = .ok (.iaload, 1) := by decide +kernel
theorem dX3_turn_13 : decode cX3_turn 13 = .ok (.i2l, 1) := by decide +kernel
theorem dX3_turn_14 : decode cX3_turn 14 = .ok (.lsub, 1) := by decide +kernel
theorem dX3_turn_15 : decode cX3_turn 15 = .ok (.lstore 5, 2) := by decide +kernel
theorem dX3_turn_17 : decode cX3_turn 17 = .ok (.aload_n 0, 1) := by decide +kernel
theorem dX3_turn_18 : decode cX3_turn 18 = .ok (.getfield 18, 3) := by decide +kernel
theorem dX3_turn_21 : decode cX3_turn 21 = .ok (.iload_n 2, 1) := by decide +kernel
theorem dX3_turn_22 : decode cX3_turn 22 = .ok (.iaload, 1) := by decide +kernel
theorem dX3_turn_23 : decode cX3_turn 23 = .ok (.i2l, 1) := by decide +kernel
theorem dX3_turn_24 : decode cX3_turn 24 = .ok (.aload_n 0, 1) := by decide +kernel
theorem dX3_turn_25 : decode cX3_turn 25 = .ok (.getfield 18, 3) := by decide +kernel
theorem dX3_turn_28 : decode cX3_turn 28 = .ok (.iload_n 1, 1) := by decide +kernel
theorem dX3_turn_29 : decode cX3_turn 29 = .ok (.iaload, 1) := by decide +kernel
theorem dX3_turn_30 : decode cX3_turn 30 = .ok (.i2l, 1) := by decide +kernel
theorem dX3_turn_31 : decode cX3_turn 31 = .ok (.lsub, 1) := by decide +kernel
theorem dX3_turn_32 : decode cX3_turn 32 = .ok (.lstore 7, 2) := by decide +kernel
theorem dX3_turn_34 : decode cX3_turn 34 = .ok (.iload_n 3, 1) := by decide +kernel
theorem dX3_turn_35 : decode cX3_turn 35 = .ok (.i2l, 1) := by decide +kernel
theorem dX3_turn_36 : decode cX3_turn 36 = .ok (.aload_n 0, 1) := by decide +kernel
theorem dX3_turn_37 : decode cX3_turn 37 = .ok (.getfield 15, 3) := by decide +kernel
theorem dX3_turn_40 : decode cX3_turn 40 = .ok (.iload_n 1, 1) := by decide +kernel
theorem dX3_turn_41 : decode cX3_turn 41 = .ok (.iaload, 1) := by decide +kernel
theorem dX3_turn_42 : decode cX3_turn 42 = .ok (.i2l, 1) := by decide +kernel
theorem dX3_turn_43 : decode cX3_turn 43 = .ok (.lsub, 1) := by decide +kernel
theorem dX3_turn_44 : decode cX3_turn 44 = .ok (.lstore 9, 2) := by decide +kernel
theorem dX3_turn_46 : decode cX3_turn 46 = .ok (.iload 4, 2) := by decide +kernel
theorem dX3_turn_48 : decode cX3_turn 48 = .ok (.i2l, 1) := by decide +kernel
theorem dX3_turn_49 : decode cX3_turn 49 = .ok (.aload_n 0, 1) := by decide +kernel
theorem dX3_turn_50 : decode cX3_turn 50 = .ok (.getfield 18, 3) := by decide +kernel
theorem dX3_turn_53 : decode cX3_turn 53 = .ok (.iload_n 1, 1) := by decide +kernel
theorem dX3_turn_54 : decode cX3_turn 54 = .ok (.iaload, 1) := by decide +kernel
theorem dX3_turn_55 : decode cX3_turn 55 = .ok (.i2l, 1) := by decide +kernel
theorem dX3_turn_56 : decode cX3_turn 56 = .ok (.lsub, 1) := by decide +kernel
theorem dX3_turn_57 : decode cX3_turn 57 = .ok (.lstore 11, 2) := by decide +kernel
theorem dX3_turn_59 : decode cX3_turn 59 = .ok (.lload 5, 2) := by decide +kernel
theorem dX3_turn_61 : decode cX3_turn 61 = .ok (.lload 11, 2) := by decide +kernel
theorem dX3_turn_63 : decode cX3_turn 63 = .ok (.lmul, 1) := by decide +kernel
theorem dX3_turn_64 : decode cX3_turn 64 = .ok (.lload 7, 2) := by decide +kernel
theorem dX3_turn_66 : decode cX3_turn 66 = .ok (.lload 9, 2) := by decide +kernel
theorem dX3_turn_68 : decode cX3_turn 68 = .ok (.lmul, 1) := by decide +kernel
theorem dX3_turn_69 : decode cX3_turn 69 = .ok (.lsub, 1) := by decide +kernel
theorem dX3_turn_70 : decode cX3_turn 70 = .ok (.lreturn, 1) := by decide +kernel
theorem dX3_isBoxed_0 : decode cX3_isBoxed 0 = .ok (.iload_n 3, 1) := by decide +kernel
theorem dX3_isBoxed_1 : decode cX3_isBoxed 1 = .ok (.aload_n 0, 1) := by decide +kernel
theorem dX3_isBoxed_2 : decode cX3_isBoxed 2 = .ok (.getfield 15, 3) := by decide +kernel
theorem dX3_isBoxed_5 : decode cX3_isBoxed 5 = .ok (.iload_n 1, 1) := by decide +kernel
theorem dX3_isBoxed_6 : decode cX3_isBoxed 6 = .ok (.iaload, 1) := by decide +kernel
theorem dX3_isBoxed_7 : decode cX3_isBoxed 7 = .ok (.aload_n 0, 1) := by decide +kernel
theorem dX3_isBoxed_8 : decode cX3_isBoxed 8 = .ok (.getfield 15, 3) := by decide +kernel
theorem dX3_isBoxed_11 : decode cX3_isBoxed 11 = .ok (.iload_n 2, 1) := by decide +kernel
theorem dX3_isBoxed_12 : decode cX3_isBoxed 12 = .ok (.iaload, 1) := by decide +kernel
theorem dX3_isBoxed_13 : decode cX3_isBoxed 13 = .ok (.invokestatic 40, 3) := by decide +kernel
theorem dX3_isBoxed_16 : decode cX3_isBoxed 16 = .ok (.if_icmp .lt 66, 3) := by decide +kernel
theorem dX3_isBoxed_19 : decode cX3_isBoxed 19 = .ok (.iload_n 3, 1) := by decide +kernel
theorem dX3_isBoxed_20 : decode cX3_isBoxed 20 = .ok (.aload_n 0, 1) := by decide +kernel
theorem dX3_isBoxed_21 : decode cX3_isBoxed 21 = .ok (.getfield 15, 3) := by decide +kernel
theorem dX3_isBoxed_24 : decode cX3_isBoxed 24 = .ok (.iload_n 1, 1) := by decide +kernel
theorem dX3_isBoxed_25 : decode cX3_isBoxed 25 = .ok (.iaload, 1) := by decide +kernel
theorem dX3_isBoxed_26 : decode cX3_isBoxed 26 = .ok (.aload_n 0, 1) := by decide +kernel
theorem dX3_isBoxed_27 : decode cX3_isBoxed 27 = .ok (.getfield 15, 3) := by decide +kernel
theorem dX3_isBoxed_30 : decode cX3_isBoxed 30 = .ok (.iload_n 2, 1) := by decide +kernel
theorem dX3_isBoxed_31 : decode cX3_isBoxed 31 = .ok (.iaload, 1) := by decide +kernel
theorem dX3_isBoxed_32 : decode cX3_isBoxed 32 = .ok (.invokestatic 46, 3) := by decide +kernel
theorem dX3_isBoxed_35 : decode cX3_isBoxed 35 = .ok (.if_icmp .gt 47, 3) := by decide +kernel
theorem dX3_isBoxed_38 : decode cX3_isBoxed 38 = .ok (.iload 4, 2) := by decide +kernel
theorem dX3_isBoxed_40 : decode cX3_isBoxed 40 = .ok (.aload_n 0, 1) := by decide +kernel
theorem dX3_isBoxed_41 : decode cX3_isBoxed 41 = .ok (.getfield 18, 3) := by decide +kernel
theorem dX3_isBoxed_44 : decode cX3_isBoxed 44 = .ok (.iload_n 1, 1) := by decide +kernel
theorem dX3_isBoxed_45 : decode cX3_isBoxed 45 = .ok (.iaload, 1) := by decide +kernel
theorem dX3_isBoxed_46 : decode cX3_isBoxed 46 = .ok (.aload_n 0, 1) := by decide +kernel
theorem dX3_isBoxed_47 : decode cX3_isBoxed 47 = .ok (.getfield 18, 3) := by decide +kernel
theorem dX3_isBoxed_50 : decode cX3_isBoxed 50 = .ok (.iload_n 2, 1) := by decide +kernel
theorem dX3_isBoxed_51 : decode cX3_isBoxed 51 = .ok (.iaload, 1) := by decide +kernel
theorem dX3_isBoxed_52 : decode cX3_isBoxed 52 = .ok (.invokestatic 40, 3) := by decide +kernel
theorem dX3_isBoxed_55 : decode cX3_isBoxed 55 = .ok (.if_icmp .lt 27, 3) := by decide +kernel
theorem dX3_isBoxed_58 : decode cX3_isBoxed 58 = .ok (.iload 4, 2) := by decide +kernel
theorem dX3_isBoxed_60 : decode cX3_isBoxed 60 = .ok (.aload_n 0, 1) := by decide +kernel
theorem dX3_isBoxed_61 : decode cX3_isBoxed 61 = .ok (.getfield 18, 3) := by decide +kernel
theorem dX3_isBoxed_64 : decode cX3_isBoxed 64 = .ok (.iload_n 1, 1) := by decide +kernel
theorem dX3_isBoxed_65 : decode cX3_isBoxed 65 = .ok (.iaload, 1) := by decide +kernel
theorem dX3_isBoxed_66 : decode cX3_isBoxed 66 = .ok (.aload_n 0, 1) := by decide +kernel
theorem dX3_isBoxed_67 : decode cX3_isBoxed 67 = .ok (.getfield 18, 3) := by decide +kernel
theorem dX3_isBoxed_70 : decode cX3_isBoxed 70 = .ok (.iload_n 2, 1) := by decide +kernel
theorem dX3_isBoxed_71 : decode cX3_isBoxed 71 = .ok (.iaload, 1) := by decide +kernel
theorem dX3_isBoxed_72 : decode cX3_isBoxed 72 = .ok (.invokestatic 46, 3) := by decide +kernel
theorem dX3_isBoxed_75 : decode cX3_isBoxed 75 = .ok (.if_icmp .gt 7, 3) := by decide +kernel
theorem dX3_isBoxed_78 : decode cX3_isBoxed 78 = .ok (.iconst 1, 1) := by decide +kernel
theorem dX3_isBoxed_79 : decode cX3_isBoxed 79 = .ok (.goto 4, 3) := by decide +kernel
theorem dX3_isBoxed_82 : decode cX3_isBoxed 82 = .ok (.iconst 0, 1) := by decide +kernel
theorem dX3_isBoxed_83 : decode cX3_isBoxed 83 = .ok (.ireturn, 1) := by decide +kernel
theorem dX3_reach_0 : decode cX3_reach 0 = .ok (.iload_n 2, 1) := by decide +kernel
theorem dX3_reach_1 : decode cX3_reach 1 = .ok (.i2l, 1) := by decide +kernel
theorem dX3_reach_2 : decode cX3_reach 2 = .ok (.aload_n 0, 1) := by decide +kernel
theorem dX3_reach_3 : decode cX3_reach 3 = .ok (.getfield 15, 3) := by decide +kernel
theorem dX3_reach_6 : decode cX3_reach 6 = .ok (.iload_n 1, 1) := by decide +kernel
theorem dX3_reach_7 : decode cX3_reach 7 = .ok (.iaload, 1) := by decide +kernel
theorem dX3_reach_8 : decode cX3_reach 8 = .ok (.i2l, 1) := by decide +kernel
theorem dX3_reach_9 : decode cX3_reach 9 = .ok (.lmul, 1) := by decide +kernel
theorem dX3_reach_10 : decode cX3_reach 10 = .ok (.iload_n 3, 1) := by decide +kernel
theorem dX3_reach_11 : decode cX3_reach 11 = .ok (.i2l, 1) := by decide +kernel
theorem dX3_reach_12 : decode cX3_reach 12 = .ok (.aload_n 0, 1) := by decide +kernel
theorem dX3_reach_13 : decode cX3_reach 13 = .ok (.getfield 18, 3) := by decide +kernel
theorem dX3_reach_16 : decode cX3_reach 16 = .ok (.iload_n 1, 1) := by decide +kernel
theorem dX3_reach_17 : decode cX3_reach 17 = .ok (.iaload, 1) := by decide +kernel
theorem dX3_reach_18 : decode cX3_reach 18 = .ok (.i2l, 1) := by decide +kernel
theorem dX3_reach_19 : decode cX3_reach 19 = .ok (.lmul, 1) := by decide +kernel
theorem dX3_reach_20 : decode cX3_reach 20 = .ok (.ladd, 1) := by decide +kernel
theorem dX3_reach_21 : decode cX3_reach 21 = .ok (.lreturn, 1) := by decide +kernel
theorem dX3_squaredDistance_0 : decode cX3_squaredDistance 0 = .ok (.iload_n 2, 1) := by decide +kernel
theorem dX3_squaredDistance_1 : decode cX3_squaredDistance 1 = .ok (.i2l, 1) := by decide +kernel
theorem dX3_squaredDistance_2 : decode cX3_squaredDistance 2 = .ok (.aload_n 0, 1) := by decide +kernel
theorem dX3_squaredDistance_3 : decode cX3_squaredDistance 3 = .ok (.getfield 15, 3) := by decide +kernel
theorem dX3_squaredDistance_6 : decode cX3_squaredDistance 6 = .ok (.iload_n 1, 1) := by decide +kernel
theorem dX3_squaredDistance_7 : decode cX3_squaredDistance 7 = .ok (.iaload, 1) := by decide +kernel
theorem dX3_squaredDistance_8 : decode cX3_squaredDistance 8 = .ok (.i2l, 1) := by decide +kernel
theorem dX3_squaredDistance_9 : decode cX3_squaredDistance 9 = .ok (.lsub, 1) := by decide +kernel
theorem dX3_squaredDistance_10 : decode cX3_squaredDistance 10 = .ok (.lstore 4, 2) := by decide +kernel
theorem dX3_squaredDistance_12 : decode cX3_squaredDistance 12 = .ok (.iload_n 3, 1) := by decide +kernel
theorem dX3_squaredDistance_13 : decode cX3_squaredDistance 13 = .ok (.i2l, 1) := by decide +kernel
theorem dX3_squaredDistance_14 : decode cX3_squaredDistance 14 = .ok (.aload_n 0, 1) := by decide +kernel
theorem dX3_squaredDistance_15 : decode cX3_squaredDistance 15 = .ok (.getfield 18, 3) := by decide +kernel
theorem dX3_squaredDistance_18 : decode cX3_squaredDistance 18 = .ok (.iload_n 1, 1) := by decide +kernel
theorem dX3_squaredDistance_19 : decode cX3_squaredDistance 19 = .ok (.iaload, 1) := by decide +kernel
theorem dX3_squaredDistance_20 : decode cX3_squaredDistance 20 = .ok (.i2l, 1) := by decide +kernel
theorem dX3_squaredDistance_21 : decode cX3_squaredDistance 21 = .ok (.lsub, 1) := by decide +kernel
theorem dX3_squaredDistance_22 : decode cX3_squaredDistance 22 = .ok (.lstore 6, 2) := by decide +kernel
theorem dX3_squaredDistance_24 : decode cX3_squaredDistance 24 = .ok (.lload 4, 2) := by decide +kernel
theorem dX3_squaredDistance_26 : decode cX3_squaredDistance 26 = .ok (.lload 4, 2) := by decide +kernel
theorem dX3_squaredDistance_28 : decode cX3_squaredDistance 28 = .ok (.lmul, 1) := by decide +kernel
theorem dX3_squaredDistance_29 : decode cX3_squaredDistance 29 = .ok (.lload 6, 2) := by decide +kernel
theorem dX3_squaredDistance_31 : decode cX3_squaredDistance 31 = .ok (.lload 6, 2) := by decide +kernel
theorem dX3_squaredDistance_33 : decode cX3_squaredDistance 33 = .ok (.lmul, 1) := by decide +kernel
theorem dX3_squaredDistance_34 : decode cX3_squaredDistance 34 = .ok (.ladd, 1) := by decide +kernel
theorem dX3_squaredDistance_35 : decode cX3_squaredDistance 35 = .ok (.lreturn, 1) := by decide +kernel
set_option maxRecDepth 20000 in
theorem ggX4_init_X1_init : GoodIn wsX4_init wsX1_init := goodIn_r _ [3, 4, 5, 6, 7, 8, 9, 10, 11, 12, 13] (by decide +kernel) (by decide +kernel)
set_option maxRecDepth 20000 in
theorem gX4_init_X1_init_n3 : GoodIn wsX4_init (wsX1_init) := ggX4_init_X1_init
theorem dX4_init_0 : decode cX4_init 0 = .ok (.aload_n 0, 1) := by decide +kernel
theorem dX4_init_1 : decode cX4_init 1 = .ok (.invokespecial 3, 3) := by decide +kernel
theorem dX4_init_4 : decode cX4_init 4 = .ok (.return_, 1) := by decide +kernel
theorem dX4_clear_0 : decode cX4_clear 0 = .ok (.aload_n 0, 1) := by decide +kernel
theorem dX4_clear_1 : decode cX4_clear 1 = .ok (.iconst 0, 1) := by decide +kernel
theorem dX4_clear_2 : decode cX4_clear 2 = .ok (.putfield 9, 3) := by decide +kernel
theorem dX4_clear_5 : decode cX4_clear 5 = .ok (.return_, 1) := by decide +kernel
set_option maxRecDepth 20000 in
theorem ggX4_takeRightward_X4_takeOnce : GoodIn wsX4_takeRightward wsX4_takeOnce := goodIn_r _ [9, 10, 11, 12, 13, 14, 15, 16, 17, 18, 19, 20, 21, 22, 23, 24, 25, 26] (by decide +kernel) (by decide +kernel)
set_option maxRecDepth 20000 in
theorem gX4_takeRightward_X4_takeOnce : GoodIn wsX4_takeRightward (wsV RX4 22 RX4 yX4_takeOnce wsX4_takeOnce) := goodIn_app (goodIn_of _ (by decide +kernel)) ggX4_takeRightward_X4_takeOnce
theorem dX4_takeRightward_0 : decode cX4_takeRightward 0 = .ok (.iconst 0, 1) := by decide +kernel
theorem dX4_takeRightward_1 : decode cX4_takeRightward 1 = .ok (.istore_n 2, 1) := by decide +kernel
theorem dX4_takeRightward_2 : decode cX4_takeRightward 2 = .ok (.iload_n 2, 1) := by decide +kernel
theorem dX4_takeRightward_3 : decode cX4_takeRightward 3 = .ok (.aload_n 1, 1) := by decide +kernel
theorem dX4_takeRightward_4 : decode cX4_takeRightward 4 = .ok (.getfield 15, 3) := by decide +kernel
theorem dX4_takeRightward_7 : decode cX4_takeRightward 7 = .ok (.if_icmp .ge 19, 3) := by decide +kernel
theorem dX4_takeRightward_10 : decode cX4_takeRightward 10 = .ok (.aload_n 0, 1) := by decide +kernel
theorem dX4_takeRightward_11 : decode cX4_takeRightward 11 = .ok (.aload_n 1, 1) := by decide +kernel
theorem dX4_takeRightward_12 : decode cX4_takeRightward 12 = .ok (.getfield 18, 3) := by decide +kernel
theorem dX4_takeRightward_15 : decode cX4_takeRightward 15 = .ok (.iload_n 2, 1) := by decide +kernel
theorem dX4_takeRightward_16 : decode cX4_takeRightward 16 = .ok (.iaload, 1) := by decide +kernel
theorem dX4_takeRightward_17 : decode cX4_takeRightward 17 = .ok (.invokevirtual 22, 3) := by decide +kernel
theorem dX4_takeRightward_20 : decode cX4_takeRightward 20 = .ok (.iinc 2 1, 3) := by decide +kernel
theorem dX4_takeRightward_23 : decode cX4_takeRightward 23 = .ok (.goto (-21), 3) := by decide +kernel
theorem dX4_takeRightward_26 : decode cX4_takeRightward 26 = .ok (.return_, 1) := by decide +kernel
set_option maxRecDepth 20000 in
theorem ggX4_takeLeftward_X4_takeOnce : GoodIn wsX4_takeLeftward wsX4_takeOnce := goodIn_r _ [9, 10, 11, 12, 13, 14, 15, 16, 17, 18, 19, 20, 21, 22, 23, 24, 25, 26] (by decide +kernel) (by decide +kernel)
set_option maxRecDepth 20000 in
theorem gX4_takeLeftward_X4_takeOnce : GoodIn wsX4_takeLeftward (wsV RX4 22 RX4 yX4_takeOnce wsX4_takeOnce) := goodIn_app (goodIn_of _ (by decide +kernel)) ggX4_takeLeftward_X4_takeOnce
theorem dX4_takeLeftward_0 : decode cX4_takeLeftward 0 = .ok (.aload_n 1, 1) := by decide +kernel
theorem dX4_takeLeftward_1 : decode cX4_takeLeftward 1 = .ok (.getfield 15, 3) := by decide +kernel
theorem dX4_takeLeftward_4 : decode cX4_takeLeftward 4 = .ok (.iconst 1, 1) := by decide +kernel
theorem dX4_takeLeftward_5 : decode cX4_takeLeftward 5 = .ok (.isub, 1) := by decide +kernel
theorem dX4_takeLeftward_6 : decode cX4_takeLeftward 6 = .ok (.istore_n 2, 1) := by decide +kernel
theorem dX4_takeLeftward_7 : decode cX4_takeLeftward 7 = .ok (.iload_n 2, 1) := by decide +kernel
theorem dX4_takeLeftward_8 : decode cX4_takeLeftward 8 = .ok (.ifCond .lt 19, 3) := by decide +kernel
theorem dX4_takeLeftward_11 : decode cX4_takeLeftward 11 = .ok (.aload_n 0, 1) := by decide +kernel
theorem dX4_takeLeftward_12 : decode cX4_takeLeftward 12 = .ok (.aload_n 1, 1) := by decide +kernel
theorem dX4_takeLeftward_13 : decode cX4_takeLeftward 13 = .ok (.getfield 18, 3) := by decide +kernel
theorem dX4_takeLeftward_16 : decode cX4_takeLeftward 16 = .ok (.iload_n 2, 1) := by decide +kernel
theorem dX4_takeLeftward_17 : decode cX4_takeLeftward 17 = .ok (.iaload, 1) := by decide +kernel
theorem dX4_takeLeftward_18 : decode cX4_takeLeftward 18 = .ok (.invokevirtual 22, 3) := by decide +kernel
theorem dX4_takeLeftward_21 : decode cX4_takeLeftward 21 = .ok (.iinc 2 (-1), 3) := by decide +kernel
theorem dX4_takeLeftward_24 : decode cX4_takeLeftward 24 = .ok (.goto (-17), 3) := by decide +kernel
theorem dX4_takeLeftward_27 : decode cX4_takeLeftward 27 = .ok (.return_, 1) := by decide +kernel
set_option maxRecDepth 20000 in
theorem ggX4_takeOnce_X1_has : GoodIn wsX4_takeOnce wsX1_has := goodIn_r _ [6, 7, 8, 14, 15, 16, 17] (by decide +kernel) (by decide +kernel)
set_option maxRecDepth 20000 in
theorem gX4_takeOnce_X1_has_u26X4 : GoodIn wsX4_takeOnce (va_wsU RX4 26 RX4 "LiveHull$Corners" ⟨"LiveHull$Ring", "has", "(I)Z"⟩ yX1_has wsX1_has) := goodIn_app (goodIn_of _ (by decide +kernel)) ggX4_takeOnce_X1_has
set_option maxRecDepth 20000 in
theorem ggX4_takeOnce_X1_append : GoodIn wsX4_takeOnce wsX1_append := goodIn_r _ [13, 7, 8, 14, 15, 16, 17] (by decide +kernel) (by decide +kernel)
set_option maxRecDepth 20000 in
theorem gX4_takeOnce_X1_append_u30X4 : GoodIn wsX4_takeOnce (va_wsU RX4 30 RX4 "LiveHull$Corners" ⟨"LiveHull$Ring", "append", "(I)V"⟩ yX1_append wsX1_append) := goodIn_app (goodIn_of _ (by decide +kernel)) ggX4_takeOnce_X1_append
theorem dX4_takeOnce_0 : decode cX4_takeOnce 0 = .ok (.aload_n 0, 1) := by decide +kernel
theorem dX4_takeOnce_1 : decode cX4_takeOnce 1 = .ok (.iload_n 1, 1) := by decide +kernel
theorem dX4_takeOnce_2 : decode cX4_takeOnce 2 = .ok (.invokevirtual 26, 3) := by decide +kernel
theorem dX4_takeOnce_5 : decode cX4_takeOnce 5 = .ok (.ifCond .ne 8, 3) := by decide +kernel
theorem dX4_takeOnce_8 : decode cX4_takeOnce 8 = .ok (.aload_n 0, 1) := by decide +kernel
theorem dX4_takeOnce_9 : decode cX4_takeOnce 9 = .ok (.iload_n 1, 1) := by decide +kernel
theorem dX4_takeOnce_10 : decode cX4_takeOnce 10 = .ok (.invokevirtual 30, 3) := by decide +kernel
theorem dX4_takeOnce_13 : decode cX4_takeOnce 13 = .ok (.return_, 1) := by decide +kernel
set_option maxRecDepth 20000 in
theorem ggX4_farthest_X4_isFarther : GoodIn wsX4_farthest wsX4_isFarther := goodIn_r _ [8, 9, 10, 11, 12, 13, 14, 15, 20, 21, 22, 23] (by decide +kernel) (by decide +kernel)
set_option maxRecDepth 20000 in
theorem gX4_farthest_X4_isFarther : GoodIn wsX4_farthest (va_wsS RX4 34 yX4_isFarther wsX4_isFarther) := goodIn_app (goodIn_of _ (by decide +kernel)) ggX4_farthest_X4_isFarther
theorem dX4_farthest_0 : decode cX4_farthest 0 = .ok (.bipush (-6), 2) := by decide +kernel
theorem dX4_farthest_2 : decode cX4_farthest 2 = .ok (.istore 4, 2) := by decide +kernel
theorem dX4_farthest_4 : decode cX4_farthest 4 = .ok (.iconst 0, 1) := by decide +kernel
theorem dX4_farthest_5 : decode cX4_farthest 5 = .ok (.istore 5, 2) := by decide +kernel
theorem dX4_farthest_7 : decode cX4_farthest 7 = .ok (.iload 5, 2) := by decide +kernel
theorem dX4_farthest_9 : decode cX4_farthest 9 = .ok (.aload_n 0, 1) := by decide +kernel
theorem dX4_farthest_10 : decode cX4_farthest 10 = .ok (.getfield 9, 3) := by decide +kernel
theorem dX4_farthest_13 : decode cX4_farthest 13 = .ok (.if_icmp .ge 43, 3) := by decide +kernel
theorem dX4_farthest_16 : decode cX4_farthest 16 = .ok (.iload 4, 2) := by decide +kernel
theorem dX4_farthest_18 : decode cX4_farthest 18 = .ok (.bipush (-6), 2) := by decide +kernel
theorem dX4_farthest_20 : decode cX4_farthest 20 = .ok (.if_icmp .eq 21, 3) := by decide +kernel
theorem dX4_farthest_23 : decode cX4_farthest 23 = .ok (.aload_n 1, 1) := by decide +kernel
theorem dX4_farthest_24 : decode cX4_farthest 24 = .ok (.aload_n 0, 1) := by decide +kernel
theorem dX4_farthest_25 : decode cX4_farthest 25 = .ok (.getfield 33, 3) := by decide +kernel
theorem dX4_farthest_28 : decode cX4_farthest 28 = .ok (.iload 5, 2) := by decide +kernel
theorem dX4_farthest_30 : decode cX4_farthest 30 = .ok (.iaload, 1) := by decide +kernel
theorem dX4_farthest_31 : decode cX4_farthest 31 = .ok (.iload 4, 2) := by decide +kernel
theorem dX4_farthest_33 : decode cX4_farthest 33 = .ok (.iload_n 2, 1) := by decide +kernel
theorem dX4_farthest_34 : decode cX4_farthest 34 = .ok (.iload_n 3, 1) := by decide +kernel
theorem dX4_farthest_35 : decode cX4_farthest 35 = .ok (.invokestatic 34, 3) := by decide +kernel
theorem dX4_farthest_38 : decode cX4_farthest 38 = .ok (.ifCond .eq 12, 3) := by decide +kernel
theorem dX4_farthest_41 : decode cX4_farthest 41 = .ok (.aload_n 0, 1) := by decide +kernel
theorem dX4_farthest_42 : decode cX4_farthest 42 = .ok (.getfield 33, 3) := by decide +kernel
theorem dX4_farthest_45 : decode cX4_farthest 45 = .ok (.iload 5, 2) := by decide +kernel
theorem dX4_farthest_47 : decode cX4_farthest 47 = .ok (.iaload, 1) := by decide +kernel
theorem dX4_farthest_48 : decode cX4_farthest 48 = .ok (.istore 4, 2) := by decide +kernel
theorem dX4_farthest_50 : decode cX4_farthest 50 = .ok (.iinc 5 1, 3) := by decide +kernel
theorem dX4_farthest_53 : decode cX4_farthest 53 = .ok (.goto (-46), 3) := by decide +kernel
theorem dX4_farthest_56 : decode cX4_farthest 56 = .ok (.iload 4, 2) := by decide +kernel
theorem dX4_farthest_58 : decode cX4_farthest 58 = .ok (.ireturn, 1) := by decide +kernel
set_option maxRecDepth 20000 in
theorem ggX4_isFarther_X3_reach : GoodIn wsX4_isFarther wsX3_reach := goodIn_r _ [5, 6, 7, 8, 9, 10, 11] (by decide +kernel) (by decide +kernel)
set_option maxRecDepth 20000 in
theorem gX4_isFarther_X3_reach : GoodIn wsX4_isFarther (wsV RX4 38 RX3 yX3_reach wsX3_reach) := goodIn_app (goodIn_of _ (by decide +kernel)) ggX4_isFarther_X3_reach
theorem dX4_isFarther_0 : decode cX4_isFarther 0 = .ok (.aload_n 0, 1) := by decide +kernel
theorem dX4_isFarther_1 : decode cX4_isFarther 1 = .ok (.iload_n 1, 1) := by decide +kernel
theorem dX4_isFarther_2 : decode cX4_isFarther 2 = .ok (.iload_n 3, 1) := by decide +kernel
theorem dX4_isFarther_3 : decode cX4_isFarther 3 = .ok (.iload 4, 2) := by decide +kernel
theorem dX4_isFarther_5 : decode cX4_isFarther 5 = .ok (.invokevirtual 38, 3) := by decide +kernel
theorem dX4_isFarther_8 : decode cX4_isFarther 8 = .ok (.lstore 5, 2) := by decide +kernel
theorem dX4_isFarther_10 : decode cX4_isFarther 10 = .ok (.aload_n 0, 1) := by decide +kernel
theorem dX4_isFarther_11 : decode cX4_isFarther 11 = .ok (.iload_n 2, 1) := by decide +kernel
theorem dX4_isFarther_12 : decode cX4_isFarther 12 = .ok (.iload_n 3, 1) := by decide +kernel
theorem dX4_isFarther_13 : decode cX4_isFarther 13 = .ok (.iload 4, 2) := by decide +kernel
theorem dX4_isFarther_15 : decode cX4_isFarther 15 = .ok (.invokevirtual 38, 3) := by decide +kernel
theorem dX4_isFarther_18 : decode cX4_isFarther 18 = .ok (.lstore 7, 2) := by decide +kernel
theorem dX4_isFarther_20 : decode cX4_isFarther 20 = .ok (.lload 5, 2) := by decide +kernel
theorem dX4_isFarther_22 : decode cX4_isFarther 22 = .ok (.lload 7, 2) := by decide +kernel
theorem dX4_isFarther_24 : decode cX4_isFarther 24 = .ok (.lcmp, 1) := by decide +kernel
theorem dX4_isFarther_25 : decode cX4_isFarther 25 = .ok (.ifCond .gt 16, 3) := by decide +kernel
theorem dX4_isFarther_28 : decode cX4_isFarther 28 = .ok (.lload 5, 2) := by decide +kernel
theorem dX4_isFarther_30 : decode cX4_isFarther 30 = .ok (.lload 7, 2) := by decide +kernel
theorem dX4_isFarther_32 : decode cX4_isFarther 32 = .ok (.lcmp, 1) := by decide +kernel
theorem dX4_isFarther_33 : decode cX4_isFarther 33 = .ok (.ifCond .ne 12, 3) := by decide +kernel
theorem dX4_isFarther_36 : decode cX4_isFarther 36 = .ok (.iload_n 1, 1) := by decide +kernel
theorem dX4_isFarther_37 : decode cX4_isFarther 37 = .ok (.iload_n 2, 1) := by decide +kernel
theorem dX4_isFarther_38 : decode cX4_isFarther 38 = .ok (.if_icmp .ge 7, 3) := by decide +kernel
theorem dX4_isFarther_41 : decode cX4_isFarther 41 = .ok (.iconst 1, 1) := by decide +kernel
theorem dX4_isFarther_42 : decode cX4_isFarther 42 = .ok (.goto 4, 3) := by decide +kernel
theorem dX4_isFarther_45 : decode cX4_isFarther 45 = .ok (.iconst 0, 1) := by decide +kernel
theorem dX4_isFarther_46 : decode cX4_isFarther 46 = .ok (.ireturn, 1) := by decide +kernel
set_option maxRecDepth 20000 in
theorem ggX4_locate_X4_isAtCorner : GoodIn wsX4_locate wsX4_isAtCorner := goodIn_r _ [9, 1, 2, 3, 4, 10, 11, 12, 13, 14, 15, 16, 32, 33, 34, 35, 36, 37, 38, 39] (by decide +kernel) (by decide +kernel)
set_option maxRecDepth 20000 in
theorem gX4_locate_X4_isAtCorner : GoodIn wsX4_locate (wsV RX4 44 RX4 yX4_isAtCorner wsX4_isAtCorner) := goodIn_app (goodIn_of _ (by decide +kernel)) ggX4_locate_X4_isAtCorner
set_option maxRecDepth 20000 in
theorem ggX4_locate_X3_turn : GoodIn wsX4_locate wsX3_turn := goodIn_r _ [20, 15, 16, 36, 37, 38, 39] (by decide +kernel) (by decide +kernel)
set_option maxRecDepth 20000 in
theorem gX4_locate_X3_turn : GoodIn wsX4_locate (wsV RX4 48 RX3 yX3_turn wsX3_turn) := goodIn_app (goodIn_of _ (by decide +kernel)) ggX4_locate_X3_turn
set_option maxRecDepth 20000 in
theorem ggX4_locate_X3_isBoxed : GoodIn wsX4_locate wsX3_isBoxed := goodIn_r _ [24, 15, 25, 26, 27, 28, 29, 30, 31, 16, 36, 37, 38, 39] (by decide +kernel) (by decide +kernel)
set_option maxRecDepth 20000 in
theorem gX4_locate_X3_isBoxed : GoodIn wsX4_locate (wsV RX4 52 RX3 yX3_isBoxed wsX3_isBoxed) := goodIn_app (goodIn_of _ (by decide +kernel)) ggX4_locate_X3_isBoxed
theorem dX4_locate_0 : decode cX4_locate 0 = .ok (.aload_n 0, 1) := by decide +kernel
theorem dX4_locate_1 : decode cX4_locate 1 = .ok (.aload_n 1, 1) := by decide +kernel
theorem dX4_locate_2 : decode cX4_locate 2 = .ok (.iload_n 2, 1) := by decide +kernel
theorem dX4_locate_3 : decode cX4_locate 3 = .ok (.iload_n 3, 1) := by decide +kernel
theorem dX4_locate_4 : decode cX4_locate 4 = .ok (.invokevirtual 44, 3) := by decide +kernel
theorem dX4_locate_7 : decode cX4_locate 7 = .ok (.ifCond .eq 5, 3) := by decide +kernel
theorem dX4_locate_10 : decode cX4_locate 10 = .ok (.iconst 1, 1) := by decide +kernel
theorem dX4_locate_11 : decode cX4_locate 11 = .ok (.ireturn, 1) := by decide +kernel
theorem dX4_locate_12 : decode cX4_locate 12 = .ok (.iconst 0, 1) := by decide +kernel
theorem dX4_locate_13 : decode cX4_locate 13 = .ok (.istore 4, 2) := by decide +kernel
theorem dX4_locate_15 : decode cX4_locate 15 = .ok (.iload 4, 2) := by decide +kernel
theorem dX4_locate_17 : decode cX4_locate 17 = .ok (.aload_n 0, 1) := by decide +kernel
theorem dX4_locate_18 : decode cX4_locate 18 = .ok (.getfield 9, 3) := by decide +kernel
theorem dX4_locate_21 : decode cX4_locate 21 = .ok (.if_icmp .ge 96, 3) := by decide +kernel
theorem dX4_locate_24 : decode cX4_locate 24 = .ok (.aload_n 0, 1) := by decide +kernel
theorem dX4_locate_25 : decode cX4_locate 25 = .ok (.getfield 33, 3) := by decide +kernel
theorem dX4_locate_28 : decode cX4_locate 28 = .ok (.iload 4, 2) := by decide +kernel
theorem dX4_locate_30 : decode cX4_locate 30 = .ok (.iaload, 1) := by decide +kernel
theorem dX4_locate_31 : decode cX4_locate 31 = .ok (.istore 5, 2) := by decide +kernel
theorem dX4_locate_33 : decode cX4_locate 33 = .ok (.iload 4, 2) := by decide +kernel
theorem dX4_locate_35 : decode cX4_locate 35 = .ok (.iconst 1, 1) := by decide +kernel
theorem dX4_locate_36 : decode cX4_locate 36 = .ok (.iadd, 1) := by decide +kernel
theorem dX4_locate_37 : decode cX4_locate 37 = .ok (.aload_n 0, 1) := by decide +kernel
theorem dX4_locate_38 : decode cX4_locate 38 = .ok (.getfield 9, 3) := by decide +kernel
theorem dX4_locate_41 : decode cX4_locate 41 = .ok (.if_icmp .ge 15, 3) := by decide +kernel
theorem dX4_locate_44 : decode cX4_locate 44 = .ok (.aload_n 0, 1) := by decide +kernel
theorem dX4_locate_45 : decode cX4_locate 45 = .ok (.getfield 33, 3) := by decide +kernel
theorem dX4_locate_48 : decode cX4_locate 48 = .ok (.iload 4, 2) := by decide +kernel
theorem dX4_locate_50 : decode cX4_locate 50 = .ok (.iconst 1, 1) := by decide +kernel
theorem dX4_locate_51 : decode cX4_locate 51 = .ok (.iadd, 1) := by decide +kernel
theorem dX4_locate_52 : decode cX4_locate 52 = .ok (.iaload, 1) := by decide +kernel
theorem dX4_locate_53 : decode cX4_locate 53 = .ok (.goto 9, 3) := by decide +kernel
theorem dX4_locate_56 : decode cX4_locate 56 = .ok (.aload_n 0, 1) := by decide +kernel
theorem dX4_locate_57 : decode cX4_locate 57 = .ok (.getfield 33, 3) := by decide +kernel
theorem dX4_locate_60 : decode cX4_locate 60 = .ok (.iconst 0, 1) := by decide +kernel
theorem dX4_locate_61 : decode cX4_locate 61 = .ok (.iaload, 1) := by decide +kernel
theorem dX4_locate_62 : decode cX4_locate 62 = .ok (.istore 6, 2) := by decide +kernel
theorem dX4_locate_64 : decode cX4_locate 64 = .ok (.aload_n 1, 1) := by decide +kernel
theorem dX4_locate_65 : decode cX4_locate 65 = .ok (.iload 5, 2) := by decide +kernel
theorem dX4_locate_67 : decode cX4_locate 67 = .ok (.iload 6, 2) := by decide +kernel
theorem dX4_locate_69 : decode cX4_locate 69 = .ok (.iload_n 2, 1) := by decide +kernel
theorem dX4_locate_70 : decode cX4_locate 70 = .ok (.iload_n 3, 1) := by decide +kernel
theorem dX4_locate_71 : decode cX4_locate 71 = .ok (.invokevirtual 48, 3) := by decide +kernel
theorem dX4_locate_74 : decode cX4_locate 74 = .ok (.lstore 7, 2) := by decide +kernel
theorem dX4_locate_76 : decode cX4_locate 76 = .ok (.lload 7, 2) := by decide +kernel
theorem dX4_locate_78 : decode cX4_locate 78 = .ok (.lconst 0, 1) := by decide +kernel
theorem dX4_locate_79 : decode cX4_locate 79 = .ok (.lcmp, 1) := by decide +kernel
theorem dX4_locate_80 : decode cX4_locate 80 = .ok (.ifCond .ge 5, 3) := by decide +kernel
theorem dX4_locate_83 : decode cX4_locate 83 = .ok (.iconst 0, 1) := by decide +kernel
theorem dX4_locate_84 : decode cX4_locate 84 = .ok (.ireturn, 1) := by decide +kernel
theorem dX4_locate_85 : decode cX4_locate 85 = .ok (.lload 7, 2) := by decide +kernel
theorem dX4_locate_87 : decode cX4_locate 87 = .ok (.lconst 0, 1) := by decide +kernel
theorem dX4_locate_88 : decode cX4_locate 88 = .ok (.lcmp, 1) := by decide +kernel
theorem dX4_locate_89 : decode cX4_locate 89 = .ok (.ifCond .ne 22, 3) := by decide +kernel
theorem dX4_locate_92 : decode cX4_locate 92 = .ok (.aload_n 1, 1) := by decide +kernel
theorem dX4_locate_93 : decode cX4_locate 93 = .ok (.iload 5, 2) := by decide +kernel
theorem dX4_locate_95 : decode cX4_locate 95 = .ok (.iload 6, 2) := by decide +kernel
theorem dX4_locate_97 : decode cX4_locate 97 = .ok (.iload_n 2, 1) := by decide +kernel
theorem dX4_locate_98 : decode cX4_locate 98 = .ok (.iload_n 3, 1) := by decide +kernel
theorem dX4_locate_99 : decode cX4_locate 99 = .ok (.invokevirtual 52, 3) := by decide +kernel
theorem dX4_locate_102 : decode cX4_locate 102 = .ok (.ifCond .eq 7, 3) := by decide +kernel
theorem dX4_locate_105 : decode cX4_locate 105 = .ok (.iconst 2, 1) := by decide +kernel
theorem dX4_locate_106 : decode cX4_locate 106 = .ok (.goto 4, 3) := by decide +kernel
theorem dX4_locate_109 : decode cX4_locate 109 = .ok (.iconst 0, 1) := by decide +kernel
theorem dX4_locate_110 : decode cX4_locate 110 = .ok (.ireturn, 1) := by decide +kernel
theorem dX4_locate_111 : decode cX4_locate 111 = .ok (.iinc 4 1, 3) := by decide +kernel
theorem dX4_locate_114 : decode cX4_locate 114 = .ok (.goto (-99), 3) := by decide +kernel
theorem dX4_locate_117 : decode cX4_locate 117 = .ok (.aload_n 0, 1) := by decide +kernel
theorem dX4_locate_118 : decode cX4_locate 118 = .ok (.getfield 9, 3) := by decide +kernel
theorem dX4_locate_121 : decode cX4_locate 121 = .ok (.ifCond .ne 7, 3) := by decide +kernel
theorem dX4_locate_124 : decode cX4_locate 124 = .ok (.iconst 0, 1) := by decide +kernel
theorem dX4_locate_125 : decode cX4_locate 125 = .ok (.goto 4, 3) := by decide +kernel
theorem dX4_locate_128 : decode cX4_locate 128 = .ok (.iconst 3, 1) := by decide +kernel
theorem dX4_locate_129 : decode cX4_locate 129 = .ok (.ireturn, 1) := by decide +kernel
set_option maxRecDepth 20000 in
theorem ggX4_isAtCorner_X3_isAt : GoodIn wsX4_isAtCorner wsX3_isAt := goodIn_r _ [9, 10, 11, 16, 17, 18, 19] (by decide +kernel) (by decide +kernel)
set_option maxRecDepth 20000 in
theorem gX4_isAtCorner_X3_isAt : GoodIn wsX4_isAtCorner (wsV RX4 56 RX3 yX3_isAt wsX3_isAt) := goodIn_app (goodIn_of _ (by decide +kernel)) ggX4_isAtCorner_X3_isAt
theorem dX4_isAtCorner_0 : decode cX4_isAtCorner 0 = .ok (.iconst 0, 1) := by decide +kernel
theorem dX4_isAtCorner_1 : decode cX4_isAtCorner 1 = .ok (.istore 4, 2) := by decide +kernel
theorem dX4_isAtCorner_3 : decode cX4_isAtCorner 3 = .ok (.iload 4, 2) := by decide +kernel
theorem dX4_isAtCorner_5 : decode cX4_isAtCorner 5 = .ok (.aload_n 0, 1) := by decide +kernel
theorem dX4_isAtCorner_6 : decode cX4_isAtCorner 6 = .ok (.getfield 9, 3) := by decide +kernel
theorem dX4_isAtCorner_9 : decode cX4_isAtCorner 9 = .ok (.if_icmp .ge 27, 3) := by decide +kernel
theorem dX4_isAtCorner_12 : decode cX4_isAtCorner 12 = .ok (.aload_n 1, 1) := by decide +kernel
theorem dX4_isAtCorner_13 : decode cX4_isAtCorner 13 = .ok (.aload_n 0, 1) := by decide +kernel
theorem dX4_isAtCorner_14 : decode cX4_isAtCorner 14 = .ok (.getfield 33, 3) := by decide +kernel
theorem dX4_isAtCorner_17 : decode cX4_isAtCorner 17 = .ok (.iload 4, 2) := by decide +kernel
theorem dX4_isAtCorner_19 : decode cX4_isAtCorner 19 = .ok (.iaload, 1) := by decide +kernel
theorem dX4_isAtCorner_20 : decode cX4_isAtCorner 20 = .ok (.iload_n 2, 1) := by decide +kernel
theorem dX4_isAtCorner_21 : decode cX4_isAtCorner 21 = .ok (.iload_n 3, 1) := by decide +kernel
theorem dX4_isAtCorner_22 : decode cX4_isAtCorner 22 = .ok (.invokevirtual 56, 3) := by decide +kernel
theorem dX4_isAtCorner_25 : decode cX4_isAtCorner 25 = .ok (.ifCond .eq 5, 3) := by decide +kernel
theorem dX4_isAtCorner_28 : decode cX4_isAtCorner 28 = .ok (.iconst 1, 1) := by decide +kernel
theorem dX4_isAtCorner_29 : decode cX4_isAtCorner 29 = .ok (.ireturn, 1) := by decide +kernel
theorem dX4_isAtCorner_30 : decode cX4_isAtCorner 30 = .ok (.iinc 4 1, 3) := by decide +kernel
theorem dX4_isAtCorner_33 : decode cX4_isAtCorner 33 = .ok (.goto (-30), 3) := by decide +kernel
theorem dX4_isAtCorner_36 : decode cX4_isAtCorner 36 = .ok (.iconst 0, 1) := by decide +kernel
theorem dX4_isAtCorner_37 : decode cX4_isAtCorner 37 = .ok (.ireturn, 1) := by decide +kernel
set_option maxRecDepth 20000 in
theorem ggX4_nearestTouching_X4_isTouching : GoodIn wsX4_nearestTouching wsX4_isTouching := goodIn_r _ [9, 1, 2, 3, 4, 10, 11, 12, 13, 14, 15, 16, 24, 25, 26, 27, 28, 29, 30, 31] (by decide +kernel) (by decide +kernel)
set_option maxRecDepth 20000 in
theorem gX4_nearestTouching_X4_isTouching : GoodIn wsX4_nearestTouching (wsV RX4 60 RX4 yX4_isTouching wsX4_isTouching) := goodIn_app (goodIn_of _ (by decide +kernel)) ggX4_nearestTouching_X4_isTouching
set_option maxRecDepth 20000 in
theorem ggX4_nearestTouching_X4_isNearer : GoodIn wsX4_nearestTouching wsX4_isNearer := goodIn_r _ [19, 20, 21, 22, 13, 23, 15, 16, 28, 29, 30, 31] (by decide +kernel) (by decide +kernel)
set_option maxRecDepth 20000 in
theorem gX4_nearestTouching_X4_isNearer : GoodIn wsX4_nearestTouching (va_wsS RX4 63 yX4_isNearer wsX4_isNearer) := goodIn_app (goodIn_of _ (by decide +kernel)) ggX4_nearestTouching_X4_isNearer
theorem dX4_nearestTouching_0 : decode cX4_nearestTouching 0 = .ok (.bipush (-6), 2) := by decide +kernel
theorem dX4_nearestTouching_2 : decode cX4_nearestTouching 2 = .ok (.istore 5, 2) := by decide +kernel
theorem dX4_nearestTouching_4 : decode cX4_nearestTouching 4 = .ok (.iconst 0, 1) := by decide +kernel
theorem dX4_nearestTouching_5 : decode cX4_nearestTouching 5 = .ok (.istore 6, 2) := by decide +kernel
theorem dX4_nearestTouching_7 : decode cX4_nearestTouching 7 = .ok (.iload 6, 2) := by decide +kernel
theorem dX4_nearestTouching_9 : decode cX4_nearestTouching 9 = .ok (.aload_n 0, 1) := by decide +kernel
theorem dX4_nearestTouching_10 : decode cX4_nearestTouching 10 = .ok (.getfield 9, 3) := by decide +kernel
theorem dX4_nearestTouching_13 : decode cX4_nearestTouching 13 = .ok (.if_icmp .ge 56, 3) := by decide +kernel
theorem dX4_nearestTouching_16 : decode cX4_nearestTouching 16 = .ok (.aload_n 0, 1) := by decide +kernel
theorem dX4_nearestTouching_17 : decode cX4_nearestTouching 17 = .ok (.getfield 33, 3) := by decide +kernel
theorem dX4_nearestTouching_20 : decode cX4_nearestTouching 20 = .ok (.iload 6, 2) := by decide +kernel
theorem dX4_nearestTouching_22 : decode cX4_nearestTouching 22 = .ok (.iaload, 1) := by decide +kernel
theorem dX4_nearestTouching_23 : decode cX4_nearestTouching 23 = .ok (.istore 7, 2) := by decide +kernel
theorem dX4_nearestTouching_25 : decode cX4_nearestTouching 25 = .ok (.aload_n 0, 1) := by decide +kernel
theorem dX4_nearestTouching_26 : decode cX4_nearestTouching 26 = .ok (.aload_n 1, 1) := by decide +kernel
theorem dX4_nearestTouching_27 : decode cX4_nearestTouching 27 = .ok (.iload 7, 2) := by decide +kernel
theorem dX4_nearestTouching_29 : decode cX4_nearestTouching 29 = .ok (.iload_n 2, 1) := by decide +kernel
theorem dX4_nearestTouching_30 : decode cX4_nearestTouching 30 = .ok (.iload_n 3, 1) := by decide +kernel
theorem dX4_nearestTouching_31 : decode cX4_nearestTouching 31 = .ok (.iload 4, 2) := by decide +kernel
theorem dX4_nearestTouching_33 : decode cX4_nearestTouching 33 = .ok (.invokevirtual 60, 3) := by decide +kernel
theorem dX4_nearestTouching_36 : decode cX4_nearestTouching 36 = .ok (.ifCond .eq 27, 3) := by decide +kernel
theorem dX4_nearestTouching_39 : decode cX4_nearestTouching 39 = .ok (.iload 5, 2) := by decide +kernel
theorem dX4_nearestTouching_41 : decode cX4_nearestTouching 41 = .ok (.bipush (-6), 2) := by decide +kernel
theorem dX4_nearestTouching_43 : decode cX4_nearestTouching 43 = .ok (.if_icmp .eq 16, 3) := by decide +kernel
theorem dX4_nearestTouching_46 : decode cX4_nearestTouching 46 = .ok (.aload_n 1, 1) := by decide +kernel
theorem dX4_nearestTouching_47 : decode cX4_nearestTouching 47 = .ok (.iload 7, 2) := by decide +kernel
theorem dX4_nearestTouching_49 : decode cX4_nearestTouching 49 = .ok (.iload 5, 2) := by decide +kernel
theorem dX4_nearestTouching_51 : decode cX4_nearestTouching 51 = .ok (.iload_n 2, 1) := by decide +kernel
theorem dX4_nearestTouching_52 : decode cX4_nearestTouching 52 = .ok (.iload_n 3, 1) := by decide +kernel
theorem dX4_nearestTouching_53 : decode cX4_nearestTouching 53 = .ok (.invokestatic 63, 3) := by decide +kernel
theorem dX4_nearestTouching_56 : decode cX4_nearestTouching 56 = .ok (.ifCond .eq 7, 3) := by decide +kernel
theorem dX4_nearestTouching_59 : decode cX4_nearestTouching 59 = .ok (.iload 7, 2) := by decide +kernel
theorem dX4_nearestTouching_61 : decode cX4_nearestTouching 61 = .ok (.istore 5, 2) := by decide +kernel
theorem dX4_nearestTouching_63 : decode cX4_nearestTouching 63 = .ok (.iinc 6 1, 3) := by decide +kernel
theorem dX4_nearestTouching_66 : decode cX4_nearestTouching 66 = .ok (.goto (-59), 3) := by decide +kernel
theorem dX4_nearestTouching_69 : decode cX4_nearestTouching 69 = .ok (.iload 5, 2) := by decide +kernel
theorem dX4_nearestTouching_71 : decode cX4_nearestTouching 71 = .ok (.ireturn, 1) := by decide +kernel
set_option maxRecDepth 20000 in
theorem ggX4_isTouching_X3_turn : GoodIn wsX4_isTouching wsX3_turn := goodIn_r _ [9, 10, 11, 16, 17, 18, 19] (by decide +kernel) (by decide +kernel)
set_option maxRecDepth 20000 in
theorem gX4_isTouching_X3_turn : GoodIn wsX4_isTouching (wsV RX4 48 RX3 yX3_turn wsX3_turn) := goodIn_app (goodIn_of _ (by decide +kernel)) ggX4_isTouching_X3_turn
theorem dX4_isTouching_0 : decode cX4_isTouching 0 = .ok (.iconst 0, 1) := by decide +kernel
theorem dX4_isTouching_1 : decode cX4_isTouching 1 = .ok (.istore 6, 2) := by decide +kernel
theorem dX4_isTouching_3 : decode cX4_isTouching 3 = .ok (.iload 6, 2) := by decide +kernel
theorem dX4_isTouching_5 : decode cX4_isTouching 5 = .ok (.aload_n 0, 1) := by decide +kernel
theorem dX4_isTouching_6 : decode cX4_isTouching 6 = .ok (.getfield 9, 3) := by decide +kernel
theorem dX4_isTouching_9 : decode cX4_isTouching 9 = .ok (.if_icmp .ge 50, 3) := by decide +kernel
theorem dX4_isTouching_12 : decode cX4_isTouching 12 = .ok (.aload_n 1, 1) := by decide +kernel
theorem dX4_isTouching_13 : decode cX4_isTouching 13 = .ok (.iload_n 2, 1) := by decide +kernel
theorem dX4_isTouching_14 : decode cX4_isTouching 14 = .ok (.aload_n 0, 1) := by decide +kernel
theorem dX4_isTouching_15 : decode cX4_isTouching 15 = .ok (.getfield 33, 3) := by decide +kernel
theorem dX4_isTouching_18 : decode cX4_isTouching 18 = .ok (.iload 6, 2) := by decide +kernel
theorem dX4_isTouching_20 : decode cX4_isTouching 20 = .ok (.iaload, 1) := by decide +kernel
theorem dX4_isTouching_21 : decode cX4_isTouching 21 = .ok (.iload_n 3, 1) := by decide +kernel
theorem dX4_isTouching_22 : decode cX4_isTouching 22 = .ok (.iload 4, 2) := by decide +kernel
theorem dX4_isTouching_24 : decode cX4_isTouching 24 = .ok (.invokevirtual 48, 3) := by decide +kernel
theorem dX4_isTouching_27 : decode cX4_isTouching 27 = .ok (.lstore 7, 2) := by decide +kernel
theorem dX4_isTouching_29 : decode cX4_isTouching 29 = .ok (.iload 5, 2) := by decide +kernel
theorem dX4_isTouching_31 : decode cX4_isTouching 31 = .ok (.ifCond .ne 13, 3) := by decide +kernel
theorem dX4_isTouching_34 : decode cX4_isTouching 34 = .ok (.lload 7, 2) := by decide +kernel
theorem dX4_isTouching_36 : decode cX4_isTouching 36 = .ok (.lconst 0, 1) := by decide +kernel
theorem dX4_isTouching_37 : decode cX4_isTouching 37 = .ok (.lcmp, 1) := by decide +kernel
theorem dX4_isTouching_38 : decode cX4_isTouching 38 = .ok (.ifCond .ge 15, 3) := by decide +kernel
theorem dX4_isTouching_41 : decode cX4_isTouching 41 = .ok (.goto 10, 3) := by decide +kernel
theorem dX4_isTouching_44 : decode cX4_isTouching 44 = .ok (.lload 7, 2) := by decide +kernel
theorem dX4_isTouching_46 : decode cX4_isTouching 46 = .ok (.lconst 0, 1) := by decide +kernel
theorem dX4_isTouching_47 : decode cX4_isTouching 47 = .ok (.lcmp, 1) := by decide +kernel
theorem dX4_isTouching_48 : decode cX4_isTouching 48 = .ok (.ifCond .le 5, 3) := by decide +kernel
theorem dX4_isTouching_51 : decode cX4_isTouching 51 = .ok (.iconst 0, 1) := by decide +kernel
theorem dX4_isTouching_52 : decode cX4_isTouching 52 = .ok (.ireturn, 1) := by decide +kernel
theorem dX4_isTouching_53 : decode cX4_isTouching 53 = .ok (.iinc 6 1, 3) := by decide +kernel
theorem dX4_isTouching_56 : decode cX4_isTouching 56 = .ok (.goto (-53), 3) := by decide +kernel
theorem dX4_isTouching_59 : decode cX4_isTouching 59 = .ok (.iconst 1, 1) := by decide +kernel
theorem dX4_isTouching_60 : decode cX4_isTouching 60 = .ok (.ireturn, 1) := by decide +kernel
set_option maxRecDepth 20000 in
theorem ggX4_isNearer_X3_squaredDistance : GoodIn wsX4_isNearer wsX3_squaredDistance := goodIn_r _ [5, 6, 7, 8, 9, 10, 11] (by decide +kernel) (by decide +kernel)
set_option maxRecDepth 20000 in
theorem gX4_isNearer_X3_squaredDistance : GoodIn wsX4_isNearer (wsV RX4 66 RX3 yX3_squaredDistance wsX3_squaredDistance) := goodIn_app (goodIn_of _ (by decide +kernel)) ggX4_isNearer_X3_squaredDistance
theorem dX4_isNearer_0 : decode cX4_isNearer 0 = .ok (.aload_n 0, 1) := by decide +kernel
theorem dX4_isNearer_1 : decode cX4_isNearer 1 = .ok (.iload_n 1, 1) := by decide +kernel
theorem dX4_isNearer_2 : decode cX4_isNearer 2 = .ok (.iload_n 3, 1) := by decide +kernel
theorem dX4_isNearer_3 : decode cX4_isNearer 3 = .ok (.iload 4, 2) := by decide +kernel
theorem dX4_isNearer_5 : decode cX4_isNearer 5 = .ok (.invokevirtual 66, 3) := by decide +kernel
theorem dX4_isNearer_8 : decode cX4_isNearer 8 = .ok (.aload_n 0, 1) := by decide +kernel
theorem dX4_isNearer_9 : decode cX4_isNearer 9 = .ok (.iload_n 2, 1) := by decide +kernel
theorem dX4_isNearer_10 : decode cX4_isNearer 10 = .ok (.iload_n 3, 1) := by decide +kernel
theorem dX4_isNearer_11 : decode cX4_isNearer 11 = .ok (.iload 4, 2) := by decide +kernel
theorem dX4_isNearer_13 : decode cX4_isNearer 13 = .ok (.invokevirtual 66, 3) := by decide +kernel
theorem dX4_isNearer_16 : decode cX4_isNearer 16 = .ok (.lcmp, 1) := by decide +kernel
theorem dX4_isNearer_17 : decode cX4_isNearer 17 = .ok (.ifCond .ge 7, 3) := by decide +kernel
theorem dX4_isNearer_20 : decode cX4_isNearer 20 = .ok (.iconst 1, 1) := by decide +kernel
theorem dX4_isNearer_21 : decode cX4_isNearer 21 = .ok (.goto 4, 3) := by decide +kernel
theorem dX4_isNearer_24 : decode cX4_isNearer 24 = .ok (.iconst 0, 1) := by decide +kernel
theorem dX4_isNearer_25 : decode cX4_isNearer 25 = .ok (.ireturn, 1) := by decide +kernel
set_option maxRecDepth 20000 in
theorem ggX4_doubleArea_X3_turn : GoodIn wsX4_doubleArea wsX3_turn := goodIn_r _ [11, 12, 13, 18, 19, 20, 21] (by decide +kernel) (by decide +kernel)
set_option maxRecDepth 20000 in
theorem gX4_doubleArea_X3_turn : GoodIn wsX4_doubleArea (wsV RX4 48 RX3 yX3_turn wsX3_turn) := goodIn_app (goodIn_of _ (by decide +kernel)) ggX4_doubleArea_X3_turn
theorem dX4_doubleArea_0 : decode cX4_doubleArea 0 = .ok (.lconst 0, 1) := by decide +kernel
theorem dX4_doubleArea_1 : decode cX4_doubleArea 1 = .ok (.lstore_n 2, 1) := by decide +kernel
theorem dX4_doubleArea_2 : decode cX4_doubleArea 2 = .ok (.iconst 1, 1) := by decide +kernel
theorem dX4_doubleArea_3 : decode cX4_doubleArea 3 = .ok (.istore 4, 2) := by decide +kernel
theorem dX4_doubleArea_5 : decode cX4_doubleArea 5 = .ok (.iload 4, 2) := by decide +kernel
theorem dX4_doubleArea_7 : decode cX4_doubleArea 7 = .ok (.iconst 1, 1) := by decide +kernel
theorem dX4_doubleArea_8 : decode cX4_doubleArea 8 = .ok (.iadd, 1) := by decide +kernel
theorem dX4_doubleArea_9 : decode cX4_doubleArea 9 = .ok (.aload_n 0, 1) := by decide +kernel
theorem dX4_doubleArea_10 : decode cX4_doubleArea 10 = .ok (.getfield 9, 3) := by decide +kernel
theorem dX4_doubleArea_13 : decode cX4_doubleArea 13 = .ok (.if_icmp .ge 54, 3) := by decide +kernel
theorem dX4_doubleArea_16 : decode cX4_doubleArea 16 = .ok (.aload_n 0, 1) := by decide +kernel
theorem dX4_doubleArea_17 : decode cX4_doubleArea 17 = .ok (.getfield 33, 3) := by decide +kernel
theorem dX4_doubleArea_20 : decode cX4_doubleArea 20 = .ok (.iload 4, 2) := by decide +kernel
theorem dX4_doubleArea_22 : decode cX4_doubleArea 22 = .ok (.iconst 1, 1) := by decide +kernel
theorem dX4_doubleArea_23 : decode cX4_doubleArea 23 = .ok (.iadd, 1) := by decide +kernel
theorem dX4_doubleArea_24 : decode cX4_doubleArea 24 = .ok (.iaload, 1) := by decide +kernel
theorem dX4_doubleArea_25 : decode cX4_doubleArea 25 = .ok (.istore 5, 2) := by decide +kernel
theorem dX4_doubleArea_27 : decode cX4_doubleArea 27 = .ok (.lload_n 2, 1) := by decide +kernel
theorem dX4_doubleArea_28 : decode cX4_doubleArea 28 = .ok (.aload_n 1, 1) := by decide +kernel
theorem dX4_doubleArea_29 : decode cX4_doubleArea 29 = .ok (.aload_n 0, 1) := by decide +kernel
theorem dX4_doubleArea_30 : decode cX4_doubleArea 30 = .ok (.getfield 33, 3) := by decide +kernel
theorem dX4_doubleArea_33 : decode cX4_doubleArea 33 = .ok (.iconst 0, 1) := by decide +kernel
theorem dX4_doubleArea_34 : decode cX4_doubleArea 34 = .ok (.iaload, 1) := by decide +kernel
theorem dX4_doubleArea_35 : decode cX4_doubleArea 35 = .ok (.aload_n 0, 1) := by decide +kernel
theorem dX4_doubleArea_36 : decode cX4_doubleArea 36 = .ok (.getfield 33, 3) := by decide +kernel
theorem dX4_doubleArea_39 : decode cX4_doubleArea 39 = .ok (.iload 4, 2) := by decide +kernel
theorem dX4_doubleArea_41 : decode cX4_doubleArea 41 = .ok (.iaload, 1) := by decide +kernel
theorem dX4_doubleArea_42 : decode cX4_doubleArea 42 = .ok (.aload_n 1, 1) := by decide +kernel
theorem dX4_doubleArea_43 : decode cX4_doubleArea 43 = .ok (.getfield 69, 3) := by decide +kernel
theorem dX4_doubleArea_46 : decode cX4_doubleArea 46 = .ok (.iload 5, 2) := by decide +kernel
theorem dX4_doubleArea_48 : decode cX4_doubleArea 48 = .ok (.iaload, 1) := by decide +kernel
theorem dX4_doubleArea_49 : decode cX4_doubleArea 49 = .ok (.aload_n 1, 1) := by decide +kernel
theorem dX4_doubleArea_50 : decode cX4_doubleArea 50 = .ok (.getfield 72, 3) := by decide +kernel
theorem dX4_doubleArea_53 : decode cX4_doubleArea 53 = .ok (.iload 5, 2) := by decide +kernel
theorem dX4_doubleArea_55 : decode cX4_doubleArea 55 = .ok (.iaload, 1) := by decide +kernel
theorem dX4_doubleArea_56 : decode cX4_doubleArea 56 = .ok (.invokevirtual 48, 3) := by decide +kernel
theorem dX4_doubleArea_59 : decode cX4_doubleArea 59 = .ok (.ladd, 1) := by decide +kernel
theorem dX4_doubleArea_60 : decode cX4_doubleArea 60 = .ok (.lstore_n 2, 1) := by decide +kernel
theorem dX4_doubleArea_61 : decode cX4_doubleArea 61 = .ok (.iinc 4 1, 3) := by decide +kernel
theorem dX4_doubleArea_64 : decode cX4_doubleArea 64 = .ok (.goto (-59), 3) := by decide +kernel
theorem dX4_doubleArea_67 : decode cX4_doubleArea 67 = .ok (.lload_n 2, 1) := by decide +kernel
theorem dX4_doubleArea_68 : decode cX4_doubleArea 68 = .ok (.lreturn, 1) := by decide +kernel
set_option maxRecDepth 20000 in
theorem ggX5_init_X3_init : GoodIn wsX5_init wsX3_init := goodIn_r _ [25, 26, 2, 3, 27, 28, 29, 30, 31, 47, 48, 49, 50] (by decide +kernel) (by decide +kernel)
set_option maxRecDepth 20000 in
theorem gX5_init_X3_init_n9 : GoodIn wsX5_init (wsX3_init) := ggX5_init_X3_init
set_option maxRecDepth 20000 in
theorem ggX5_init_X2_init : GoodIn wsX5_init wsX2_init := goodIn_r _ [33, 34, 2, 3, 27, 35, 36, 58, 59] (by decide +kernel) (by decide +kernel)
set_option maxRecDepth 20000 in
theorem gX5_init_X2_init_n18 : GoodIn wsX5_init (wsX2_init) := ggX5_init_X2_init
set_option maxRecDepth 20000 in
theorem ggX5_init_X0_init : GoodIn wsX5_init wsX0_init := goodIn_r _ [38, 39, 40, 41, 42, 2, 3, 27, 43, 44, 60, 61, 62, 63] (by decide +kernel) (by decide +kernel)
set_option maxRecDepth 20000 in
theorem gX5_init_X0_init_n25 : GoodIn wsX5_init (wsX0_init) := ggX5_init_X0_init
set_option maxRecDepth 20000 in
theorem ggX5_init_X4_init : GoodIn wsX5_init wsX4_init := goodIn_r _ [46, 39, 40, 41, 42, 2, 3, 27, 43, 44, 60, 61, 62, 63] (by decide +kernel) (by decide +kernel)
set_option maxRecDepth 20000 in
theorem gX5_init_X4_init_n35 : GoodIn wsX5_init (wsX4_init) := ggX5_init_X4_init
theorem dX5_init_0 : decode cX5_init 0 = .ok (.aload_n 0, 1) := by decide +kernel
theorem dX5_init_1 : decode cX5_init 1 = .ok (.invokespecial 1, 3) := by decide +kernel
theorem dX5_init_4 : decode cX5_init 4 = .ok (.aload_n 0, 1) := by decide +kernel
theorem dX5_init_5 : decode cX5_init 5 = .ok (.new 7, 3) := by decide +kernel
theorem dX5_init_8 : decode cX5_init 8 = .ok (.dup, 1) := by decide +kernel
theorem dX5_init_9 : decode cX5_init 9 = .ok (.invokespecial 9, 3) := by decide +kernel
theorem dX5_init_12 : decode cX5_init 12 = .ok (.putfield 10, 3) := by decide +kernel
theorem dX5_init_15 : decode cX5_init 15 = .ok (.aload_n 0, 1) := by decide +kernel
theorem dX5_init_16 : decode cX5_init 16 = .ok (.new 16, 3) := by decide +kernel
theorem dX5_init_19 : decode cX5_init 19 = .ok (.dup, 1) := by decide +kernel
theorem dX5_init_20 : decode cX5_init 20 = .ok (.invokespecial 18, 3) := by decide +kernel
theorem dX5_init_23 : decode cX5_init 23 = .ok (.putfield 19, 3) := by decide +kernel
theorem dX5_init_26 : decode cX5_init 26 = .ok (.aload_n 0, 1) := by decide +kernel
theorem dX5_init_27 : decode cX5_init 27 = .ok (.new 23, 3) := by decide +kernel
theorem dX5_init_30 : decode cX5_init 30 = .ok (.dup, 1) := by decide +kernel
theorem dX5_init_31 : decode cX5_init 31 = .ok (.invokespecial 25, 3) := by decide +kernel
theorem dX5_init_34 : decode cX5_init 34 = .ok (.putfield 26, 3) := by decide +kernel
theorem dX5_init_37 : decode cX5_init 37 = .ok (.aload_n 0, 1) := by decide +kernel
theorem dX5_init_38 : decode cX5_init 38 = .ok (.new 23, 3) := by decide +kernel
theorem dX5_init_41 : decode cX5_init 41 = .ok (.dup, 1) := by decide +kernel
theorem dX5_init_42 : decode cX5_init 42 = .ok (.invokespecial 25, 3) := by decide +kernel
theorem dX5_init_45 : decode cX5_init 45 = .ok (.putfield 30, 3) := by decide +kernel
theorem dX5_init_48 : decode cX5_init 48 = .ok (.aload_n 0, 1) := by decide +kernel
theorem dX5_init_49 : decode cX5_init 49 = .ok (.new 33, 3) := by decide +kernel
theorem dX5_init_52 : decode cX5_init 52 = .ok (.dup, 1) := by decide +kernel
theorem dX5_init_53 : decode cX5_init 53 = .ok (.invokespecial 35, 3) := by decide +kernel
theorem dX5_init_56 : decode cX5_init 56 = .ok (.putfield 36, 3) := by decide +kernel
theorem dX5_init_59 : decode cX5_init 59 = .ok (.aload_n 0, 1) := by decide +kernel
theorem dX5_init_60 : decode cX5_init 60 = .ok (.iconst 2, 1) := by decide +kernel
theorem dX5_init_61 : decode cX5_init 61 = .ok (.anewarray 7, 3) := by decide +kernel
theorem dX5_init_64 : decode cX5_init 64 = .ok (.dup, 1) := by decide +kernel
theorem dX5_init_65 : decode cX5_init 65 = .ok (.iconst 0, 1) := by decide +kernel
theorem dX5_init_66 : decode cX5_init 66 = .ok (.new 7, 3) := by decide +kernel
theorem dX5_init_69 : decode cX5_init 69 = .ok (.dup, 1) := by decide +kernel
theorem dX5_init_70 : decode cX5_init 70 = .ok (.invokespecial 9, 3) := by decide +kernel
theorem dX5_init_73 : decode cX5_init 73 = .ok (.aastore, 1) := by decide +kernel
theorem dX5_init_74 : decode cX5_init 74 = .ok (.dup, 1) := by decide +kernel
theorem dX5_init_75 : decode cX5_init 75 = .ok (.iconst 1, 1) := by decide +kernel
theorem dX5_init_76 : decode cX5_init 76 = .ok (.new 7, 3) := by decide +kernel
theorem dX5_init_79 : decode cX5_init 79 = .ok (.dup, 1) := by decide +kernel
theorem dX5_init_80 : decode cX5_init 80 = .ok (.invokespecial 9, 3) := by decide +kernel
theorem dX5_init_83 : decode cX5_init 83 = .ok (.aastore, 1) := by decide +kernel
theorem dX5_init_84 : decode cX5_init 84 = .ok (.putfield 40, 3) := by decide +kernel
theorem dX5_init_87 : decode cX5_init 87 = .ok (.aload_n 0, 1) := by decide +kernel
theorem dX5_init_88 : decode cX5_init 88 = .ok (.iconst 2, 1) := by decide +kernel
theorem dX5_init_89 : decode cX5_init 89 = .ok (.newarray .boolean, 2) := by decide +kernel
theorem dX5_init_91 : decode cX5_init 91 = .ok (.putfield 44, 3) := by decide +kernel
theorem dX5_init_94 : decode cX5_init 94 = .ok (.return_, 1) := by decide +kernel
set_option maxRecDepth 20000 in
theorem ggX5_add_X5_isPlace : GoodIn wsX5_add wsX5_isPlace := goodIn_r _ [7, 8, 9] (by decide +kernel) (by decide +kernel)
set_option maxRecDepth 20000 in
theorem gX5_add_X5_isPlace : GoodIn wsX5_add (va_wsS RX5 48 yX5_isPlace wsX5_isPlace) := goodIn_app (goodIn_of _ (by decide +kernel)) ggX5_add_X5_isPlace
set_option maxRecDepth 20000 in
theorem ggX5_add_X3_isTaken : GoodIn wsX5_add wsX3_isTaken := goodIn_r _ [14, 15, 16, 17, 18, 13, 19, 20, 21, 61, 62, 63, 64] (by decide +kernel) (by decide +kernel)
set_option maxRecDepth 20000 in
theorem gX5_add_X3_isTaken : GoodIn wsX5_add (wsV RX5 52 RX3 yX3_isTaken wsX3_isTaken) := goodIn_app (goodIn_of _ (by decide +kernel)) ggX5_add_X3_isTaken
set_option maxRecDepth 20000 in
theorem ggX5_add_X3_leastFreeId : GoodIn wsX5_add wsX3_leastFreeId := goodIn_r _ [25, 26, 27, 28, 13, 29, 15, 30, 61, 62, 63, 64] (by decide +kernel) (by decide +kernel)
set_option maxRecDepth 20000 in
theorem gX5_add_X3_leastFreeId : GoodIn wsX5_add (wsV RX5 55 RX3 yX3_leastFreeId wsX3_leastFreeId) := goodIn_app (goodIn_of _ (by decide +kernel)) ggX5_add_X3_leastFreeId
set_option maxRecDepth 20000 in
theorem ggX5_add_X3_insert : GoodIn wsX5_add wsX3_insert := goodIn_r _ [34, 15, 30, 20, 21, 35, 36, 37, 13, 38, 39, 40, 41, 42, 61, 62, 63, 64] (by decide +kernel) (by decide +kernel)
set_option maxRecDepth 20000 in
theorem gX5_add_X3_insert : GoodIn wsX5_add (wsV RX5 59 RX3 yX3_insert wsX3_insert) := goodIn_app (goodIn_of _ (by decide +kernel)) ggX5_add_X3_insert
set_option maxRecDepth 20000 in
theorem ggX5_add_X2_split : GoodIn wsX5_add wsX2_split := goodIn_r _ [47, 48, 49, 50, 51, 52, 46, 53, 65, 66] (by decide +kernel) (by decide +kernel)
set_option maxRecDepth 20000 in
theorem gX5_add_X2_split : GoodIn wsX5_add (wsV RX5 67 RX2 yX2_split wsX2_split) := goodIn_app (goodIn_of _ (by decide +kernel)) ggX5_add_X2_split
theorem dX5_add_0 : decode cX5_add 0 = .ok (.iload_n 1, 1) := by decide +kernel
theorem dX5_add_1 : decode cX5_add 1 = .ok (.iload_n 2, 1) := by decide +kernel
theorem dX5_add_2 : decode cX5_add 2 = .ok (.invokestatic 48, 3) := by decide +kernel
theorem dX5_add_5 : decode cX5_add 5 = .ok (.ifCond .ne 6, 3) := by decide +kernel
theorem dX5_add_8 : decode cX5_add 8 = .ok (.bipush (-2), 2) := by decide +kernel
theorem dX5_add_10 : decode cX5_add 10 = .ok (.ireturn, 1) := by decide +kernel
theorem dX5_add_11 : decode cX5_add 11 = .ok (.aload_n 0, 1) := by decide +kernel
theorem dX5_add_12 : decode cX5_add 12 = .ok (.getfield 10, 3) := by decide +kernel
theorem dX5_add_15 : decode cX5_add 15 = .ok (.iload_n 1, 1) := by decide +kernel
theorem dX5_add_16 : decode cX5_add 16 = .ok (.iload_n 2, 1) := by decide +kernel
theorem dX5_add_17 : decode cX5_add 17 = .ok (.invokevirtual 52, 3) := by decide +kernel
theorem dX5_add_20 : decode cX5_add 20 = .ok (.ifCond .eq 6, 3) := by decide +kernel
theorem dX5_add_23 : decode cX5_add 23 = .ok (.bipush (-5), 2) := by decide +kernel
theorem dX5_add_25 : decode cX5_add 25 = .ok (.ireturn, 1) := by decide +kernel
theorem dX5_add_26 : decode cX5_add 26 = .ok (.aload_n 0, 1) := by decide +kernel
theorem dX5_add_27 : decode cX5_add 27 = .ok (.getfield 10, 3) := by decide +kernel
theorem dX5_add_30 : decode cX5_add 30 = .ok (.invokevirtual 55, 3) := by decide +kernel
theorem dX5_add_33 : decode cX5_add 33 = .ok (.istore_n 3, 1) := by decide +kernel
theorem dX5_add_34 : decode cX5_add 34 = .ok (.iload_n 3, 1) := by decide +kernel
theorem dX5_add_35 : decode cX5_add 35 = .ok (.bipush (-6), 2) := by decide +kernel
theorem dX5_add_37 : decode cX5_add 37 = .ok (.if_icmp .ne 6, 3) := by decide +kernel
theorem dX5_add_40 : decode cX5_add 40 = .ok (.bipush (-4), 2) := by decide +kernel
theorem dX5_add_42 : decode cX5_add 42 = .ok (.ireturn, 1) := by decide +kernel
theorem dX5_add_43 : decode cX5_add 43 = .ok (.aload_n 0, 1) := by decide +kernel
theorem dX5_add_44 : decode cX5_add 44 = .ok (.getfield 10, 3) := by decide +kernel
theorem dX5_add_47 : decode cX5_add 47 = .ok (.iload_n 3, 1) := by decide +kernel
theorem dX5_add_48 : decode cX5_add 48 = .ok (.iload_n 1, 1) := by decide +kernel
theorem dX5_add_49 : decode cX5_add 49 = .ok (.iload_n 2, 1) := by decide +kernel
theorem dX5_add_50 : decode cX5_add 50 = .ok (.invokevirtual 59, 3) := by decide +kernel
theorem dX5_add_53 : decode cX5_add 53 = .ok (.aload_n 0, 1) := by decide +kernel
theorem dX5_add_54 : decode cX5_add 54 = .ok (.getfield 19, 3) := by decide +kernel
theorem dX5_add_57 : decode cX5_add 57 = .ok (.aload_n 0, 1) := by decide +kernel
theorem dX5_add_58 : decode cX5_add 58 = .ok (.getfield 10, 3) := by decide +kernel
theorem dX5_add_61 : decode cX5_add 61 = .ok (.getfield 63, 3) := by decide +kernel
theorem dX5_add_64 : decode cX5_add 64 = .ok (.invokevirtual 67, 3) := by decide +kernel
theorem dX5_add_67 : decode cX5_add 67 = .ok (.iload_n 3, 1) := by decide +kernel
theorem dX5_add_68 : decode cX5_add 68 = .ok (.ireturn, 1) := by decide +kernel
set_option maxRecDepth 20000 in
theorem ggX5_remove_X3_rankOf : GoodIn wsX5_remove wsX3_rankOf := goodIn_r _ [8, 9, 10, 39, 40, 41, 42] (by decide +kernel) (by decide +kernel)
set_option maxRecDepth 20000 in
theorem gX5_remove_X3_rankOf : GoodIn wsX5_remove (wsV RX5 71 RX3 yX3_rankOf wsX3_rankOf) := goodIn_app (goodIn_of _ (by decide +kernel)) ggX5_remove_X3_rankOf
set_option maxRecDepth 20000 in
theorem ggX5_remove_X3_delete : GoodIn wsX5_remove wsX3_delete := goodIn_r _ [14, 9, 10, 15, 16, 17, 18, 19, 7, 20, 39, 40, 41, 42] (by decide +kernel) (by decide +kernel)
set_option maxRecDepth 20000 in
theorem gX5_remove_X3_delete : GoodIn wsX5_remove (wsV RX5 75 RX3 yX3_delete wsX3_delete) := goodIn_app (goodIn_of _ (by decide +kernel)) ggX5_remove_X3_delete
set_option maxRecDepth 20000 in
theorem ggX5_remove_X2_split : GoodIn wsX5_remove wsX2_split := goodIn_r _ [25, 26, 27, 28, 29, 30, 24, 31, 43, 44] (by decide +kernel) (by decide +kernel)
set_option maxRecDepth 20000 in
theorem gX5_remove_X2_split : GoodIn wsX5_remove (wsV RX5 67 RX2 yX2_split wsX2_split) := goodIn_app (goodIn_of _ (by decide +kernel)) ggX5_remove_X2_split
theorem dX5_remove_0 : decode cX5_remove 0 = .ok (.aload_n 0, 1) := by decide +kernel
theorem dX5_remove_1 : decode cX5_remove 1 = .ok (.getfield 10, 3) := by decide +kernel
theorem dX5_remove_4 : decode cX5_remove 4 = .ok (.iload_n 1, 1) := by decide +kernel
theorem dX5_remove_5 : decode cX5_remove 5 = .ok (.invokevirtual 71, 3) := by decide +kernel
theorem dX5_remove_8 : decode cX5_remove 8 = .ok (.istore_n 2, 1) := by decide +kernel
theorem dX5_remove_9 : decode cX5_remove 9 = .ok (.iload_n 2, 1) := by decide +kernel
theorem dX5_remove_10 : decode cX5_remove 10 = .ok (.bipush (-6), 2) := by decide +kernel
theorem dX5_remove_12 : decode cX5_remove 12 = .ok (.if_icmp .ne 5, 3) := by decide +kernel
theorem dX5_remove_15 : decode cX5_remove 15 = .ok (.iconst (-1), 1) := by decide +kernel
theorem dX5_remove_16 : decode cX5_remove 16 = .ok (.ireturn, 1) := by decide +kernel
theorem dX5_remove_17 : decode cX5_remove 17 = .ok (.aload_n 0, 1) := by decide +kernel
theorem dX5_remove_18 : decode cX5_remove 18 = .ok (.getfield 10, 3) := by decide +kernel
theorem dX5_remove_21 : decode cX5_remove 21 = .ok (.iload_n 2, 1) := by decide +kernel
theorem dX5_remove_22 : decode cX5_remove 22 = .ok (.invokevirtual 75, 3) := by decide +kernel
theorem dX5_remove_25 : decode cX5_remove 25 = .ok (.aload_n 0, 1) := by decide +kernel
theorem dX5_remove_26 : decode cX5_remove 26 = .ok (.getfield 19, 3) := by decide +kernel
theorem dX5_remove_29 : decode cX5_remove 29 = .ok (.aload_n 0, 1) := by decide +kernel
theorem dX5_remove_30 : decode cX5_remove 30 = .ok (.getfield 10, 3) := by decide +kernel
theorem dX5_remove_33 : decode cX5_remove 33 = .ok (.getfield 63, 3) := by decide +kernel
theorem dX5_remove_36 : decode cX5_remove 36 = .ok (.invokevirtual 67, 3) := by decide +kernel
theorem dX5_remove_39 : decode cX5_remove 39 = .ok (.aload_n 0, 1) := by decide +kernel
theorem dX5_remove_40 : decode cX5_remove 40 = .ok (.getfield 10, 3) := by decide +kernel
theorem dX5_remove_43 : decode cX5_remove 43 = .ok (.getfield 63, 3) := by decide +kernel
theorem dX5_remove_46 : decode cX5_remove 46 = .ok (.ireturn, 1) := by decide +kernel
set_option maxRecDepth 20000 in
theorem ggX5_move_X3_rankOf : GoodIn wsX5_move wsX3_rankOf := goodIn_r _ [6, 7, 8, 48, 49, 50, 51] (by decide +kernel) (by decide +kernel)
set_option maxRecDepth 20000 in
theorem gX5_move_X3_rankOf : GoodIn wsX5_move (wsV RX5 71 RX3 yX3_rankOf wsX3_rankOf) := goodIn_app (goodIn_of _ (by decide +kernel)) ggX5_move_X3_rankOf
set_option maxRecDepth 20000 in
theorem ggX5_move_X5_isPlace : GoodIn wsX5_move wsX5_isPlace := goodIn_r _ [12, 13, 14] (by decide +kernel) (by decide +kernel)
set_option maxRecDepth 20000 in
theorem gX5_move_X5_isPlace : GoodIn wsX5_move (va_wsS RX5 48 yX5_isPlace wsX5_isPlace) := goodIn_app (goodIn_of _ (by decide +kernel)) ggX5_move_X5_isPlace
set_option maxRecDepth 20000 in
theorem ggX5_move_X3_isTaken : GoodIn wsX5_move wsX3_isTaken := goodIn_r _ [18, 7, 19, 20, 21, 5, 22, 23, 24, 48, 49, 50, 51] (by decide +kernel) (by decide +kernel)
set_option maxRecDepth 20000 in
theorem gX5_move_X3_isTaken : GoodIn wsX5_move (wsV RX5 52 RX3 yX3_isTaken wsX3_isTaken) := goodIn_app (goodIn_of _ (by decide +kernel)) ggX5_move_X3_isTaken
set_option maxRecDepth 20000 in
theorem ggX5_move_X3_delete : GoodIn wsX5_move wsX3_delete := goodIn_r _ [28, 7, 8, 23, 24, 29, 30, 31, 5, 32, 48, 49, 50, 51] (by decide +kernel) (by decide +kernel)
set_option maxRecDepth 20000 in
theorem gX5_move_X3_delete : GoodIn wsX5_move (wsV RX5 75 RX3 yX3_delete wsX3_delete) := goodIn_app (goodIn_of _ (by decide +kernel)) ggX5_move_X3_delete
set_option maxRecDepth 20000 in
theorem ggX5_move_X3_insert : GoodIn wsX5_move wsX3_insert := goodIn_r _ [36, 7, 8, 23, 24, 37, 38, 39, 5, 40, 29, 30, 31, 32, 48, 49, 50, 51] (by decide +kernel) (by decide +kernel)
set_option maxRecDepth 20000 in
theorem gX5_move_X3_insert : GoodIn wsX5_move (wsV RX5 59 RX3 yX3_insert wsX3_insert) := goodIn_app (goodIn_of _ (by decide +kernel)) ggX5_move_X3_insert
theorem dX5_move_0 : decode cX5_move 0 = .ok (.aload_n 0, 1) := by decide +kernel
theorem dX5_move_1 : decode cX5_move 1 = .ok (.getfield 10, 3) := by decide +kernel
theorem dX5_move_4 : decode cX5_move 4 = .ok (.iload_n 1, 1) := by decide +kernel
theorem dX5_move_5 : decode cX5_move 5 = .ok (.invokevirtual 71, 3) := by decide +kernel
theorem dX5_move_8 : decode cX5_move 8 = .ok (.istore 4, 2) := by decide +kernel
theorem dX5_move_10 : decode cX5_move 10 = .ok (.iload 4, 2) := by decide +kernel
theorem dX5_move_12 : decode cX5_move 12 = .ok (.bipush (-6), 2) := by decide +kernel
theorem dX5_move_14 : decode cX5_move 14 = .ok (.if_icmp .ne 5, 3) := by decide +kernel
theorem dX5_move_17 : decode cX5_move 17 = .ok (.iconst (-1), 1) := by decide +kernel
theorem dX5_move_18 : decode cX5_move 18 = .ok (.ireturn, 1) := by decide +kernel
theorem dX5_move_19 : decode cX5_move 19 = .ok (.iload_n 2, 1) := by decide +kernel
theorem dX5_move_20 : decode cX5_move 20 = .ok (.iload_n 3, 1) := by decide +kernel
theorem dX5_move_21 : decode cX5_move 21 = .ok (.invokestatic 48, 3) := by decide +kernel
theorem dX5_move_24 : decode cX5_move 24 = .ok (.ifCond .ne 6, 3) := by decide +kernel
theorem dX5_move_27 : decode cX5_move 27 = .ok (.bipush (-2), 2) := by decide +kernel
theorem dX5_move_29 : decode cX5_move 29 = .ok (.ireturn, 1) := by decide +kernel
theorem dX5_move_30 : decode cX5_move 30 = .ok (.aload_n 0, 1) := by decide +kernel
theorem dX5_move_31 : decode cX5_move 31 = .ok (.getfield 10, 3) := by decide +kernel
theorem dX5_move_34 : decode cX5_move 34 = .ok (.iload_n 2, 1) := by decide +kernel
theorem dX5_move_35 : decode cX5_move 35 = .ok (.iload_n 3, 1) := by decide +kernel
theorem dX5_move_36 : decode cX5_move 36 = .ok (.invokevirtual 52, 3) := by decide +kernel
