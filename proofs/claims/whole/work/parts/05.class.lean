set_option maxRecDepth 20000 in
theorem ggX0_losesNothing_X0_begin : GoodIn wsX0_losesNothing wsX0_begin := goodIn_r _ [6, 7, 8, 9, 10, 11, 12, 13, 14, 15, 5, 16, 1, 34, 35, 36, 37, 38, 33] (by decide +kernel) (by decide +kernel)
set_option maxRecDepth 20000 in
theorem gX0_losesNothing_X0_begin : GoodIn wsX0_losesNothing (wsV RX0 15 RX0 yX0_begin wsX0_begin) := goodIn_app (goodIn_of _ (by decide +kernel)) ggX0_losesNothing_X0_begin
set_option maxRecDepth 20000 in
theorem ggX0_losesNothing_X0_prune : GoodIn wsX0_losesNothing wsX0_prune := goodIn_r _ [20, 21, 22, 23, 5, 24, 1, 25, 26, 27, 28, 29, 30, 31, 32, 13, 14, 15, 16, 34, 35, 36, 37, 38, 33] (by decide +kernel) (by decide +kernel)
set_option maxRecDepth 20000 in
theorem gX0_losesNothing_X0_prune : GoodIn wsX0_losesNothing (wsV RX0 19 RX0 yX0_prune wsX0_prune) := goodIn_app (goodIn_of _ (by decide +kernel)) ggX0_losesNothing_X0_prune
set_option maxRecDepth 20000 in
theorem ggX0_losesNothing_X0_lives : GoodIn wsX0_losesNothing wsX0_lives := goodIn_r _ [24, 1, 33] (by decide +kernel) (by decide +kernel)
set_option maxRecDepth 20000 in
theorem gX0_losesNothing_X0_lives : GoodIn wsX0_losesNothing (wsV RX0 29 RX0 yX0_lives wsX0_lives) := goodIn_app (goodIn_of _ (by decide +kernel)) ggX0_losesNothing_X0_lives
theorem dX0_losesNothing_0 : decode cX0_losesNothing 0 = .ok (.aload_n 0, 1) := by decide +kernel
theorem dX0_losesNothing_1 : decode cX0_losesNothing 1 = .ok (.aload_n 1, 1) := by decide +kernel
theorem dX0_losesNothing_2 : decode cX0_losesNothing 2 = .ok (.invokevirtual 15, 3) := by decide +kernel
theorem dX0_losesNothing_5 : decode cX0_losesNothing 5 = .ok (.iconst 1, 1) := by decide +kernel
theorem dX0_losesNothing_6 : decode cX0_losesNothing 6 = .ok (.istore_n 2, 1) := by decide +kernel
theorem dX0_losesNothing_7 : decode cX0_losesNothing 7 = .ok (.iconst 0, 1) := by decide +kernel
theorem dX0_losesNothing_8 : decode cX0_losesNothing 8 = .ok (.istore_n 3, 1) := by decide +kernel
theorem dX0_losesNothing_9 : decode cX0_losesNothing 9 = .ok (.iload_n 3, 1) := by decide +kernel
theorem dX0_losesNothing_10 : decode cX0_losesNothing 10 = .ok (.aload_n 0, 1) := by decide +kernel
theorem dX0_losesNothing_11 : decode cX0_losesNothing 11 = .ok (.getfield 9, 3) := by decide +kernel
theorem dX0_losesNothing_14 : decode cX0_losesNothing 14 = .ok (.arraylength, 1) := by decide +kernel
theorem dX0_losesNothing_15 : decode cX0_losesNothing 15 = .ok (.if_icmp .gt 19, 3) := by decide +kernel
theorem dX0_losesNothing_18 : decode cX0_losesNothing 18 = .ok (.iload_n 2, 1) := by decide +kernel
theorem dX0_losesNothing_19 : decode cX0_losesNothing 19 = .ok (.ifCond .eq 15, 3) := by decide +kernel
theorem dX0_losesNothing_22 : decode cX0_losesNothing 22 = .ok (.aload_n 0, 1) := by decide +kernel
theorem dX0_losesNothing_23 : decode cX0_losesNothing 23 = .ok (.aload_n 1, 1) := by decide +kernel
theorem dX0_losesNothing_24 : decode cX0_losesNothing 24 = .ok (.invokevirtual 19, 3) := by decide +kernel
theorem dX0_losesNothing_27 : decode cX0_losesNothing 27 = .ok (.istore_n 2, 1) := by decide +kernel
theorem dX0_losesNothing_28 : decode cX0_losesNothing 28 = .ok (.iinc 3 1, 3) := by decide +kernel
theorem dX0_losesNothing_31 : decode cX0_losesNothing 31 = .ok (.goto (-22), 3) := by decide +kernel
theorem dX0_losesNothing_34 : decode cX0_losesNothing 34 = .ok (.iconst 0, 1) := by decide +kernel
theorem dX0_losesNothing_35 : decode cX0_losesNothing 35 = .ok (.istore_n 3, 1) := by decide +kernel
theorem dX0_losesNothing_36 : decode cX0_losesNothing 36 = .ok (.iload_n 3, 1) := by decide +kernel
theorem dX0_losesNothing_37 : decode cX0_losesNothing 37 = .ok (.aload_n 1, 1) := by decide +kernel
theorem dX0_losesNothing_38 : decode cX0_losesNothing 38 = .ok (.getfield 23, 3) := by decide +kernel
theorem dX0_losesNothing_41 : decode cX0_losesNothing 41 = .ok (.if_icmp .ge 36, 3) := by decide +kernel
theorem dX0_losesNothing_44 : decode cX0_losesNothing 44 = .ok (.iconst 0, 1) := by decide +kernel
theorem dX0_losesNothing_45 : decode cX0_losesNothing 45 = .ok (.istore 4, 2) := by decide +kernel
theorem dX0_losesNothing_47 : decode cX0_losesNothing 47 = .ok (.iload 4, 2) := by decide +kernel
theorem dX0_losesNothing_49 : decode cX0_losesNothing 49 = .ok (.iload_n 3, 1) := by decide +kernel
theorem dX0_losesNothing_50 : decode cX0_losesNothing 50 = .ok (.if_icmp .ge 21, 3) := by decide +kernel
theorem dX0_losesNothing_53 : decode cX0_losesNothing 53 = .ok (.aload_n 0, 1) := by decide +kernel
theorem dX0_losesNothing_54 : decode cX0_losesNothing 54 = .ok (.iload_n 3, 1) := by decide +kernel
theorem dX0_losesNothing_55 : decode cX0_losesNothing 55 = .ok (.iload 4, 2) := by decide +kernel
theorem dX0_losesNothing_57 : decode cX0_losesNothing 57 = .ok (.invokevirtual 29, 3) := by decide +kernel
theorem dX0_losesNothing_60 : decode cX0_losesNothing 60 = .ok (.ifCond .eq 5, 3) := by decide +kernel
theorem dX0_losesNothing_63 : decode cX0_losesNothing 63 = .ok (.iconst 0, 1) := by decide +kernel
theorem dX0_losesNothing_64 : decode cX0_losesNothing 64 = .ok (.ireturn, 1) := by decide +kernel
theorem dX0_losesNothing_65 : decode cX0_losesNothing 65 = .ok (.iinc 4 1, 3) := by decide +kernel
theorem dX0_losesNothing_68 : decode cX0_losesNothing 68 = .ok (.goto (-21), 3) := by decide +kernel
theorem dX0_losesNothing_71 : decode cX0_losesNothing 71 = .ok (.iinc 3 1, 3) := by decide +kernel
theorem dX0_losesNothing_74 : decode cX0_losesNothing 74 = .ok (.goto (-38), 3) := by decide +kernel
theorem dX0_losesNothing_77 : decode cX0_losesNothing 77 = .ok (.iconst 1, 1) := by decide +kernel
theorem dX0_losesNothing_78 : decode cX0_losesNothing 78 = .ok (.ireturn, 1) := by decide +kernel
set_option maxRecDepth 20000 in
theorem ggX0_begin_X1_tells : GoodIn wsX0_begin wsX1_tells := goodIn_r _ [5, 6, 13, 14, 15, 16, 17] (by decide +kernel) (by decide +kernel)
set_option maxRecDepth 20000 in
theorem gX0_begin_X1_tells : GoodIn wsX0_begin (wsV RX0 33 RX1 yX1_tells wsX1_tells) := goodIn_app (goodIn_of _ (by decide +kernel)) ggX0_begin_X1_tells
set_option maxRecDepth 20000 in
theorem ggX0_begin_X0_setLife : GoodIn wsX0_begin wsX0_setLife := goodIn_r _ [11, 12, 18] (by decide +kernel) (by decide +kernel)
set_option maxRecDepth 20000 in
theorem gX0_begin_X0_setLife : GoodIn wsX0_begin (wsV RX0 37 RX0 yX0_setLife wsX0_setLife) := goodIn_app (goodIn_of _ (by decide +kernel)) ggX0_begin_X0_setLife
theorem dX0_begin_0 : decode cX0_begin 0 = .ok (.iconst 0, 1) := by decide +kernel
theorem dX0_begin_1 : decode cX0_begin 1 = .ok (.istore_n 2, 1) := by decide +kernel
theorem dX0_begin_2 : decode cX0_begin 2 = .ok (.iload_n 2, 1) := by decide +kernel
theorem dX0_begin_3 : decode cX0_begin 3 = .ok (.aload_n 1, 1) := by decide +kernel
theorem dX0_begin_4 : decode cX0_begin 4 = .ok (.getfield 23, 3) := by decide +kernel
theorem dX0_begin_7 : decode cX0_begin 7 = .ok (.if_icmp .ge 49, 3) := by decide +kernel
theorem dX0_begin_10 : decode cX0_begin 10 = .ok (.iconst 0, 1) := by decide +kernel
theorem dX0_begin_11 : decode cX0_begin 11 = .ok (.istore_n 3, 1) := by decide +kernel
theorem dX0_begin_12 : decode cX0_begin 12 = .ok (.iload_n 3, 1) := by decide +kernel
theorem dX0_begin_13 : decode cX0_begin 13 = .ok (.aload_n 1, 1) := by decide +kernel
theorem dX0_begin_14 : decode cX0_begin 14 = .ok (.getfield 23, 3) := by decide +kernel
theorem dX0_begin_17 : decode cX0_begin 17 = .ok (.if_icmp .ge 33, 3) := by decide +kernel
theorem dX0_begin_20 : decode cX0_begin 20 = .ok (.aload_n 0, 1) := by decide +kernel
theorem dX0_begin_21 : decode cX0_begin 21 = .ok (.iload_n 2, 1) := by decide +kernel
theorem dX0_begin_22 : decode cX0_begin 22 = .ok (.iload_n 3, 1) := by decide +kernel
theorem dX0_begin_23 : decode cX0_begin 23 = .ok (.aload_n 1, 1) := by decide +kernel
theorem dX0_begin_24 : decode cX0_begin 24 = .ok (.iload_n 2, 1) := by decide +kernel
theorem dX0_begin_25 : decode cX0_begin 25 = .ok (.invokevirtual 33, 3) := by decide +kernel
theorem dX0_begin_28 : decode cX0_begin 28 = .ok (.aload_n 1, 1) := by decide +kernel
theorem dX0_begin_29 : decode cX0_begin 29 = .ok (.iload_n 3, 1) := by decide +kernel
theorem dX0_begin_30 : decode cX0_begin 30 = .ok (.invokevirtual 33, 3) := by decide +kernel
theorem dX0_begin_33 : decode cX0_begin 33 = .ok (.if_icmp .ne 7, 3) := by decide +kernel
theorem dX0_begin_36 : decode cX0_begin 36 = .ok (.iconst 1, 1) := by decide +kernel
theorem dX0_begin_37 : decode cX0_begin 37 = .ok (.goto 4, 3) := by decide +kernel
theorem dX0_begin_40 : decode cX0_begin 40 = .ok (.iconst 0, 1) := by decide +kernel
theorem dX0_begin_41 : decode cX0_begin 41 = .ok (.invokevirtual 37, 3) := by decide +kernel
theorem dX0_begin_44 : decode cX0_begin 44 = .ok (.iinc 3 1, 3) := by decide +kernel
theorem dX0_begin_47 : decode cX0_begin 47 = .ok (.goto (-35), 3) := by decide +kernel
theorem dX0_begin_50 : decode cX0_begin 50 = .ok (.iinc 2 1, 3) := by decide +kernel
theorem dX0_begin_53 : decode cX0_begin 53 = .ok (.goto (-51), 3) := by decide +kernel
theorem dX0_begin_56 : decode cX0_begin 56 = .ok (.return_, 1) := by decide +kernel
set_option maxRecDepth 20000 in
theorem ggX0_prune_X0_lives : GoodIn wsX0_prune wsX0_lives := goodIn_r _ [5, 6, 24] (by decide +kernel) (by decide +kernel)
set_option maxRecDepth 20000 in
theorem gX0_prune_X0_lives : GoodIn wsX0_prune (wsV RX0 29 RX0 yX0_lives wsX0_lives) := goodIn_app (goodIn_of _ (by decide +kernel)) ggX0_prune_X0_lives
set_option maxRecDepth 20000 in
theorem ggX0_prune_X0_goesOn : GoodIn wsX0_prune wsX0_goesOn := goodIn_r _ [10, 1, 2, 3, 4, 5, 6, 19, 20, 21, 22, 23, 24] (by decide +kernel) (by decide +kernel)
set_option maxRecDepth 20000 in
theorem gX0_prune_X0_goesOn : GoodIn wsX0_prune (wsV RX0 41 RX0 yX0_goesOn wsX0_goesOn) := goodIn_app (goodIn_of _ (by decide +kernel)) ggX0_prune_X0_goesOn
set_option maxRecDepth 20000 in
theorem ggX0_prune_X0_comesFrom : GoodIn wsX0_prune wsX0_comesFrom := goodIn_r _ [14, 1, 2, 3, 4, 5, 6, 19, 20, 21, 22, 23, 24] (by decide +kernel) (by decide +kernel)
set_option maxRecDepth 20000 in
theorem gX0_prune_X0_comesFrom : GoodIn wsX0_prune (wsV RX0 45 RX0 yX0_comesFrom wsX0_comesFrom) := goodIn_app (goodIn_of _ (by decide +kernel)) ggX0_prune_X0_comesFrom
set_option maxRecDepth 20000 in
theorem ggX0_prune_X0_setLife : GoodIn wsX0_prune wsX0_setLife := goodIn_r _ [18, 6, 24] (by decide +kernel) (by decide +kernel)
set_option maxRecDepth 20000 in
theorem gX0_prune_X0_setLife : GoodIn wsX0_prune (wsV RX0 37 RX0 yX0_setLife wsX0_setLife) := goodIn_app (goodIn_of _ (by decide +kernel)) ggX0_prune_X0_setLife
theorem dX0_prune_0 : decode cX0_prune 0 = .ok (.iconst 0, 1) := by decide +kernel
theorem dX0_prune_1 : decode cX0_prune 1 = .ok (.istore_n 2, 1) := by decide +kernel
theorem dX0_prune_2 : decode cX0_prune 2 = .ok (.iconst 0, 1) := by decide +kernel
theorem dX0_prune_3 : decode cX0_prune 3 = .ok (.istore_n 3, 1) := by decide +kernel
theorem dX0_prune_4 : decode cX0_prune 4 = .ok (.iload_n 3, 1) := by decide +kernel
theorem dX0_prune_5 : decode cX0_prune 5 = .ok (.aload_n 1, 1) := by decide +kernel
theorem dX0_prune_6 : decode cX0_prune 6 = .ok (.getfield 23, 3) := by decide +kernel
theorem dX0_prune_9 : decode cX0_prune 9 = .ok (.if_icmp .ge 69, 3) := by decide +kernel
theorem dX0_prune_12 : decode cX0_prune 12 = .ok (.iconst 0, 1) := by decide +kernel
theorem dX0_prune_13 : decode cX0_prune 13 = .ok (.istore 4, 2) := by decide +kernel
theorem dX0_prune_15 : decode cX0_prune 15 = .ok (.iload 4, 2) := by decide +kernel
theorem dX0_prune_17 : decode cX0_prune 17 = .ok (.aload_n 1, 1) := by decide +kernel
theorem dX0_prune_18 : decode cX0_prune 18 = .ok (.getfield 23, 3) := by decide +kernel
theorem dX0_prune_21 : decode cX0_prune 21 = .ok (.if_icmp .ge 51, 3) := by decide +kernel
theorem dX0_prune_24 : decode cX0_prune 24 = .ok (.aload_n 0, 1) := by decide +kernel
theorem dX0_prune_25 : decode cX0_prune 25 = .ok (.iload_n 3, 1) := by decide +kernel
theorem dX0_prune_26 : decode cX0_prune 26 = .ok (.iload 4, 2) := by decide +kernel
theorem dX0_prune_28 : decode cX0_prune 28 = .ok (.invokevirtual 29, 3) := by decide +kernel
theorem dX0_prune_31 : decode cX0_prune 31 = .ok (.ifCond .eq 35, 3) := by decide +kernel
theorem dX0_prune_34 : decode cX0_prune 34 = .ok (.aload_n 0, 1) := by decide +kernel
theorem dX0_prune_35 : decode cX0_prune 35 = .ok (.aload_n 1, 1) := by decide +kernel
theorem dX0_prune_36 : decode cX0_prune 36 = .ok (.iload_n 3, 1) := by decide +kernel
theorem dX0_prune_37 : decode cX0_prune 37 = .ok (.iload 4, 2) := by decide +kernel
theorem dX0_prune_39 : decode cX0_prune 39 = .ok (.invokevirtual 41, 3) := by decide +kernel
theorem dX0_prune_42 : decode cX0_prune 42 = .ok (.ifCond .eq 14, 3) := by decide +kernel
theorem dX0_prune_45 : decode cX0_prune 45 = .ok (.aload_n 0, 1) := by decide +kernel
theorem dX0_prune_46 : decode cX0_prune 46 = .ok (.aload_n 1, 1) := by decide +kernel
theorem dX0_prune_47 : decode cX0_prune 47 = .ok (.iload_n 3, 1) := by decide +kernel
theorem dX0_prune_48 : decode cX0_prune 48 = .ok (.iload 4, 2) := by decide +kernel
theorem dX0_prune_50 : decode cX0_prune 50 = .ok (.invokevirtual 45, 3) := by decide +kernel
theorem dX0_prune_53 : decode cX0_prune 53 = .ok (.ifCond .ne 13, 3) := by decide +kernel
theorem dX0_prune_56 : decode cX0_prune 56 = .ok (.aload_n 0, 1) := by decide +kernel
theorem dX0_prune_57 : decode cX0_prune 57 = .ok (.iload_n 3, 1) := by decide +kernel
theorem dX0_prune_58 : decode cX0_prune 58 = .ok (.iload 4, 2) := by decide +kernel
theorem dX0_prune_60 : decode cX0_prune 60 = .ok (.iconst 0, 1) := by decide +kernel
theorem dX0_prune_61 : decode cX0_prune 61 = .ok (.invokevirtual 37, 3) := by decide +kernel
theorem dX0_prune_64 : decode cX0_prune 64 = .ok (.iconst 1, 1) := by decide +kernel
theorem dX0_prune_65 : decode cX0_prune 65 = .ok (.istore_n 2, 1) := by decide +kernel
theorem dX0_prune_66 : decode cX0_prune 66 = .ok (.iinc 4 1, 3) := by decide +kernel
theorem dX0_prune_69 : decode cX0_prune 69 = .ok (.goto (-54), 3) := by decide +kernel
theorem dX0_prune_72 : decode cX0_prune 72 = .ok (.iinc 3 1, 3) := by decide +kernel
theorem dX0_prune_75 : decode cX0_prune 75 = .ok (.goto (-71), 3) := by decide +kernel
theorem dX0_prune_78 : decode cX0_prune 78 = .ok (.iload_n 2, 1) := by decide +kernel
theorem dX0_prune_79 : decode cX0_prune 79 = .ok (.ireturn, 1) := by decide +kernel
set_option maxRecDepth 20000 in
theorem ggX0_goesOn_X0_lives : GoodIn wsX0_goesOn wsX0_lives := goodIn_r _ [5, 6, 12] (by decide +kernel) (by decide +kernel)
set_option maxRecDepth 20000 in
theorem gX0_goesOn_X0_lives : GoodIn wsX0_goesOn (wsV RX0 29 RX0 yX0_lives wsX0_lives) := goodIn_app (goodIn_of _ (by decide +kernel)) ggX0_goesOn_X0_lives
theorem dX0_goesOn_0 : decode cX0_goesOn 0 = .ok (.iload_n 2, 1) := by decide +kernel
theorem dX0_goesOn_1 : decode cX0_goesOn 1 = .ok (.aload_n 1, 1) := by decide +kernel
theorem dX0_goesOn_2 : decode cX0_goesOn 2 = .ok (.getfield 48, 3) := by decide +kernel
theorem dX0_goesOn_5 : decode cX0_goesOn 5 = .ok (.irem, 1) := by decide +kernel
theorem dX0_goesOn_6 : decode cX0_goesOn 6 = .ok (.aload_n 1, 1) := by decide +kernel
theorem dX0_goesOn_7 : decode cX0_goesOn 7 = .ok (.getfield 51, 3) := by decide +kernel
theorem dX0_goesOn_10 : decode cX0_goesOn 10 = .ok (.imul, 1) := by decide +kernel
theorem dX0_goesOn_11 : decode cX0_goesOn 11 = .ok (.istore 4, 2) := by decide +kernel
theorem dX0_goesOn_13 : decode cX0_goesOn 13 = .ok (.iload_n 3, 1) := by decide +kernel
theorem dX0_goesOn_14 : decode cX0_goesOn 14 = .ok (.aload_n 1, 1) := by decide +kernel
theorem dX0_goesOn_15 : decode cX0_goesOn 15 = .ok (.getfield 48, 3) := by decide +kernel
theorem dX0_goesOn_18 : decode cX0_goesOn 18 = .ok (.irem, 1) := by decide +kernel
theorem dX0_goesOn_19 : decode cX0_goesOn 19 = .ok (.aload_n 1, 1) := by decide +kernel
theorem dX0_goesOn_20 : decode cX0_goesOn 20 = .ok (.getfield 51, 3) := by decide +kernel
theorem dX0_goesOn_23 : decode cX0_goesOn 23 = .ok (.imul, 1) := by decide +kernel
theorem dX0_goesOn_24 : decode cX0_goesOn 24 = .ok (.istore 5, 2) := by decide +kernel
theorem dX0_goesOn_26 : decode cX0_goesOn 26 = .ok (.iconst 0, 1) := by decide +kernel
theorem dX0_goesOn_27 : decode cX0_goesOn 27 = .ok (.istore 6, 2) := by decide +kernel
theorem dX0_goesOn_29 : decode cX0_goesOn 29 = .ok (.iload 6, 2) := by decide +kernel
theorem dX0_goesOn_31 : decode cX0_goesOn 31 = .ok (.aload_n 1, 1) := by decide +kernel
theorem dX0_goesOn_32 : decode cX0_goesOn 32 = .ok (.getfield 51, 3) := by decide +kernel
theorem dX0_goesOn_35 : decode cX0_goesOn 35 = .ok (.if_icmp .ge 46, 3) := by decide +kernel
theorem dX0_goesOn_38 : decode cX0_goesOn 38 = .ok (.iconst 0, 1) := by decide +kernel
theorem dX0_goesOn_39 : decode cX0_goesOn 39 = .ok (.istore 7, 2) := by decide +kernel
theorem dX0_goesOn_41 : decode cX0_goesOn 41 = .ok (.iload 7, 2) := by decide +kernel
theorem dX0_goesOn_43 : decode cX0_goesOn 43 = .ok (.aload_n 1, 1) := by decide +kernel
theorem dX0_goesOn_44 : decode cX0_goesOn 44 = .ok (.getfield 51, 3) := by decide +kernel
theorem dX0_goesOn_47 : decode cX0_goesOn 47 = .ok (.if_icmp .ge 28, 3) := by decide +kernel
theorem dX0_goesOn_50 : decode cX0_goesOn 50 = .ok (.aload_n 0, 1) := by decide +kernel
theorem dX0_goesOn_51 : decode cX0_goesOn 51 = .ok (.iload 4, 2) := by decide +kernel
theorem dX0_goesOn_53 : decode cX0_goesOn 53 = .ok (.iload 6, 2) := by decide +kernel
theorem dX0_goesOn_55 : decode cX0_goesOn 55 = .ok (.iadd, 1) := by decide +kernel
theorem dX0_goesOn_56 : decode cX0_goesOn 56 = .ok (.iload 5, 2) := by decide +kernel
theorem dX0_goesOn_58 : decode cX0_goesOn 58 = .ok (.iload 7, 2) := by decide +kernel
theorem dX0_goesOn_60 : decode cX0_goesOn 60 = .ok (.iadd, 1) := by decide +kernel
theorem dX0_goesOn_61 : decode cX0_goesOn 61 = .ok (.invokevirtual 29, 3) := by decide +kernel
theorem dX0_goesOn_64 : decode cX0_goesOn 64 = .ok (.ifCond .eq 5, 3) := by decide +kernel
theorem dX0_goesOn_67 : decode cX0_goesOn 67 = .ok (.iconst 1, 1) := by decide +kernel
theorem dX0_goesOn_68 : decode cX0_goesOn 68 = .ok (.ireturn, 1) := by decide +kernel
theorem dX0_goesOn_69 : decode cX0_goesOn 69 = .ok (.iinc 7 1, 3) := by decide +kernel
theorem dX0_goesOn_72 : decode cX0_goesOn 72 = .ok (.goto (-31), 3) := by decide +kernel
theorem dX0_goesOn_75 : decode cX0_goesOn 75 = .ok (.iinc 6 1, 3) := by decide +kernel
theorem dX0_goesOn_78 : decode cX0_goesOn 78 = .ok (.goto (-49), 3) := by decide +kernel
theorem dX0_goesOn_81 : decode cX0_goesOn 81 = .ok (.iconst 0, 1) := by decide +kernel
theorem dX0_goesOn_82 : decode cX0_goesOn 82 = .ok (.ireturn, 1) := by decide +kernel
set_option maxRecDepth 20000 in
theorem ggX0_comesFrom_X0_lives : GoodIn wsX0_comesFrom wsX0_lives := goodIn_r _ [5, 6, 12] (by decide +kernel) (by decide +kernel)
set_option maxRecDepth 20000 in
theorem gX0_comesFrom_X0_lives : GoodIn wsX0_comesFrom (wsV RX0 29 RX0 yX0_lives wsX0_lives) := goodIn_app (goodIn_of _ (by decide +kernel)) ggX0_comesFrom_X0_lives
theorem dX0_comesFrom_0 : decode cX0_comesFrom 0 = .ok (.iload_n 2, 1) := by decide +kernel
theorem dX0_comesFrom_1 : decode cX0_comesFrom 1 = .ok (.aload_n 1, 1) := by decide +kernel
theorem dX0_comesFrom_2 : decode cX0_comesFrom 2 = .ok (.getfield 51, 3) := by decide +kernel
theorem dX0_comesFrom_5 : decode cX0_comesFrom 5 = .ok (.idiv, 1) := by decide +kernel
theorem dX0_comesFrom_6 : decode cX0_comesFrom 6 = .ok (.istore 4, 2) := by decide +kernel
theorem dX0_comesFrom_8 : decode cX0_comesFrom 8 = .ok (.iload_n 3, 1) := by decide +kernel
theorem dX0_comesFrom_9 : decode cX0_comesFrom 9 = .ok (.aload_n 1, 1) := by decide +kernel
theorem dX0_comesFrom_10 : decode cX0_comesFrom 10 = .ok (.getfield 51, 3) := by decide +kernel
theorem dX0_comesFrom_13 : decode cX0_comesFrom 13 = .ok (.idiv, 1) := by decide +kernel
theorem dX0_comesFrom_14 : decode cX0_comesFrom 14 = .ok (.istore 5, 2) := by decide +kernel
theorem dX0_comesFrom_16 : decode cX0_comesFrom 16 = .ok (.iconst 0, 1) := by decide +kernel
theorem dX0_comesFrom_17 : decode cX0_comesFrom 17 = .ok (.istore 6, 2) := by decide +kernel
theorem dX0_comesFrom_19 : decode cX0_comesFrom 19 = .ok (.iload 6, 2) := by decide +kernel
theorem dX0_comesFrom_21 : decode cX0_comesFrom 21 = .ok (.aload_n 1, 1) := by decide +kernel
theorem dX0_comesFrom_22 : decode cX0_comesFrom 22 = .ok (.getfield 51, 3) := by decide +kernel
theorem dX0_comesFrom_25 : decode cX0_comesFrom 25 = .ok (.if_icmp .ge 56, 3) := by decide +kernel
theorem dX0_comesFrom_28 : decode cX0_comesFrom 28 = .ok (.iconst 0, 1) := by decide +kernel
theorem dX0_comesFrom_29 : decode cX0_comesFrom 29 = .ok (.istore 7, 2) := by decide +kernel
theorem dX0_comesFrom_31 : decode cX0_comesFrom 31 = .ok (.iload 7, 2) := by decide +kernel
theorem dX0_comesFrom_33 : decode cX0_comesFrom 33 = .ok (.aload_n 1, 1) := by decide +kernel
theorem dX0_comesFrom_34 : decode cX0_comesFrom 34 = .ok (.getfield 51, 3) := by decide +kernel
theorem dX0_comesFrom_37 : decode cX0_comesFrom 37 = .ok (.if_icmp .ge 38, 3) := by decide +kernel
theorem dX0_comesFrom_40 : decode cX0_comesFrom 40 = .ok (.aload_n 0, 1) := by decide +kernel
theorem dX0_comesFrom_41 : decode cX0_comesFrom 41 = .ok (.iload 4, 2) := by decide +kernel
theorem dX0_comesFrom_43 : decode cX0_comesFrom 43 = .ok (.iload 6, 2) := by decide +kernel
theorem dX0_comesFrom_45 : decode cX0_comesFrom 45 = .ok (.aload_n 1, 1) := by decide +kernel
theorem dX0_comesFrom_46 : decode cX0_comesFrom 46 = .ok (.getfield 48, 3) := by decide +kernel
theorem dX0_comesFrom_49 : decode cX0_comesFrom 49 = .ok (.imul, 1) := by decide +kernel
theorem dX0_comesFrom_50 : decode cX0_comesFrom 50 = .ok (.iadd, 1) := by decide +kernel
theorem dX0_comesFrom_51 : decode cX0_comesFrom 51 = .ok (.iload 5, 2) := by decide +kernel
theorem dX0_comesFrom_53 : decode cX0_comesFrom 53 = .ok (.iload 7, 2) := by decide +kernel
theorem dX0_comesFrom_55 : decode cX0_comesFrom 55 = .ok (.aload_n 1, 1) := by decide +kernel
theorem dX0_comesFrom_56 : decode cX0_comesFrom 56 = .ok (.getfield 48, 3) := by decide +kernel
theorem dX0_comesFrom_59 : decode cX0_comesFrom 59 = .ok (.imul, 1) := by decide +kernel
theorem dX0_comesFrom_60 : decode cX0_comesFrom 60 = .ok (.iadd, 1) := by decide +kernel
theorem dX0_comesFrom_61 : decode cX0_comesFrom 61 = .ok (.invokevirtual 29, 3) := by decide +kernel
theorem dX0_comesFrom_64 : decode cX0_comesFrom 64 = .ok (.ifCond .eq 5, 3) := by decide +kernel
theorem dX0_comesFrom_67 : decode cX0_comesFrom 67 = .ok (.iconst 1, 1) := by decide +kernel
theorem dX0_comesFrom_68 : decode cX0_comesFrom 68 = .ok (.ireturn, 1) := by decide +kernel
theorem dX0_comesFrom_69 : decode cX0_comesFrom 69 = .ok (.iinc 7 1, 3) := by decide +kernel
theorem dX0_comesFrom_72 : decode cX0_comesFrom 72 = .ok (.goto (-41), 3) := by decide +kernel
theorem dX0_comesFrom_75 : decode cX0_comesFrom 75 = .ok (.iinc 6 1, 3) := by decide +kernel
theorem dX0_comesFrom_78 : decode cX0_comesFrom 78 = .ok (.goto (-59), 3) := by decide +kernel
theorem dX0_comesFrom_81 : decode cX0_comesFrom 81 = .ok (.iconst 0, 1) := by decide +kernel
theorem dX0_comesFrom_82 : decode cX0_comesFrom 82 = .ok (.ireturn, 1) := by decide +kernel
theorem dX0_lives_0 : decode cX0_lives 0 = .ok (.iload_n 1, 1) := by decide +kernel
theorem dX0_lives_1 : decode cX0_lives 1 = .ok (.bipush 27, 2) := by decide +kernel
theorem dX0_lives_3 : decode cX0_lives 3 = .ok (.imul, 1) := by decide +kernel
theorem dX0_lives_4 : decode cX0_lives 4 = .ok (.iload_n 2, 1) := by decide +kernel
theorem dX0_lives_5 : decode cX0_lives 5 = .ok (.iadd, 1) := by decide +kernel
theorem dX0_lives_6 : decode cX0_lives 6 = .ok (.istore_n 3, 1) := by decide +kernel
theorem dX0_lives_7 : decode cX0_lives 7 = .ok (.iload_n 3, 1) := by decide +kernel
theorem dX0_lives_8 : decode cX0_lives 8 = .ok (.ifCond .lt 25, 3) := by decide +kernel
theorem dX0_lives_11 : decode cX0_lives 11 = .ok (.iload_n 3, 1) := by decide +kernel
theorem dX0_lives_12 : decode cX0_lives 12 = .ok (.aload_n 0, 1) := by decide +kernel
theorem dX0_lives_13 : decode cX0_lives 13 = .ok (.getfield 9, 3) := by decide +kernel
theorem dX0_lives_16 : decode cX0_lives 16 = .ok (.arraylength, 1) := by decide +kernel
theorem dX0_lives_17 : decode cX0_lives 17 = .ok (.if_icmp .ge 16, 3) := by decide +kernel
theorem dX0_lives_20 : decode cX0_lives 20 = .ok (.aload_n 0, 1) := by decide +kernel
theorem dX0_lives_21 : decode cX0_lives 21 = .ok (.getfield 9, 3) := by decide +kernel
theorem dX0_lives_24 : decode cX0_lives 24 = .ok (.iload_n 3, 1) := by decide +kernel
theorem dX0_lives_25 : decode cX0_lives 25 = .ok (.baload, 1) := by decide +kernel
theorem dX0_lives_26 : decode cX0_lives 26 = .ok (.ifCond .eq 7, 3) := by decide +kernel
theorem dX0_lives_29 : decode cX0_lives 29 = .ok (.iconst 1, 1) := by decide +kernel
theorem dX0_lives_30 : decode cX0_lives 30 = .ok (.goto 4, 3) := by decide +kernel
theorem dX0_lives_33 : decode cX0_lives 33 = .ok (.iconst 0, 1) := by decide +kernel
theorem dX0_lives_34 : decode cX0_lives 34 = .ok (.ireturn, 1) := by decide +kernel
theorem dX0_setLife_0 : decode cX0_setLife 0 = .ok (.iload_n 1, 1) := by decide +kernel
theorem dX0_setLife_1 : decode cX0_setLife 1 = .ok (.bipush 27, 2) := by decide +kernel
theorem dX0_setLife_3 : decode cX0_setLife 3 = .ok (.imul, 1) := by decide +kernel
theorem dX0_setLife_4 : decode cX0_setLife 4 = .ok (.iload_n 2, 1) := by decide +kernel
theorem dX0_setLife_5 : decode cX0_setLife 5 = .ok (.iadd, 1) := by decide +kernel
theorem dX0_setLife_6 : decode cX0_setLife 6 = .ok (.istore 4, 2) := by decide +kernel
theorem dX0_setLife_8 : decode cX0_setLife 8 = .ok (.iload 4, 2) := by decide +kernel
theorem dX0_setLife_10 : decode cX0_setLife 10 = .ok (.ifCond .lt 21, 3) := by decide +kernel
theorem dX0_setLife_13 : decode cX0_setLife 13 = .ok (.iload 4, 2) := by decide +kernel
theorem dX0_setLife_15 : decode cX0_setLife 15 = .ok (.aload_n 0, 1) := by decide +kernel
theorem dX0_setLife_16 : decode cX0_setLife 16 = .ok (.getfield 9, 3) := by decide +kernel
theorem dX0_setLife_19 : decode cX0_setLife 19 = .ok (.arraylength, 1) := by decide +kernel
theorem dX0_setLife_20 : decode cX0_setLife 20 = .ok (.if_icmp .ge 11, 3) := by decide +kernel
theorem dX0_setLife_23 : decode cX0_setLife 23 = .ok (.aload_n 0, 1) := by decide +kernel
theorem dX0_setLife_24 : decode cX0_setLife 24 = .ok (.getfield 9, 3) := by decide +kernel
theorem dX0_setLife_27 : decode cX0_setLife 27 = .ok (.iload 4, 2) := by decide +kernel
theorem dX0_setLife_29 : decode cX0_setLife 29 = .ok (.iload_n 3, 1) := by decide +kernel
theorem dX0_setLife_30 : decode cX0_setLife 30 = .ok (.bastore, 1) := by decide +kernel
theorem dX0_setLife_31 : decode cX0_setLife 31 = .ok (.return_, 1) := by decide +kernel
set_option maxRecDepth 20000 in
theorem ggX1_init_X6_power : GoodIn wsX1_init wsX6_power := goodIn_r _ [15] (by decide +kernel) (by decide +kernel)
set_option maxRecDepth 20000 in
theorem gX1_init_X6_power_n22 : GoodIn wsX1_init (wsX6_power) := ggX1_init_X6_power
set_option maxRecDepth 20000 in
theorem ggX1_init_J7_copyOf_59c91 : GoodIn wsX1_init wsJ7_copyOf_59c91 := goodIn_r _ [19, 20, 21, 22, 23, 24, 25, 26, 27, 28, 6, 29, 30, 31, 32, 33] (by decide +kernel) (by decide +kernel)
set_option maxRecDepth 20000 in
theorem gX1_init_J7_copyOf_59c91 : GoodIn wsX1_init (va_wsS RX1 33 yJ7_copyOf_59c91 wsJ7_copyOf_59c91) := goodIn_app (goodIn_of _ (by decide +kernel)) ggX1_init_J7_copyOf_59c91
theorem dX1_init_0 : decode cX1_init 0 = .ok (.aload_n 0, 1) := by decide +kernel
theorem dX1_init_1 : decode cX1_init 1 = .ok (.invokespecial 1, 3) := by decide +kernel
theorem dX1_init_4 : decode cX1_init 4 = .ok (.aload_n 0, 1) := by decide +kernel
theorem dX1_init_5 : decode cX1_init 5 = .ok (.iconst 2, 1) := by decide +kernel
theorem dX1_init_6 : decode cX1_init 6 = .ok (.iload_n 1, 1) := by decide +kernel
theorem dX1_init_7 : decode cX1_init 7 = .ok (.invokestatic 7, 3) := by decide +kernel
theorem dX1_init_10 : decode cX1_init 10 = .ok (.putfield 13, 3) := by decide +kernel
theorem dX1_init_13 : decode cX1_init 13 = .ok (.aload_n 0, 1) := by decide +kernel
theorem dX1_init_14 : decode cX1_init 14 = .ok (.iload_n 2, 1) := by decide +kernel
theorem dX1_init_15 : decode cX1_init 15 = .ok (.putfield 19, 3) := by decide +kernel
theorem dX1_init_18 : decode cX1_init 18 = .ok (.aload_n 0, 1) := by decide +kernel
theorem dX1_init_19 : decode cX1_init 19 = .ok (.iconst 1, 1) := by decide +kernel
theorem dX1_init_20 : decode cX1_init 20 = .ok (.aload_n 0, 1) := by decide +kernel
theorem dX1_init_21 : decode cX1_init 21 = .ok (.getfield 13, 3) := by decide +kernel
theorem dX1_init_24 : decode cX1_init 24 = .ok (.iload_n 2, 1) := by decide +kernel
theorem dX1_init_25 : decode cX1_init 25 = .ok (.iconst 1, 1) := by decide +kernel
theorem dX1_init_26 : decode cX1_init 26 = .ok (.isub, 1) := by decide +kernel
theorem dX1_init_27 : decode cX1_init 27 = .ok (.invokestatic 22, 3) := by decide +kernel
theorem dX1_init_30 : decode cX1_init 30 = .ok (.invokestatic 7, 3) := by decide +kernel
theorem dX1_init_33 : decode cX1_init 33 = .ok (.putfield 27, 3) := by decide +kernel
theorem dX1_init_36 : decode cX1_init 36 = .ok (.aload_n 0, 1) := by decide +kernel
theorem dX1_init_37 : decode cX1_init 37 = .ok (.aload_n 0, 1) := by decide +kernel
theorem dX1_init_38 : decode cX1_init 38 = .ok (.getfield 27, 3) := by decide +kernel
theorem dX1_init_41 : decode cX1_init 41 = .ok (.aload_n 0, 1) := by decide +kernel
theorem dX1_init_42 : decode cX1_init 42 = .ok (.getfield 13, 3) := by decide +kernel
theorem dX1_init_45 : decode cX1_init 45 = .ok (.imul, 1) := by decide +kernel
theorem dX1_init_46 : decode cX1_init 46 = .ok (.putfield 30, 3) := by decide +kernel
theorem dX1_init_49 : decode cX1_init 49 = .ok (.aload_n 0, 1) := by decide +kernel
theorem dX1_init_50 : decode cX1_init 50 = .ok (.aload_n 3, 1) := by decide +kernel
theorem dX1_init_51 : decode cX1_init 51 = .ok (.aload_n 0, 1) := by decide +kernel
theorem dX1_init_52 : decode cX1_init 52 = .ok (.getfield 30, 3) := by decide +kernel
theorem dX1_init_55 : decode cX1_init 55 = .ok (.invokestatic 33, 3) := by decide +kernel
theorem dX1_init_58 : decode cX1_init 58 = .ok (.putfield 39, 3) := by decide +kernel
theorem dX1_init_61 : decode cX1_init 61 = .ok (.return_, 1) := by decide +kernel
theorem dX1_tells_0 : decode cX1_tells 0 = .ok (.iload_n 1, 1) := by decide +kernel
theorem dX1_tells_1 : decode cX1_tells 1 = .ok (.ifCond .lt 21, 3) := by decide +kernel
theorem dX1_tells_4 : decode cX1_tells 4 = .ok (.iload_n 1, 1) := by decide +kernel
theorem dX1_tells_5 : decode cX1_tells 5 = .ok (.aload_n 0, 1) := by decide +kernel
theorem dX1_tells_6 : decode cX1_tells 6 = .ok (.getfield 39, 3) := by decide +kernel
theorem dX1_tells_9 : decode cX1_tells 9 = .ok (.arraylength, 1) := by decide +kernel
theorem dX1_tells_10 : decode cX1_tells 10 = .ok (.if_icmp .ge 12, 3) := by decide +kernel
theorem dX1_tells_13 : decode cX1_tells 13 = .ok (.aload_n 0, 1) := by decide +kernel
theorem dX1_tells_14 : decode cX1_tells 14 = .ok (.getfield 39, 3) := by decide +kernel
theorem dX1_tells_17 : decode cX1_tells 17 = .ok (.iload_n 1, 1) := by decide +kernel
theorem dX1_tells_18 : decode cX1_tells 18 = .ok (.iaload, 1) := by decide +kernel
theorem dX1_tells_19 : decode cX1_tells 19 = .ok (.goto 4, 3) := by decide +kernel
theorem dX1_tells_22 : decode cX1_tells 22 = .ok (.iconst 0, 1) := by decide +kernel
theorem dX1_tells_23 : decode cX1_tells 23 = .ok (.ireturn, 1) := by decide +kernel
set_option maxRecDepth 20000 in
theorem ggX1_grow_X1_tells : GoodIn wsX1_grow wsX1_tells := goodIn_r _ [8, 9, 10, 11, 12, 13, 14] (by decide +kernel) (by decide +kernel)
set_option maxRecDepth 20000 in
theorem gX1_grow_X1_tells : GoodIn wsX1_grow (wsV RX1 43 RX1 yX1_tells wsX1_tells) := goodIn_app (goodIn_of _ (by decide +kernel)) ggX1_grow_X1_tells
theorem dX1_grow_0 : decode cX1_grow 0 = .ok (.iload_n 2, 1) := by decide +kernel
theorem dX1_grow_1 : decode cX1_grow 1 = .ok (.iconst 1, 1) := by decide +kernel
theorem dX1_grow_2 : decode cX1_grow 2 = .ok (.if_icmp .lt 16, 3) := by decide +kernel
theorem dX1_grow_5 : decode cX1_grow 5 = .ok (.iload_n 2, 1) := by decide +kernel
theorem dX1_grow_6 : decode cX1_grow 6 = .ok (.aload_n 1, 1) := by decide +kernel
theorem dX1_grow_7 : decode cX1_grow 7 = .ok (.arraylength, 1) := by decide +kernel
theorem dX1_grow_8 : decode cX1_grow 8 = .ok (.if_icmp .gt 10, 3) := by decide +kernel
theorem dX1_grow_11 : decode cX1_grow 11 = .ok (.iload_n 3, 1) := by decide +kernel
theorem dX1_grow_12 : decode cX1_grow 12 = .ok (.aload 4, 2) := by decide +kernel
theorem dX1_grow_14 : decode cX1_grow 14 = .ok (.arraylength, 1) := by decide +kernel
theorem dX1_grow_15 : decode cX1_grow 15 = .ok (.if_icmp .le 5, 3) := by decide +kernel
theorem dX1_grow_18 : decode cX1_grow 18 = .ok (.lconst 0, 1) := by decide +kernel
theorem dX1_grow_19 : decode cX1_grow 19 = .ok (.lreturn, 1) := by decide +kernel
theorem dX1_grow_20 : decode cX1_grow 20 = .ok (.iconst 0, 1) := by decide +kernel
theorem dX1_grow_21 : decode cX1_grow 21 = .ok (.istore 5, 2) := by decide +kernel
theorem dX1_grow_23 : decode cX1_grow 23 = .ok (.iconst 0, 1) := by decide +kernel
theorem dX1_grow_24 : decode cX1_grow 24 = .ok (.istore 6, 2) := by decide +kernel
theorem dX1_grow_26 : decode cX1_grow 26 = .ok (.iconst 1, 1) := by decide +kernel
theorem dX1_grow_27 : decode cX1_grow 27 = .ok (.istore 7, 2) := by decide +kernel
theorem dX1_grow_29 : decode cX1_grow 29 = .ok (.iload 7, 2) := by decide +kernel
theorem dX1_grow_31 : decode cX1_grow 31 = .ok (.aload_n 0, 1) := by decide +kernel
theorem dX1_grow_32 : decode cX1_grow 32 = .ok (.getfield 19, 3) := by decide +kernel
theorem dX1_grow_35 : decode cX1_grow 35 = .ok (.if_icmp .ge 41, 3) := by decide +kernel
theorem dX1_grow_38 : decode cX1_grow 38 = .ok (.iload 5, 2) := by decide +kernel
theorem dX1_grow_40 : decode cX1_grow 40 = .ok (.aload_n 0, 1) := by decide +kernel
theorem dX1_grow_41 : decode cX1_grow 41 = .ok (.getfield 13, 3) := by decide +kernel
theorem dX1_grow_44 : decode cX1_grow 44 = .ok (.imul, 1) := by decide +kernel
theorem dX1_grow_45 : decode cX1_grow 45 = .ok (.aload_n 1, 1) := by decide +kernel
theorem dX1_grow_46 : decode cX1_grow 46 = .ok (.iload 6, 2) := by decide +kernel
theorem dX1_grow_48 : decode cX1_grow 48 = .ok (.iaload, 1) := by decide +kernel
theorem dX1_grow_49 : decode cX1_grow 49 = .ok (.iadd, 1) := by decide +kernel
theorem dX1_grow_50 : decode cX1_grow 50 = .ok (.istore 5, 2) := by decide +kernel
theorem dX1_grow_52 : decode cX1_grow 52 = .ok (.iload 6, 2) := by decide +kernel
theorem dX1_grow_54 : decode cX1_grow 54 = .ok (.iconst 1, 1) := by decide +kernel
theorem dX1_grow_55 : decode cX1_grow 55 = .ok (.iadd, 1) := by decide +kernel
theorem dX1_grow_56 : decode cX1_grow 56 = .ok (.iload_n 2, 1) := by decide +kernel
theorem dX1_grow_57 : decode cX1_grow 57 = .ok (.if_icmp .ge 10, 3) := by decide +kernel
theorem dX1_grow_60 : decode cX1_grow 60 = .ok (.iload 6, 2) := by decide +kernel
theorem dX1_grow_62 : decode cX1_grow 62 = .ok (.iconst 1, 1) := by decide +kernel
theorem dX1_grow_63 : decode cX1_grow 63 = .ok (.iadd, 1) := by decide +kernel
theorem dX1_grow_64 : decode cX1_grow 64 = .ok (.goto 4, 3) := by decide +kernel
theorem dX1_grow_67 : decode cX1_grow 67 = .ok (.iconst 0, 1) := by decide +kernel
theorem dX1_grow_68 : decode cX1_grow 68 = .ok (.istore 6, 2) := by decide +kernel
theorem dX1_grow_70 : decode cX1_grow 70 = .ok (.iinc 7 1, 3) := by decide +kernel
theorem dX1_grow_73 : decode cX1_grow 73 = .ok (.goto (-44), 3) := by decide +kernel
theorem dX1_grow_76 : decode cX1_grow 76 = .ok (.lconst 0, 1) := by decide +kernel
theorem dX1_grow_77 : decode cX1_grow 77 = .ok (.lstore 7, 2) := by decide +kernel
theorem dX1_grow_79 : decode cX1_grow 79 = .ok (.iconst 0, 1) := by decide +kernel
theorem dX1_grow_80 : decode cX1_grow 80 = .ok (.istore 9, 2) := by decide +kernel
theorem dX1_grow_82 : decode cX1_grow 82 = .ok (.iload 9, 2) := by decide +kernel
theorem dX1_grow_84 : decode cX1_grow 84 = .ok (.iload_n 3, 1) := by decide +kernel
theorem dX1_grow_85 : decode cX1_grow 85 = .ok (.if_icmp .ge 75, 3) := by decide +kernel
theorem dX1_grow_88 : decode cX1_grow 88 = .ok (.iload 5, 2) := by decide +kernel
theorem dX1_grow_90 : decode cX1_grow 90 = .ok (.aload_n 0, 1) := by decide +kernel
theorem dX1_grow_91 : decode cX1_grow 91 = .ok (.getfield 27, 3) := by decide +kernel
theorem dX1_grow_94 : decode cX1_grow 94 = .ok (.irem, 1) := by decide +kernel
theorem dX1_grow_95 : decode cX1_grow 95 = .ok (.aload_n 0, 1) := by decide +kernel
theorem dX1_grow_96 : decode cX1_grow 96 = .ok (.getfield 13, 3) := by decide +kernel
theorem dX1_grow_99 : decode cX1_grow 99 = .ok (.imul, 1) := by decide +kernel
theorem dX1_grow_100 : decode cX1_grow 100 = .ok (.aload_n 1, 1) := by decide +kernel
theorem dX1_grow_101 : decode cX1_grow 101 = .ok (.iload 6, 2) := by decide +kernel
theorem dX1_grow_103 : decode cX1_grow 103 = .ok (.iaload, 1) := by decide +kernel
theorem dX1_grow_104 : decode cX1_grow 104 = .ok (.iadd, 1) := by decide +kernel
theorem dX1_grow_105 : decode cX1_grow 105 = .ok (.istore 5, 2) := by decide +kernel
theorem dX1_grow_107 : decode cX1_grow 107 = .ok (.iload 6, 2) := by decide +kernel
theorem dX1_grow_109 : decode cX1_grow 109 = .ok (.iconst 1, 1) := by decide +kernel
theorem dX1_grow_110 : decode cX1_grow 110 = .ok (.iadd, 1) := by decide +kernel
theorem dX1_grow_111 : decode cX1_grow 111 = .ok (.iload_n 2, 1) := by decide +kernel
theorem dX1_grow_112 : decode cX1_grow 112 = .ok (.if_icmp .ge 10, 3) := by decide +kernel
theorem dX1_grow_115 : decode cX1_grow 115 = .ok (.iload 6, 2) := by decide +kernel
theorem dX1_grow_117 : decode cX1_grow 117 = .ok (.iconst 1, 1) := by decide +kernel
theorem dX1_grow_118 : decode cX1_grow 118 = .ok (.iadd, 1) := by decide +kernel
theorem dX1_grow_119 : decode cX1_grow 119 = .ok (.goto 4, 3) := by decide +kernel
theorem dX1_grow_122 : decode cX1_grow 122 = .ok (.iconst 0, 1) := by decide +kernel
theorem dX1_grow_123 : decode cX1_grow 123 = .ok (.istore 6, 2) := by decide +kernel
theorem dX1_grow_125 : decode cX1_grow 125 = .ok (.aload_n 0, 1) := by decide +kernel
theorem dX1_grow_126 : decode cX1_grow 126 = .ok (.iload 5, 2) := by decide +kernel
theorem dX1_grow_128 : decode cX1_grow 128 = .ok (.invokevirtual 43, 3) := by decide +kernel
theorem dX1_grow_131 : decode cX1_grow 131 = .ok (.istore 10, 2) := by decide +kernel
theorem dX1_grow_133 : decode cX1_grow 133 = .ok (.aload 4, 2) := by decide +kernel
theorem dX1_grow_135 : decode cX1_grow 135 = .ok (.iload 9, 2) := by decide +kernel
theorem dX1_grow_137 : decode cX1_grow 137 = .ok (.iload 10, 2) := by decide +kernel
theorem dX1_grow_139 : decode cX1_grow 139 = .ok (.iastore, 1) := by decide +kernel
theorem dX1_grow_140 : decode cX1_grow 140 = .ok (.lload 7, 2) := by decide +kernel
theorem dX1_grow_142 : decode cX1_grow 142 = .ok (.aload_n 0, 1) := by decide +kernel
theorem dX1_grow_143 : decode cX1_grow 143 = .ok (.getfield 13, 3) := by decide +kernel
theorem dX1_grow_146 : decode cX1_grow 146 = .ok (.i2l, 1) := by decide +kernel
theorem dX1_grow_147 : decode cX1_grow 147 = .ok (.lmul, 1) := by decide +kernel
theorem dX1_grow_148 : decode cX1_grow 148 = .ok (.iload 10, 2) := by decide +kernel
theorem dX1_grow_150 : decode cX1_grow 150 = .ok (.i2l, 1) := by decide +kernel
theorem dX1_grow_151 : decode cX1_grow 151 = .ok (.ladd, 1) := by decide +kernel
theorem dX1_grow_152 : decode cX1_grow 152 = .ok (.lstore 7, 2) := by decide +kernel
theorem dX1_grow_154 : decode cX1_grow 154 = .ok (.iinc 9 1, 3) := by decide +kernel
theorem dX1_grow_157 : decode cX1_grow 157 = .ok (.goto (-75), 3) := by decide +kernel
theorem dX1_grow_160 : decode cX1_grow 160 = .ok (.lload 7, 2) := by decide +kernel
theorem dX1_grow_162 : decode cX1_grow 162 = .ok (.lreturn, 1) := by decide +kernel
theorem dX1_spread_0 : decode cX1_spread 0 = .ok (.iload_n 1, 1) := by decide +kernel
theorem dX1_spread_1 : decode cX1_spread 1 = .ok (.istore 4, 2) := by decide +kernel
theorem dX1_spread_3 : decode cX1_spread 3 = .ok (.iload_n 2, 1) := by decide +kernel
theorem dX1_spread_4 : decode cX1_spread 4 = .ok (.aload_n 3, 1) := by decide +kernel
theorem dX1_spread_5 : decode cX1_spread 5 = .ok (.arraylength, 1) := by decide +kernel
theorem dX1_spread_6 : decode cX1_spread 6 = .ok (.invokestatic 47, 3) := by decide +kernel
theorem dX1_spread_9 : decode cX1_spread 9 = .ok (.iconst 1, 1) := by decide +kernel
theorem dX1_spread_10 : decode cX1_spread 10 = .ok (.isub, 1) := by decide +kernel
theorem dX1_spread_11 : decode cX1_spread 11 = .ok (.istore 5, 2) := by decide +kernel
theorem dX1_spread_13 : decode cX1_spread 13 = .ok (.iload 5, 2) := by decide +kernel
theorem dX1_spread_15 : decode cX1_spread 15 = .ok (.ifCond .lt 29, 3) := by decide +kernel
theorem dX1_spread_18 : decode cX1_spread 18 = .ok (.aload_n 3, 1) := by decide +kernel
theorem dX1_spread_19 : decode cX1_spread 19 = .ok (.iload 5, 2) := by decide +kernel
theorem dX1_spread_21 : decode cX1_spread 21 = .ok (.iload 4, 2) := by decide +kernel
theorem dX1_spread_23 : decode cX1_spread 23 = .ok (.aload_n 0, 1) := by decide +kernel
theorem dX1_spread_24 : decode cX1_spread 24 = .ok (.getfield 13, 3) := by decide +kernel
theorem dX1_spread_27 : decode cX1_spread 27 = .ok (.irem, 1) := by decide +kernel
theorem dX1_spread_28 : decode cX1_spread 28 = .ok (.iastore, 1) := by decide +kernel
theorem dX1_spread_29 : decode cX1_spread 29 = .ok (.iload 4, 2) := by decide +kernel
theorem dX1_spread_31 : decode cX1_spread 31 = .ok (.aload_n 0, 1) := by decide +kernel
theorem dX1_spread_32 : decode cX1_spread 32 = .ok (.getfield 13, 3) := by decide +kernel
theorem dX1_spread_35 : decode cX1_spread 35 = .ok (.idiv, 1) := by decide +kernel
theorem dX1_spread_36 : decode cX1_spread 36 = .ok (.istore 4, 2) := by decide +kernel
theorem dX1_spread_38 : decode cX1_spread 38 = .ok (.iinc 5 (-1), 3) := by decide +kernel
theorem dX1_spread_41 : decode cX1_spread 41 = .ok (.goto (-28), 3) := by decide +kernel
theorem dX1_spread_44 : decode cX1_spread 44 = .ok (.return_, 1) := by decide +kernel
theorem dX1_backward_0 : decode cX1_backward 0 = .ok (.iload_n 1, 1) := by decide +kernel
theorem dX1_backward_1 : decode cX1_backward 1 = .ok (.istore_n 2, 1) := by decide +kernel
theorem dX1_backward_2 : decode cX1_backward 2 = .ok (.iconst 0, 1) := by decide +kernel
theorem dX1_backward_3 : decode cX1_backward 3 = .ok (.istore_n 3, 1) := by decide +kernel
theorem dX1_backward_4 : decode cX1_backward 4 = .ok (.iconst 0, 1) := by decide +kernel
theorem dX1_backward_5 : decode cX1_backward 5 = .ok (.istore 4, 2) := by decide +kernel
theorem dX1_backward_7 : decode cX1_backward 7 = .ok (.iload 4, 2) := by decide +kernel
theorem dX1_backward_9 : decode cX1_backward 9 = .ok (.aload_n 0, 1) := by decide +kernel
theorem dX1_backward_10 : decode cX1_backward 10 = .ok (.getfield 19, 3) := by decide +kernel
theorem dX1_backward_13 : decode cX1_backward 13 = .ok (.if_icmp .ge 30, 3) := by decide +kernel
theorem dX1_backward_16 : decode cX1_backward 16 = .ok (.iload_n 3, 1) := by decide +kernel
theorem dX1_backward_17 : decode cX1_backward 17 = .ok (.aload_n 0, 1) := by decide +kernel
theorem dX1_backward_18 : decode cX1_backward 18 = .ok (.getfield 13, 3) := by decide +kernel
theorem dX1_backward_21 : decode cX1_backward 21 = .ok (.imul, 1) := by decide +kernel
theorem dX1_backward_22 : decode cX1_backward 22 = .ok (.iload_n 2, 1) := by decide +kernel
theorem dX1_backward_23 : decode cX1_backward 23 = .ok (.aload_n 0, 1) := by decide +kernel
theorem dX1_backward_24 : decode cX1_backward 24 = .ok (.getfield 13, 3) := by decide +kernel
theorem dX1_backward_27 : decode cX1_backward 27 = .ok (.irem, 1) := by decide +kernel
theorem dX1_backward_28 : decode cX1_backward 28 = .ok (.iadd, 1) := by decide +kernel
theorem dX1_backward_29 : decode cX1_backward 29 = .ok (.istore_n 3, 1) := by decide +kernel
theorem dX1_backward_30 : decode cX1_backward 30 = .ok (.iload_n 2, 1) := by decide +kernel
theorem dX1_backward_31 : decode cX1_backward 31 = .ok (.aload_n 0, 1) := by decide +kernel
theorem dX1_backward_32 : decode cX1_backward 32 = .ok (.getfield 13, 3) := by decide +kernel
theorem dX1_backward_35 : decode cX1_backward 35 = .ok (.idiv, 1) := by decide +kernel
theorem dX1_backward_36 : decode cX1_backward 36 = .ok (.istore_n 2, 1) := by decide +kernel
theorem dX1_backward_37 : decode cX1_backward 37 = .ok (.iinc 4 1, 3) := by decide +kernel
theorem dX1_backward_40 : decode cX1_backward 40 = .ok (.goto (-33), 3) := by decide +kernel
theorem dX1_backward_43 : decode cX1_backward 43 = .ok (.iload_n 3, 1) := by decide +kernel
theorem dX1_backward_44 : decode cX1_backward 44 = .ok (.ireturn, 1) := by decide +kernel
theorem dX1_translated_0 : decode cX1_translated 0 = .ok (.iload_n 1, 1) := by decide +kernel
theorem dX1_translated_1 : decode cX1_translated 1 = .ok (.istore_n 3, 1) := by decide +kernel
theorem dX1_translated_2 : decode cX1_translated 2 = .ok (.iconst 1, 1) := by decide +kernel
theorem dX1_translated_3 : decode cX1_translated 3 = .ok (.istore 4, 2) := by decide +kernel
theorem dX1_translated_5 : decode cX1_translated 5 = .ok (.iconst 0, 1) := by decide +kernel
theorem dX1_translated_6 : decode cX1_translated 6 = .ok (.istore 5, 2) := by decide +kernel
theorem dX1_translated_8 : decode cX1_translated 8 = .ok (.iconst 0, 1) := by decide +kernel
theorem dX1_translated_9 : decode cX1_translated 9 = .ok (.istore 6, 2) := by decide +kernel
theorem dX1_translated_11 : decode cX1_translated 11 = .ok (.iload 6, 2) := by decide +kernel
theorem dX1_translated_13 : decode cX1_translated 13 = .ok (.aload_n 0, 1) := by decide +kernel
theorem dX1_translated_14 : decode cX1_translated 14 = .ok (.getfield 19, 3) := by decide +kernel
theorem dX1_translated_17 : decode cX1_translated 17 = .ok (.if_icmp .ge 61, 3) := by decide +kernel
theorem dX1_translated_20 : decode cX1_translated 20 = .ok (.iload_n 3, 1) := by decide +kernel
theorem dX1_translated_21 : decode cX1_translated 21 = .ok (.aload_n 0, 1) := by decide +kernel
theorem dX1_translated_22 : decode cX1_translated 22 = .ok (.getfield 13, 3) := by decide +kernel
theorem dX1_translated_25 : decode cX1_translated 25 = .ok (.irem, 1) := by decide +kernel
theorem dX1_translated_26 : decode cX1_translated 26 = .ok (.istore 7, 2) := by decide +kernel
theorem dX1_translated_28 : decode cX1_translated 28 = .ok (.iload 5, 2) := by decide +kernel
theorem dX1_translated_30 : decode cX1_translated 30 = .ok (.iload 7, 2) := by decide +kernel
theorem dX1_translated_32 : decode cX1_translated 32 = .ok (.ifCond .lt 20, 3) := by decide +kernel
theorem dX1_translated_35 : decode cX1_translated 35 = .ok (.iload 7, 2) := by decide +kernel
theorem dX1_translated_37 : decode cX1_translated 37 = .ok (.aload_n 2, 1) := by decide +kernel
theorem dX1_translated_38 : decode cX1_translated 38 = .ok (.arraylength, 1) := by decide +kernel
theorem dX1_translated_39 : decode cX1_translated 39 = .ok (.if_icmp .ge 13, 3) := by decide +kernel
theorem dX1_translated_42 : decode cX1_translated 42 = .ok (.aload_n 2, 1) := by decide +kernel
theorem dX1_translated_43 : decode cX1_translated 43 = .ok (.iload 7, 2) := by decide +kernel
theorem dX1_translated_45 : decode cX1_translated 45 = .ok (.iaload, 1) := by decide +kernel
theorem dX1_translated_46 : decode cX1_translated 46 = .ok (.iload 4, 2) := by decide +kernel
theorem dX1_translated_48 : decode cX1_translated 48 = .ok (.imul, 1) := by decide +kernel
theorem dX1_translated_49 : decode cX1_translated 49 = .ok (.goto 4, 3) := by decide +kernel
theorem dX1_translated_52 : decode cX1_translated 52 = .ok (.iconst 0, 1) := by decide +kernel
theorem dX1_translated_53 : decode cX1_translated 53 = .ok (.iadd, 1) := by decide +kernel
theorem dX1_translated_54 : decode cX1_translated 54 = .ok (.istore 5, 2) := by decide +kernel
theorem dX1_translated_56 : decode cX1_translated 56 = .ok (.iload 4, 2) := by decide +kernel
theorem dX1_translated_58 : decode cX1_translated 58 = .ok (.aload_n 0, 1) := by decide +kernel
theorem dX1_translated_59 : decode cX1_translated 59 = .ok (.getfield 13, 3) := by decide +kernel
theorem dX1_translated_62 : decode cX1_translated 62 = .ok (.imul, 1) := by decide +kernel
theorem dX1_translated_63 : decode cX1_translated 63 = .ok (.istore 4, 2) := by decide +kernel
theorem dX1_translated_65 : decode cX1_translated 65 = .ok (.iload_n 3, 1) := by decide +kernel
theorem dX1_translated_66 : decode cX1_translated 66 = .ok (.aload_n 0, 1) := by decide +kernel
theorem dX1_translated_67 : decode cX1_translated 67 = .ok (.getfield 13, 3) := by decide +kernel
theorem dX1_translated_70 : decode cX1_translated 70 = .ok (.idiv, 1) := by decide +kernel
theorem dX1_translated_71 : decode cX1_translated 71 = .ok (.istore_n 3, 1) := by decide +kernel
theorem dX1_translated_72 : decode cX1_translated 72 = .ok (.iinc 6 1, 3) := by decide +kernel
theorem dX1_translated_75 : decode cX1_translated 75 = .ok (.goto (-64), 3) := by decide +kernel
theorem dX1_translated_78 : decode cX1_translated 78 = .ok (.iload 5, 2) := by decide +kernel
theorem dX1_translated_80 : decode cX1_translated 80 = .ok (.ireturn, 1) := by decide +kernel
set_option maxRecDepth 20000 in
theorem ggX1_idlesAhead_X1_tells : GoodIn wsX1_idlesAhead wsX1_tells := goodIn_r _ [8, 9, 10, 11, 12, 13, 14] (by decide +kernel) (by decide +kernel)
set_option maxRecDepth 20000 in
theorem gX1_idlesAhead_X1_tells : GoodIn wsX1_idlesAhead (wsV RX1 43 RX1 yX1_tells wsX1_tells) := goodIn_app (goodIn_of _ (by decide +kernel)) ggX1_idlesAhead_X1_tells
theorem dX1_idlesAhead_0 : decode cX1_idlesAhead 0 = .ok (.aload_n 0, 1) := by decide +kernel
theorem dX1_idlesAhead_1 : decode cX1_idlesAhead 1 = .ok (.getfield 19, 3) := by decide +kernel
theorem dX1_idlesAhead_4 : decode cX1_idlesAhead 4 = .ok (.iconst 2, 1) := by decide +kernel
theorem dX1_idlesAhead_5 : decode cX1_idlesAhead 5 = .ok (.if_icmp .ge 5, 3) := by decide +kernel
theorem dX1_idlesAhead_8 : decode cX1_idlesAhead 8 = .ok (.iconst 0, 1) := by decide +kernel
theorem dX1_idlesAhead_9 : decode cX1_idlesAhead 9 = .ok (.ireturn, 1) := by decide +kernel
theorem dX1_idlesAhead_10 : decode cX1_idlesAhead 10 = .ok (.aload_n 0, 1) := by decide +kernel
theorem dX1_idlesAhead_11 : decode cX1_idlesAhead 11 = .ok (.getfield 27, 3) := by decide +kernel
theorem dX1_idlesAhead_14 : decode cX1_idlesAhead 14 = .ok (.istore_n 1, 1) := by decide +kernel
theorem dX1_idlesAhead_15 : decode cX1_idlesAhead 15 = .ok (.iload_n 1, 1) := by decide +kernel
theorem dX1_idlesAhead_16 : decode cX1_idlesAhead 16 = .ok (.aload_n 0, 1) := by decide +kernel
theorem dX1_idlesAhead_17 : decode cX1_idlesAhead 17 = .ok (.getfield 30, 3) := by decide +kernel
theorem dX1_idlesAhead_20 : decode cX1_idlesAhead 20 = .ok (.if_icmp .ge 29, 3) := by decide +kernel
theorem dX1_idlesAhead_23 : decode cX1_idlesAhead 23 = .ok (.aload_n 0, 1) := by decide +kernel
theorem dX1_idlesAhead_24 : decode cX1_idlesAhead 24 = .ok (.iload_n 1, 1) := by decide +kernel
theorem dX1_idlesAhead_25 : decode cX1_idlesAhead 25 = .ok (.invokevirtual 43, 3) := by decide +kernel
theorem dX1_idlesAhead_28 : decode cX1_idlesAhead 28 = .ok (.aload_n 0, 1) := by decide +kernel
theorem dX1_idlesAhead_29 : decode cX1_idlesAhead 29 = .ok (.iload_n 1, 1) := by decide +kernel
theorem dX1_idlesAhead_30 : decode cX1_idlesAhead 30 = .ok (.aload_n 0, 1) := by decide +kernel
theorem dX1_idlesAhead_31 : decode cX1_idlesAhead 31 = .ok (.getfield 27, 3) := by decide +kernel
theorem dX1_idlesAhead_34 : decode cX1_idlesAhead 34 = .ok (.irem, 1) := by decide +kernel
theorem dX1_idlesAhead_35 : decode cX1_idlesAhead 35 = .ok (.invokevirtual 43, 3) := by decide +kernel
theorem dX1_idlesAhead_38 : decode cX1_idlesAhead 38 = .ok (.if_icmp .eq 5, 3) := by decide +kernel
theorem dX1_idlesAhead_41 : decode cX1_idlesAhead 41 = .ok (.iconst 0, 1) := by decide +kernel
theorem dX1_idlesAhead_42 : decode cX1_idlesAhead 42 = .ok (.ireturn, 1) := by decide +kernel
theorem dX1_idlesAhead_43 : decode cX1_idlesAhead 43 = .ok (.iinc 1 1, 3) := by decide +kernel
theorem dX1_idlesAhead_46 : decode cX1_idlesAhead 46 = .ok (.goto (-31), 3) := by decide +kernel
theorem dX1_idlesAhead_49 : decode cX1_idlesAhead 49 = .ok (.iconst 1, 1) := by decide +kernel
theorem dX1_idlesAhead_50 : decode cX1_idlesAhead 50 = .ok (.ireturn, 1) := by decide +kernel
set_option maxRecDepth 20000 in
theorem ggX1_idlesBehind_X1_tells : GoodIn wsX1_idlesBehind wsX1_tells := goodIn_r _ [8, 9, 10, 11, 12, 13, 14] (by decide +kernel) (by decide +kernel)
set_option maxRecDepth 20000 in
theorem gX1_idlesBehind_X1_tells : GoodIn wsX1_idlesBehind (wsV RX1 43 RX1 yX1_tells wsX1_tells) := goodIn_app (goodIn_of _ (by decide +kernel)) ggX1_idlesBehind_X1_tells
theorem dX1_idlesBehind_0 : decode cX1_idlesBehind 0 = .ok (.aload_n 0, 1) := by decide +kernel
theorem dX1_idlesBehind_1 : decode cX1_idlesBehind 1 = .ok (.getfield 19, 3) := by decide +kernel
theorem dX1_idlesBehind_4 : decode cX1_idlesBehind 4 = .ok (.iconst 2, 1) := by decide +kernel
theorem dX1_idlesBehind_5 : decode cX1_idlesBehind 5 = .ok (.if_icmp .ge 5, 3) := by decide +kernel
theorem dX1_idlesBehind_8 : decode cX1_idlesBehind 8 = .ok (.iconst 0, 1) := by decide +kernel
theorem dX1_idlesBehind_9 : decode cX1_idlesBehind 9 = .ok (.ireturn, 1) := by decide +kernel
theorem dX1_idlesBehind_10 : decode cX1_idlesBehind 10 = .ok (.iconst 0, 1) := by decide +kernel
theorem dX1_idlesBehind_11 : decode cX1_idlesBehind 11 = .ok (.istore_n 1, 1) := by decide +kernel
theorem dX1_idlesBehind_12 : decode cX1_idlesBehind 12 = .ok (.iload_n 1, 1) := by decide +kernel
theorem dX1_idlesBehind_13 : decode cX1_idlesBehind 13 = .ok (.aload_n 0, 1) := by decide +kernel
theorem dX1_idlesBehind_14 : decode cX1_idlesBehind 14 = .ok (.getfield 30, 3) := by decide +kernel
theorem dX1_idlesBehind_17 : decode cX1_idlesBehind 17 = .ok (.if_icmp .ge 31, 3) := by decide +kernel
theorem dX1_idlesBehind_20 : decode cX1_idlesBehind 20 = .ok (.aload_n 0, 1) := by decide +kernel
theorem dX1_idlesBehind_21 : decode cX1_idlesBehind 21 = .ok (.iload_n 1, 1) := by decide +kernel
theorem dX1_idlesBehind_22 : decode cX1_idlesBehind 22 = .ok (.invokevirtual 43, 3) := by decide +kernel
theorem dX1_idlesBehind_25 : decode cX1_idlesBehind 25 = .ok (.aload_n 0, 1) := by decide +kernel
theorem dX1_idlesBehind_26 : decode cX1_idlesBehind 26 = .ok (.iload_n 1, 1) := by decide +kernel
theorem dX1_idlesBehind_27 : decode cX1_idlesBehind 27 = .ok (.iload_n 1, 1) := by decide +kernel
theorem dX1_idlesBehind_28 : decode cX1_idlesBehind 28 = .ok (.aload_n 0, 1) := by decide +kernel
theorem dX1_idlesBehind_29 : decode cX1_idlesBehind 29 = .ok (.getfield 13, 3) := by decide +kernel
theorem dX1_idlesBehind_32 : decode cX1_idlesBehind 32 = .ok (.irem, 1) := by decide +kernel
theorem dX1_idlesBehind_33 : decode cX1_idlesBehind 33 = .ok (.isub, 1) := by decide +kernel
theorem dX1_idlesBehind_34 : decode cX1_idlesBehind 34 = .ok (.invokevirtual 43, 3) := by decide +kernel
theorem dX1_idlesBehind_37 : decode cX1_idlesBehind 37 = .ok (.if_icmp .eq 5, 3) := by decide +kernel
theorem dX1_idlesBehind_40 : decode cX1_idlesBehind 40 = .ok (.iconst 0, 1) := by decide +kernel
theorem dX1_idlesBehind_41 : decode cX1_idlesBehind 41 = .ok (.ireturn, 1) := by decide +kernel
theorem dX1_idlesBehind_42 : decode cX1_idlesBehind 42 = .ok (.iinc 1 1, 3) := by decide +kernel
theorem dX1_idlesBehind_45 : decode cX1_idlesBehind 45 = .ok (.goto (-33), 3) := by decide +kernel
theorem dX1_idlesBehind_48 : decode cX1_idlesBehind 48 = .ok (.iconst 1, 1) := by decide +kernel
theorem dX1_idlesBehind_49 : decode cX1_idlesBehind 49 = .ok (.ireturn, 1) := by decide +kernel
set_option maxRecDepth 20000 in
theorem ggX1_withoutAhead_X1_init : GoodIn wsX1_withoutAhead wsX1_init := goodIn_r _ [9, 10, 11, 12, 13, 14, 15, 16, 4, 5, 17, 18, 6, 19, 20, 21, 22, 23, 24, 25, 26, 27, 28, 29, 30, 31, 32, 33, 34, 35, 36, 37, 38, 39, 40, 41, 42, 43, 44] (by decide +kernel) (by decide +kernel)
set_option maxRecDepth 20000 in
theorem gX1_withoutAhead_X1_init : GoodIn wsX1_withoutAhead (wsX1_init) := ggX1_withoutAhead_X1_init
theorem dX1_withoutAhead_0 : decode cX1_withoutAhead 0 = .ok (.new 14, 3) := by decide +kernel
theorem dX1_withoutAhead_3 : decode cX1_withoutAhead 3 = .ok (.dup, 1) := by decide +kernel
theorem dX1_withoutAhead_4 : decode cX1_withoutAhead 4 = .ok (.aload_n 0, 1) := by decide +kernel
theorem dX1_withoutAhead_5 : decode cX1_withoutAhead 5 = .ok (.getfield 13, 3) := by decide +kernel
theorem dX1_withoutAhead_8 : decode cX1_withoutAhead 8 = .ok (.aload_n 0, 1) := by decide +kernel
theorem dX1_withoutAhead_9 : decode cX1_withoutAhead 9 = .ok (.getfield 19, 3) := by decide +kernel
theorem dX1_withoutAhead_12 : decode cX1_withoutAhead 12 = .ok (.iconst 1, 1) := by decide +kernel
theorem dX1_withoutAhead_13 : decode cX1_withoutAhead 13 = .ok (.isub, 1) := by decide +kernel
theorem dX1_withoutAhead_14 : decode cX1_withoutAhead 14 = .ok (.aload_n 0, 1) := by decide +kernel
theorem dX1_withoutAhead_15 : decode cX1_withoutAhead 15 = .ok (.getfield 39, 3) := by decide +kernel
theorem dX1_withoutAhead_18 : decode cX1_withoutAhead 18 = .ok (.invokespecial 50, 3) := by decide +kernel
theorem dX1_withoutAhead_21 : decode cX1_withoutAhead 21 = .ok (.areturn, 1) := by decide +kernel
set_option maxRecDepth 20000 in
theorem ggX1_withoutBehind_X1_tells : GoodIn wsX1_withoutBehind wsX1_tells := goodIn_r _ [11, 12, 44, 45, 46, 47, 48] (by decide +kernel) (by decide +kernel)
set_option maxRecDepth 20000 in
theorem gX1_withoutBehind_X1_tells : GoodIn wsX1_withoutBehind (wsV RX1 43 RX1 yX1_tells wsX1_tells) := goodIn_app (goodIn_of _ (by decide +kernel)) ggX1_withoutBehind_X1_tells
set_option maxRecDepth 20000 in
theorem ggX1_withoutBehind_X1_init : GoodIn wsX1_withoutBehind wsX1_init := goodIn_r _ [15, 16, 17, 18, 19, 20, 21, 22, 3, 7, 1, 23, 12, 24, 25, 26, 27, 28, 29, 30, 31, 32, 33, 34, 35, 36, 2, 37, 38, 39, 40, 41, 42, 43, 44, 45, 46, 47, 48] (by decide +kernel) (by decide +kernel)
set_option maxRecDepth 20000 in
theorem gX1_withoutBehind_X1_init : GoodIn wsX1_withoutBehind (wsX1_init) := ggX1_withoutBehind_X1_init
theorem dX1_withoutBehind_0 : decode cX1_withoutBehind 0 = .ok (.aload_n 0, 1) := by decide +kernel
theorem dX1_withoutBehind_1 : decode cX1_withoutBehind 1 = .ok (.getfield 27, 3) := by decide +kernel
theorem dX1_withoutBehind_4 : decode cX1_withoutBehind 4 = .ok (.newarray .int, 2) := by decide +kernel
theorem dX1_withoutBehind_6 : decode cX1_withoutBehind 6 = .ok (.astore_n 1, 1) := by decide +kernel
theorem dX1_withoutBehind_7 : decode cX1_withoutBehind 7 = .ok (.iconst 0, 1) := by decide +kernel
theorem dX1_withoutBehind_8 : decode cX1_withoutBehind 8 = .ok (.istore_n 2, 1) := by decide +kernel
theorem dX1_withoutBehind_9 : decode cX1_withoutBehind 9 = .ok (.iload_n 2, 1) := by decide +kernel
theorem dX1_withoutBehind_10 : decode cX1_withoutBehind 10 = .ok (.aload_n 0, 1) := by decide +kernel
theorem dX1_withoutBehind_11 : decode cX1_withoutBehind 11 = .ok (.getfield 27, 3) := by decide +kernel
theorem dX1_withoutBehind_14 : decode cX1_withoutBehind 14 = .ok (.if_icmp .ge 22, 3) := by decide +kernel
theorem dX1_withoutBehind_17 : decode cX1_withoutBehind 17 = .ok (.aload_n 1, 1) := by decide +kernel
theorem dX1_withoutBehind_18 : decode cX1_withoutBehind 18 = .ok (.iload_n 2, 1) := by decide +kernel
theorem dX1_withoutBehind_19 : decode cX1_withoutBehind 19 = .ok (.aload_n 0, 1) := by decide +kernel
theorem dX1_withoutBehind_20 : decode cX1_withoutBehind 20 = .ok (.iload_n 2, 1) := by decide +kernel
theorem dX1_withoutBehind_21 : decode cX1_withoutBehind 21 = .ok (.aload_n 0, 1) := by decide +kernel
theorem dX1_withoutBehind_22 : decode cX1_withoutBehind 22 = .ok (.getfield 13, 3) := by decide +kernel
theorem dX1_withoutBehind_25 : decode cX1_withoutBehind 25 = .ok (.imul, 1) := by decide +kernel
theorem dX1_withoutBehind_26 : decode cX1_withoutBehind 26 = .ok (.invokevirtual 43, 3) := by decide +kernel
theorem dX1_withoutBehind_29 : decode cX1_withoutBehind 29 = .ok (.iastore, 1) := by decide +kernel
theorem dX1_withoutBehind_30 : decode cX1_withoutBehind 30 = .ok (.iinc 2 1, 3) := by decide +kernel
theorem dX1_withoutBehind_33 : decode cX1_withoutBehind 33 = .ok (.goto (-24), 3) := by decide +kernel
theorem dX1_withoutBehind_36 : decode cX1_withoutBehind 36 = .ok (.new 14, 3) := by decide +kernel
theorem dX1_withoutBehind_39 : decode cX1_withoutBehind 39 = .ok (.dup, 1) := by decide +kernel
theorem dX1_withoutBehind_40 : decode cX1_withoutBehind 40 = .ok (.aload_n 0, 1) := by decide +kernel
theorem dX1_withoutBehind_41 : decode cX1_withoutBehind 41 = .ok (.getfield 13, 3) := by decide +kernel
theorem dX1_withoutBehind_44 : decode cX1_withoutBehind 44 = .ok (.aload_n 0, 1) := by decide +kernel
theorem dX1_withoutBehind_45 : decode cX1_withoutBehind 45 = .ok (.getfield 19, 3) := by decide +kernel
theorem dX1_withoutBehind_48 : decode cX1_withoutBehind 48 = .ok (.iconst 1, 1) := by decide +kernel
theorem dX1_withoutBehind_49 : decode cX1_withoutBehind 49 = .ok (.isub, 1) := by decide +kernel
theorem dX1_withoutBehind_50 : decode cX1_withoutBehind 50 = .ok (.aload_n 1, 1) := by decide +kernel
theorem dX1_withoutBehind_51 : decode cX1_withoutBehind 51 = .ok (.invokespecial 50, 3) := by decide +kernel
theorem dX1_withoutBehind_54 : decode cX1_withoutBehind 54 = .ok (.areturn, 1) := by decide +kernel
set_option maxRecDepth 20000 in
theorem ggX1_holds_X1_level : GoodIn wsX1_holds wsX1_level := goodIn_r _ [8, 3, 9, 2, 10, 11, 12, 13, 14, 15, 16, 7, 17, 18, 19, 20, 21, 22, 23, 24, 25, 26, 27] (by decide +kernel) (by decide +kernel)
set_option maxRecDepth 20000 in
theorem gX1_holds_X1_level : GoodIn wsX1_holds (wsV RX1 53 RX1 yX1_level wsX1_level) := goodIn_app (goodIn_of _ (by decide +kernel)) ggX1_holds_X1_level
set_option maxRecDepth 20000 in
theorem ggX1_holds_X1_gain : GoodIn wsX1_holds wsX1_gain := goodIn_r _ [17, 3, 18, 19, 20, 7, 21, 22, 23, 24, 25, 26, 27] (by decide +kernel) (by decide +kernel)
set_option maxRecDepth 20000 in
theorem gX1_holds_X1_gain : GoodIn wsX1_holds (wsV RX1 57 RX1 yX1_gain wsX1_gain) := goodIn_app (goodIn_of _ (by decide +kernel)) ggX1_holds_X1_gain
theorem dX1_holds_0 : decode cX1_holds 0 = .ok (.iconst 0, 1) := by decide +kernel
theorem dX1_holds_1 : decode cX1_holds 1 = .ok (.istore_n 2, 1) := by decide +kernel
theorem dX1_holds_2 : decode cX1_holds 2 = .ok (.iload_n 2, 1) := by decide +kernel
theorem dX1_holds_3 : decode cX1_holds 3 = .ok (.aload_n 0, 1) := by decide +kernel
theorem dX1_holds_4 : decode cX1_holds 4 = .ok (.getfield 30, 3) := by decide +kernel
theorem dX1_holds_7 : decode cX1_holds 7 = .ok (.if_icmp .ge 49, 3) := by decide +kernel
theorem dX1_holds_10 : decode cX1_holds 10 = .ok (.aload_n 0, 1) := by decide +kernel
theorem dX1_holds_11 : decode cX1_holds 11 = .ok (.iload_n 2, 1) := by decide +kernel
theorem dX1_holds_12 : decode cX1_holds 12 = .ok (.aload_n 0, 1) := by decide +kernel
theorem dX1_holds_13 : decode cX1_holds 13 = .ok (.getfield 13, 3) := by decide +kernel
theorem dX1_holds_16 : decode cX1_holds 16 = .ok (.idiv, 1) := by decide +kernel
theorem dX1_holds_17 : decode cX1_holds 17 = .ok (.aload_n 1, 1) := by decide +kernel
theorem dX1_holds_18 : decode cX1_holds 18 = .ok (.invokevirtual 53, 3) := by decide +kernel
theorem dX1_holds_21 : decode cX1_holds 21 = .ok (.istore_n 3, 1) := by decide +kernel
theorem dX1_holds_22 : decode cX1_holds 22 = .ok (.aload_n 0, 1) := by decide +kernel
theorem dX1_holds_23 : decode cX1_holds 23 = .ok (.iload_n 2, 1) := by decide +kernel
theorem dX1_holds_24 : decode cX1_holds 24 = .ok (.aload_n 0, 1) := by decide +kernel
theorem dX1_holds_25 : decode cX1_holds 25 = .ok (.getfield 27, 3) := by decide +kernel
theorem dX1_holds_28 : decode cX1_holds 28 = .ok (.irem, 1) := by decide +kernel
theorem dX1_holds_29 : decode cX1_holds 29 = .ok (.aload_n 1, 1) := by decide +kernel
theorem dX1_holds_30 : decode cX1_holds 30 = .ok (.invokevirtual 53, 3) := by decide +kernel
theorem dX1_holds_33 : decode cX1_holds 33 = .ok (.istore 4, 2) := by decide +kernel
theorem dX1_holds_35 : decode cX1_holds 35 = .ok (.iload_n 3, 1) := by decide +kernel
theorem dX1_holds_36 : decode cX1_holds 36 = .ok (.aload_n 0, 1) := by decide +kernel
theorem dX1_holds_37 : decode cX1_holds 37 = .ok (.iload_n 2, 1) := by decide +kernel
theorem dX1_holds_38 : decode cX1_holds 38 = .ok (.aload_n 1, 1) := by decide +kernel
theorem dX1_holds_39 : decode cX1_holds 39 = .ok (.invokevirtual 57, 3) := by decide +kernel
theorem dX1_holds_42 : decode cX1_holds 42 = .ok (.iadd, 1) := by decide +kernel
theorem dX1_holds_43 : decode cX1_holds 43 = .ok (.iload 4, 2) := by decide +kernel
theorem dX1_holds_45 : decode cX1_holds 45 = .ok (.if_icmp .eq 5, 3) := by decide +kernel
theorem dX1_holds_48 : decode cX1_holds 48 = .ok (.iconst 0, 1) := by decide +kernel
theorem dX1_holds_49 : decode cX1_holds 49 = .ok (.ireturn, 1) := by decide +kernel
theorem dX1_holds_50 : decode cX1_holds 50 = .ok (.iinc 2 1, 3) := by decide +kernel
theorem dX1_holds_53 : decode cX1_holds 53 = .ok (.goto (-51), 3) := by decide +kernel
theorem dX1_holds_56 : decode cX1_holds 56 = .ok (.iconst 1, 1) := by decide +kernel
theorem dX1_holds_57 : decode cX1_holds 57 = .ok (.ireturn, 1) := by decide +kernel
set_option maxRecDepth 20000 in
theorem ggX1_level_X1_gain : GoodIn wsX1_level wsX1_gain := goodIn_r _ [12, 1, 13, 14, 15, 11, 16, 17, 18, 19, 20, 21, 22] (by decide +kernel) (by decide +kernel)
set_option maxRecDepth 20000 in
theorem gX1_level_X1_gain : GoodIn wsX1_level (wsV RX1 57 RX1 yX1_gain wsX1_gain) := goodIn_app (goodIn_of _ (by decide +kernel)) ggX1_level_X1_gain
theorem dX1_level_0 : decode cX1_level 0 = .ok (.iconst 0, 1) := by decide +kernel
theorem dX1_level_1 : decode cX1_level 1 = .ok (.istore_n 3, 1) := by decide +kernel
theorem dX1_level_2 : decode cX1_level 2 = .ok (.iconst 0, 1) := by decide +kernel
theorem dX1_level_3 : decode cX1_level 3 = .ok (.istore 4, 2) := by decide +kernel
theorem dX1_level_5 : decode cX1_level 5 = .ok (.aload_n 0, 1) := by decide +kernel
theorem dX1_level_6 : decode cX1_level 6 = .ok (.getfield 27, 3) := by decide +kernel
theorem dX1_level_9 : decode cX1_level 9 = .ok (.istore 5, 2) := by decide +kernel
theorem dX1_level_11 : decode cX1_level 11 = .ok (.iconst 1, 1) := by decide +kernel
theorem dX1_level_12 : decode cX1_level 12 = .ok (.istore 6, 2) := by decide +kernel
theorem dX1_level_14 : decode cX1_level 14 = .ok (.iload 6, 2) := by decide +kernel
theorem dX1_level_16 : decode cX1_level 16 = .ok (.aload_n 0, 1) := by decide +kernel
theorem dX1_level_17 : decode cX1_level 17 = .ok (.getfield 19, 3) := by decide +kernel
theorem dX1_level_20 : decode cX1_level 20 = .ok (.if_icmp .ge 60, 3) := by decide +kernel
theorem dX1_level_23 : decode cX1_level 23 = .ok (.iconst 1, 1) := by decide +kernel
theorem dX1_level_24 : decode cX1_level 24 = .ok (.iload 5, 2) := by decide +kernel
theorem dX1_level_26 : decode cX1_level 26 = .ok (.aload_n 0, 1) := by decide +kernel
theorem dX1_level_27 : decode cX1_level 27 = .ok (.getfield 13, 3) := by decide +kernel
theorem dX1_level_30 : decode cX1_level 30 = .ok (.idiv, 1) := by decide +kernel
theorem dX1_level_31 : decode cX1_level 31 = .ok (.invokestatic 7, 3) := by decide +kernel
theorem dX1_level_34 : decode cX1_level 34 = .ok (.istore 5, 2) := by decide +kernel
theorem dX1_level_36 : decode cX1_level 36 = .ok (.iload 4, 2) := by decide +kernel
theorem dX1_level_38 : decode cX1_level 38 = .ok (.aload_n 0, 1) := by decide +kernel
theorem dX1_level_39 : decode cX1_level 39 = .ok (.getfield 13, 3) := by decide +kernel
theorem dX1_level_42 : decode cX1_level 42 = .ok (.imul, 1) := by decide +kernel
theorem dX1_level_43 : decode cX1_level 43 = .ok (.iload_n 1, 1) := by decide +kernel
theorem dX1_level_44 : decode cX1_level 44 = .ok (.iload 5, 2) := by decide +kernel
theorem dX1_level_46 : decode cX1_level 46 = .ok (.idiv, 1) := by decide +kernel
theorem dX1_level_47 : decode cX1_level 47 = .ok (.aload_n 0, 1) := by decide +kernel
theorem dX1_level_48 : decode cX1_level 48 = .ok (.getfield 13, 3) := by decide +kernel
theorem dX1_level_51 : decode cX1_level 51 = .ok (.irem, 1) := by decide +kernel
theorem dX1_level_52 : decode cX1_level 52 = .ok (.iadd, 1) := by decide +kernel
theorem dX1_level_53 : decode cX1_level 53 = .ok (.istore 7, 2) := by decide +kernel
theorem dX1_level_55 : decode cX1_level 55 = .ok (.iload_n 3, 1) := by decide +kernel
theorem dX1_level_56 : decode cX1_level 56 = .ok (.aload_n 0, 1) := by decide +kernel
theorem dX1_level_57 : decode cX1_level 57 = .ok (.iload 7, 2) := by decide +kernel
theorem dX1_level_59 : decode cX1_level 59 = .ok (.aload_n 2, 1) := by decide +kernel
theorem dX1_level_60 : decode cX1_level 60 = .ok (.invokevirtual 57, 3) := by decide +kernel
theorem dX1_level_63 : decode cX1_level 63 = .ok (.iadd, 1) := by decide +kernel
theorem dX1_level_64 : decode cX1_level 64 = .ok (.istore_n 3, 1) := by decide +kernel
theorem dX1_level_65 : decode cX1_level 65 = .ok (.iload 7, 2) := by decide +kernel
theorem dX1_level_67 : decode cX1_level 67 = .ok (.aload_n 0, 1) := by decide +kernel
theorem dX1_level_68 : decode cX1_level 68 = .ok (.getfield 27, 3) := by decide +kernel
theorem dX1_level_71 : decode cX1_level 71 = .ok (.irem, 1) := by decide +kernel
theorem dX1_level_72 : decode cX1_level 72 = .ok (.istore 4, 2) := by decide +kernel
theorem dX1_level_74 : decode cX1_level 74 = .ok (.iinc 6 1, 3) := by decide +kernel
theorem dX1_level_77 : decode cX1_level 77 = .ok (.goto (-63), 3) := by decide +kernel
theorem dX1_level_80 : decode cX1_level 80 = .ok (.iload_n 3, 1) := by decide +kernel
theorem dX1_level_81 : decode cX1_level 81 = .ok (.ireturn, 1) := by decide +kernel
set_option maxRecDepth 20000 in
theorem ggX1_gain_X1_tells : GoodIn wsX1_gain wsX1_tells := goodIn_r _ [6, 7, 8, 9, 10, 11, 12] (by decide +kernel) (by decide +kernel)
set_option maxRecDepth 20000 in
theorem gX1_gain_X1_tells : GoodIn wsX1_gain (wsV RX1 43 RX1 yX1_tells wsX1_tells) := goodIn_app (goodIn_of _ (by decide +kernel)) ggX1_gain_X1_tells
theorem dX1_gain_0 : decode cX1_gain 0 = .ok (.aload_n 0, 1) := by decide +kernel
theorem dX1_gain_1 : decode cX1_gain 1 = .ok (.iload_n 1, 1) := by decide +kernel
theorem dX1_gain_2 : decode cX1_gain 2 = .ok (.invokevirtual 43, 3) := by decide +kernel
theorem dX1_gain_5 : decode cX1_gain 5 = .ok (.istore_n 3, 1) := by decide +kernel
theorem dX1_gain_6 : decode cX1_gain 6 = .ok (.iload_n 1, 1) := by decide +kernel
theorem dX1_gain_7 : decode cX1_gain 7 = .ok (.aload_n 0, 1) := by decide +kernel
theorem dX1_gain_8 : decode cX1_gain 8 = .ok (.getfield 27, 3) := by decide +kernel
theorem dX1_gain_11 : decode cX1_gain 11 = .ok (.idiv, 1) := by decide +kernel
theorem dX1_gain_12 : decode cX1_gain 12 = .ok (.istore 4, 2) := by decide +kernel
theorem dX1_gain_14 : decode cX1_gain 14 = .ok (.iload_n 3, 1) := by decide +kernel
theorem dX1_gain_15 : decode cX1_gain 15 = .ok (.ifCond .lt 21, 3) := by decide +kernel
theorem dX1_gain_18 : decode cX1_gain 18 = .ok (.iload_n 3, 1) := by decide +kernel
theorem dX1_gain_19 : decode cX1_gain 19 = .ok (.aload_n 2, 1) := by decide +kernel
theorem dX1_gain_20 : decode cX1_gain 20 = .ok (.arraylength, 1) := by decide +kernel
theorem dX1_gain_21 : decode cX1_gain 21 = .ok (.if_icmp .ge 15, 3) := by decide +kernel
theorem dX1_gain_24 : decode cX1_gain 24 = .ok (.iload 4, 2) := by decide +kernel
theorem dX1_gain_26 : decode cX1_gain 26 = .ok (.ifCond .lt 10, 3) := by decide +kernel
theorem dX1_gain_29 : decode cX1_gain 29 = .ok (.iload 4, 2) := by decide +kernel
theorem dX1_gain_31 : decode cX1_gain 31 = .ok (.aload_n 2, 1) := by decide +kernel
theorem dX1_gain_32 : decode cX1_gain 32 = .ok (.arraylength, 1) := by decide +kernel
theorem dX1_gain_33 : decode cX1_gain 33 = .ok (.if_icmp .lt 5, 3) := by decide +kernel
theorem dX1_gain_36 : decode cX1_gain 36 = .ok (.iconst 0, 1) := by decide +kernel
theorem dX1_gain_37 : decode cX1_gain 37 = .ok (.ireturn, 1) := by decide +kernel
theorem dX1_gain_38 : decode cX1_gain 38 = .ok (.aload_n 2, 1) := by decide +kernel
theorem dX1_gain_39 : decode cX1_gain 39 = .ok (.iload_n 3, 1) := by decide +kernel
theorem dX1_gain_40 : decode cX1_gain 40 = .ok (.iaload, 1) := by decide +kernel
theorem dX1_gain_41 : decode cX1_gain 41 = .ok (.aload_n 2, 1) := by decide +kernel
theorem dX1_gain_42 : decode cX1_gain 42 = .ok (.iload 4, 2) := by decide +kernel
theorem dX1_gain_44 : decode cX1_gain 44 = .ok (.iaload, 1) := by decide +kernel
theorem dX1_gain_45 : decode cX1_gain 45 = .ok (.isub, 1) := by decide +kernel
theorem dX1_gain_46 : decode cX1_gain 46 = .ok (.ireturn, 1) := by decide +kernel
theorem dX2_init_0 : decode cX2_init 0 = .ok (.aload_n 0, 1) := by decide +kernel
theorem dX2_init_1 : decode cX2_init 1 = .ok (.invokespecial 3, 3) := by decide +kernel
theorem dX2_init_4 : decode cX2_init 4 = .ok (.aload_n 0, 1) := by decide +kernel
theorem dX2_init_5 : decode cX2_init 5 = .ok (.sipush 512, 3) := by decide +kernel
theorem dX2_init_8 : decode cX2_init 8 = .ok (.newarray .int, 2) := by decide +kernel
theorem dX2_init_10 : decode cX2_init 10 = .ok (.putfield 9, 3) := by decide +kernel
theorem dX2_init_13 : decode cX2_init 13 = .ok (.aload_n 0, 1) := by decide +kernel
theorem dX2_init_14 : decode cX2_init 14 = .ok (.sipush 512, 3) := by decide +kernel
theorem dX2_init_17 : decode cX2_init 17 = .ok (.newarray .int, 2) := by decide +kernel
theorem dX2_init_19 : decode cX2_init 19 = .ok (.putfield 15, 3) := by decide +kernel
theorem dX2_init_22 : decode cX2_init 22 = .ok (.aload_n 0, 1) := by decide +kernel
theorem dX2_init_23 : decode cX2_init 23 = .ok (.sipush 512, 3) := by decide +kernel
theorem dX2_init_26 : decode cX2_init 26 = .ok (.newarray .int, 2) := by decide +kernel
theorem dX2_init_28 : decode cX2_init 28 = .ok (.putfield 18, 3) := by decide +kernel
theorem dX2_init_31 : decode cX2_init 31 = .ok (.aload_n 0, 1) := by decide +kernel
theorem dX2_init_32 : decode cX2_init 32 = .ok (.bipush 27, 2) := by decide +kernel
theorem dX2_init_34 : decode cX2_init 34 = .ok (.newarray .int, 2) := by decide +kernel
theorem dX2_init_36 : decode cX2_init 36 = .ok (.putfield 21, 3) := by decide +kernel
theorem dX2_init_39 : decode cX2_init 39 = .ok (.return_, 1) := by decide +kernel
set_option maxRecDepth 20000 in
theorem ggX2_missesSome_X2_learn : GoodIn wsX2_missesSome wsX2_learn := goodIn_r _ [9, 10, 11, 12, 13, 14, 15, 16, 17, 18, 19, 20, 30, 31, 32, 33, 34, 25, 26, 27, 28, 29] (by decide +kernel) (by decide +kernel)
set_option maxRecDepth 20000 in
theorem gX2_missesSome_X2_learn : GoodIn wsX2_missesSome (wsV RX2 24 RX2 yX2_learn wsX2_learn) := goodIn_app (goodIn_of _ (by decide +kernel)) ggX2_missesSome_X2_learn
set_option maxRecDepth 20000 in
theorem ggX2_missesSome_J7_fill_53178 : GoodIn wsX2_missesSome wsJ7_fill_53178 := goodIn_r _ [14] (by decide +kernel) (by decide +kernel)
set_option maxRecDepth 20000 in
theorem gX2_missesSome_J7_fill_53178 : GoodIn wsX2_missesSome (va_wsS RX2 37 yJ7_fill_53178 wsJ7_fill_53178) := goodIn_app (goodIn_of _ (by decide +kernel)) ggX2_missesSome_J7_fill_53178
set_option maxRecDepth 20000 in
theorem ggX2_missesSome_X2_follow : GoodIn wsX2_missesSome wsX2_follow := goodIn_r _ [24, 10, 25, 26, 27, 28, 29, 30, 31, 32, 33, 34] (by decide +kernel) (by decide +kernel)
set_option maxRecDepth 20000 in
theorem gX2_missesSome_X2_follow : GoodIn wsX2_missesSome (wsV RX2 46 RX2 yX2_follow wsX2_follow) := goodIn_app (goodIn_of _ (by decide +kernel)) ggX2_missesSome_X2_follow
theorem dX2_missesSome_0 : decode cX2_missesSome 0 = .ok (.aload_n 0, 1) := by decide +kernel
theorem dX2_missesSome_1 : decode cX2_missesSome 1 = .ok (.aload_n 1, 1) := by decide +kernel
theorem dX2_missesSome_2 : decode cX2_missesSome 2 = .ok (.invokevirtual 24, 3) := by decide +kernel
theorem dX2_missesSome_5 : decode cX2_missesSome 5 = .ok (.aload_n 0, 1) := by decide +kernel
theorem dX2_missesSome_6 : decode cX2_missesSome 6 = .ok (.iconst 1, 1) := by decide +kernel
theorem dX2_missesSome_7 : decode cX2_missesSome 7 = .ok (.aload_n 1, 1) := by decide +kernel
theorem dX2_missesSome_8 : decode cX2_missesSome 8 = .ok (.getfield 28, 3) := by decide +kernel
theorem dX2_missesSome_11 : decode cX2_missesSome 11 = .ok (.ishl, 1) := by decide +kernel
theorem dX2_missesSome_12 : decode cX2_missesSome 12 = .ok (.iconst 1, 1) := by decide +kernel
theorem dX2_missesSome_13 : decode cX2_missesSome 13 = .ok (.isub, 1) := by decide +kernel
theorem dX2_missesSome_14 : decode cX2_missesSome 14 = .ok (.sipush 511, 3) := by decide +kernel
theorem dX2_missesSome_17 : decode cX2_missesSome 17 = .ok (.iand, 1) := by decide +kernel
theorem dX2_missesSome_18 : decode cX2_missesSome 18 = .ok (.putfield 34, 3) := by decide +kernel
theorem dX2_missesSome_21 : decode cX2_missesSome 21 = .ok (.aload_n 0, 1) := by decide +kernel
theorem dX2_missesSome_22 : decode cX2_missesSome 22 = .ok (.getfield 15, 3) := by decide +kernel
theorem dX2_missesSome_25 : decode cX2_missesSome 25 = .ok (.iconst (-1), 1) := by decide +kernel
theorem dX2_missesSome_26 : decode cX2_missesSome 26 = .ok (.invokestatic 37, 3) := by decide +kernel
theorem dX2_missesSome_29 : decode cX2_missesSome 29 = .ok (.aload_n 0, 1) := by decide +kernel
theorem dX2_missesSome_30 : decode cX2_missesSome 30 = .ok (.getfield 9, 3) := by decide +kernel
theorem dX2_missesSome_33 : decode cX2_missesSome 33 = .ok (.iconst 0, 1) := by decide +kernel
theorem dX2_missesSome_34 : decode cX2_missesSome 34 = .ok (.aload_n 0, 1) := by decide +kernel
theorem dX2_missesSome_35 : decode cX2_missesSome 35 = .ok (.getfield 34, 3) := by decide +kernel
theorem dX2_missesSome_38 : decode cX2_missesSome 38 = .ok (.iastore, 1) := by decide +kernel
theorem dX2_missesSome_39 : decode cX2_missesSome 39 = .ok (.aload_n 0, 1) := by decide +kernel
theorem dX2_missesSome_40 : decode cX2_missesSome 40 = .ok (.getfield 15, 3) := by decide +kernel
theorem dX2_missesSome_43 : decode cX2_missesSome 43 = .ok (.aload_n 0, 1) := by decide +kernel
theorem dX2_missesSome_44 : decode cX2_missesSome 44 = .ok (.getfield 34, 3) := by decide +kernel
theorem dX2_missesSome_47 : decode cX2_missesSome 47 = .ok (.aload_n 0, 1) := by decide +kernel
theorem dX2_missesSome_48 : decode cX2_missesSome 48 = .ok (.getfield 34, 3) := by decide +kernel
theorem dX2_missesSome_51 : decode cX2_missesSome 51 = .ok (.iastore, 1) := by decide +kernel
theorem dX2_missesSome_52 : decode cX2_missesSome 52 = .ok (.iconst 1, 1) := by decide +kernel
theorem dX2_missesSome_53 : decode cX2_missesSome 53 = .ok (.istore_n 2, 1) := by decide +kernel
theorem dX2_missesSome_54 : decode cX2_missesSome 54 = .ok (.iconst 0, 1) := by decide +kernel
theorem dX2_missesSome_55 : decode cX2_missesSome 55 = .ok (.istore_n 3, 1) := by decide +kernel
theorem dX2_missesSome_56 : decode cX2_missesSome 56 = .ok (.iload_n 3, 1) := by decide +kernel
theorem dX2_missesSome_57 : decode cX2_missesSome 57 = .ok (.iload_n 2, 1) := by decide +kernel
theorem dX2_missesSome_58 : decode cX2_missesSome 58 = .ok (.if_icmp .ge 125, 3) := by decide +kernel
theorem dX2_missesSome_61 : decode cX2_missesSome 61 = .ok (.iload_n 3, 1) := by decide +kernel
theorem dX2_missesSome_62 : decode cX2_missesSome 62 = .ok (.sipush 512, 3) := by decide +kernel
theorem dX2_missesSome_65 : decode cX2_missesSome 65 = .ok (.if_icmp .ge 118, 3) := by decide +kernel
theorem dX2_missesSome_68 : decode cX2_missesSome 68 = .ok (.iconst 0, 1) := by decide +kernel
theorem dX2_missesSome_69 : decode cX2_missesSome 69 = .ok (.istore 4, 2) := by decide +kernel
theorem dX2_missesSome_71 : decode cX2_missesSome 71 = .ok (.iload 4, 2) := by decide +kernel
theorem dX2_missesSome_73 : decode cX2_missesSome 73 = .ok (.aload_n 1, 1) := by decide +kernel
theorem dX2_missesSome_74 : decode cX2_missesSome 74 = .ok (.getfield 43, 3) := by decide +kernel
theorem dX2_missesSome_77 : decode cX2_missesSome 77 = .ok (.if_icmp .ge 88, 3) := by decide +kernel
theorem dX2_missesSome_80 : decode cX2_missesSome 80 = .ok (.aload_n 0, 1) := by decide +kernel
theorem dX2_missesSome_81 : decode cX2_missesSome 81 = .ok (.aload_n 1, 1) := by decide +kernel
theorem dX2_missesSome_82 : decode cX2_missesSome 82 = .ok (.aload_n 0, 1) := by decide +kernel
theorem dX2_missesSome_83 : decode cX2_missesSome 83 = .ok (.getfield 9, 3) := by decide +kernel
theorem dX2_missesSome_86 : decode cX2_missesSome 86 = .ok (.iload_n 3, 1) := by decide +kernel
theorem dX2_missesSome_87 : decode cX2_missesSome 87 = .ok (.iaload, 1) := by decide +kernel
theorem dX2_missesSome_88 : decode cX2_missesSome 88 = .ok (.iload 4, 2) := by decide +kernel
theorem dX2_missesSome_90 : decode cX2_missesSome 90 = .ok (.invokevirtual 46, 3) := by decide +kernel
theorem dX2_missesSome_93 : decode cX2_missesSome 93 = .ok (.istore 5, 2) := by decide +kernel
theorem dX2_missesSome_95 : decode cX2_missesSome 95 = .ok (.iload 5, 2) := by decide +kernel
theorem dX2_missesSome_97 : decode cX2_missesSome 97 = .ok (.ifCond .lt 62, 3) := by decide +kernel
theorem dX2_missesSome_100 : decode cX2_missesSome 100 = .ok (.iload 5, 2) := by decide +kernel
theorem dX2_missesSome_102 : decode cX2_missesSome 102 = .ok (.sipush 512, 3) := by decide +kernel
theorem dX2_missesSome_105 : decode cX2_missesSome 105 = .ok (.if_icmp .ge 54, 3) := by decide +kernel
theorem dX2_missesSome_108 : decode cX2_missesSome 108 = .ok (.iload_n 2, 1) := by decide +kernel
theorem dX2_missesSome_109 : decode cX2_missesSome 109 = .ok (.sipush 512, 3) := by decide +kernel
theorem dX2_missesSome_112 : decode cX2_missesSome 112 = .ok (.if_icmp .ge 47, 3) := by decide +kernel
theorem dX2_missesSome_115 : decode cX2_missesSome 115 = .ok (.aload_n 0, 1) := by decide +kernel
theorem dX2_missesSome_116 : decode cX2_missesSome 116 = .ok (.getfield 15, 3) := by decide +kernel
theorem dX2_missesSome_119 : decode cX2_missesSome 119 = .ok (.iload 5, 2) := by decide +kernel
theorem dX2_missesSome_121 : decode cX2_missesSome 121 = .ok (.iaload, 1) := by decide +kernel
theorem dX2_missesSome_122 : decode cX2_missesSome 122 = .ok (.iconst (-1), 1) := by decide +kernel
theorem dX2_missesSome_123 : decode cX2_missesSome 123 = .ok (.if_icmp .ne 36, 3) := by decide +kernel
theorem dX2_missesSome_126 : decode cX2_missesSome 126 = .ok (.aload_n 0, 1) := by decide +kernel
theorem dX2_missesSome_127 : decode cX2_missesSome 127 = .ok (.getfield 15, 3) := by decide +kernel
theorem dX2_missesSome_130 : decode cX2_missesSome 130 = .ok (.iload 5, 2) := by decide +kernel
theorem dX2_missesSome_132 : decode cX2_missesSome 132 = .ok (.aload_n 0, 1) := by decide +kernel
theorem dX2_missesSome_133 : decode cX2_missesSome 133 = .ok (.getfield 9, 3) := by decide +kernel
theorem dX2_missesSome_136 : decode cX2_missesSome 136 = .ok (.iload_n 3, 1) := by decide +kernel
theorem dX2_missesSome_137 : decode cX2_missesSome 137 = .ok (.iaload, 1) := by decide +kernel
theorem dX2_missesSome_138 : decode cX2_missesSome 138 = .ok (.iastore, 1) := by decide +kernel
theorem dX2_missesSome_139 : decode cX2_missesSome 139 = .ok (.aload_n 0, 1) := by decide +kernel
theorem dX2_missesSome_140 : decode cX2_missesSome 140 = .ok (.getfield 18, 3) := by decide +kernel
theorem dX2_missesSome_143 : decode cX2_missesSome 143 = .ok (.iload 5, 2) := by decide +kernel
theorem dX2_missesSome_145 : decode cX2_missesSome 145 = .ok (.iload 4, 2) := by decide +kernel
theorem dX2_missesSome_147 : decode cX2_missesSome 147 = .ok (.iastore, 1) := by decide +kernel
theorem dX2_missesSome_148 : decode cX2_missesSome 148 = .ok (.aload_n 0, 1) := by decide +kernel
theorem dX2_missesSome_149 : decode cX2_missesSome 149 = .ok (.getfield 9, 3) := by decide +kernel
theorem dX2_missesSome_152 : decode cX2_missesSome 152 = .ok (.iload_n 2, 1) := by decide +kernel
theorem dX2_missesSome_153 : decode cX2_missesSome 153 = .ok (.iload 5, 2) := by decide +kernel
theorem dX2_missesSome_155 : decode cX2_missesSome 155 = .ok (.iastore, 1) := by decide +kernel
theorem dX2_missesSome_156 : decode cX2_missesSome 156 = .ok (.iinc 2 1, 3) := by decide +kernel
theorem dX2_missesSome_159 : decode cX2_missesSome 159 = .ok (.iinc 4 1, 3) := by decide +kernel
theorem dX2_missesSome_162 : decode cX2_missesSome 162 = .ok (.goto (-91), 3) := by decide +kernel
theorem dX2_missesSome_165 : decode cX2_missesSome 165 = .ok (.aload_n 0, 1) := by decide +kernel
theorem dX2_missesSome_166 : decode cX2_missesSome 166 = .ok (.getfield 15, 3) := by decide +kernel
theorem dX2_missesSome_169 : decode cX2_missesSome 169 = .ok (.iconst 0, 1) := by decide +kernel
theorem dX2_missesSome_170 : decode cX2_missesSome 170 = .ok (.iaload, 1) := by decide +kernel
theorem dX2_missesSome_171 : decode cX2_missesSome 171 = .ok (.iconst (-1), 1) := by decide +kernel
theorem dX2_missesSome_172 : decode cX2_missesSome 172 = .ok (.if_icmp .eq 5, 3) := by decide +kernel
theorem dX2_missesSome_175 : decode cX2_missesSome 175 = .ok (.iconst 1, 1) := by decide +kernel
theorem dX2_missesSome_176 : decode cX2_missesSome 176 = .ok (.ireturn, 1) := by decide +kernel
theorem dX2_missesSome_177 : decode cX2_missesSome 177 = .ok (.iinc 3 1, 3) := by decide +kernel
theorem dX2_missesSome_180 : decode cX2_missesSome 180 = .ok (.goto (-124), 3) := by decide +kernel
theorem dX2_missesSome_183 : decode cX2_missesSome 183 = .ok (.iconst 0, 1) := by decide +kernel
theorem dX2_missesSome_184 : decode cX2_missesSome 184 = .ok (.ireturn, 1) := by decide +kernel
set_option maxRecDepth 20000 in
theorem ggX2_writeMissed_X2_before : GoodIn wsX2_writeMissed wsX2_before := goodIn_r _ [11, 12, 1, 13, 14, 15, 16, 17] (by decide +kernel) (by decide +kernel)
set_option maxRecDepth 20000 in
theorem gX2_writeMissed_X2_before : GoodIn wsX2_writeMissed (wsV RX2 50 RX2 yX2_before wsX2_before) := goodIn_app (goodIn_of _ (by decide +kernel)) ggX2_writeMissed_X2_before
theorem dX2_writeMissed_0 : decode cX2_writeMissed 0 = .ok (.iconst 0, 1) := by decide +kernel
theorem dX2_writeMissed_1 : decode cX2_writeMissed 1 = .ok (.istore_n 2, 1) := by decide +kernel
theorem dX2_writeMissed_2 : decode cX2_writeMissed 2 = .ok (.iconst 0, 1) := by decide +kernel
theorem dX2_writeMissed_3 : decode cX2_writeMissed 3 = .ok (.istore_n 3, 1) := by decide +kernel
theorem dX2_writeMissed_4 : decode cX2_writeMissed 4 = .ok (.iload_n 3, 1) := by decide +kernel
theorem dX2_writeMissed_5 : decode cX2_writeMissed 5 = .ok (.aload_n 0, 1) := by decide +kernel
theorem dX2_writeMissed_6 : decode cX2_writeMissed 6 = .ok (.getfield 34, 3) := by decide +kernel
theorem dX2_writeMissed_9 : decode cX2_writeMissed 9 = .ok (.if_icmp .eq 22, 3) := by decide +kernel
theorem dX2_writeMissed_12 : decode cX2_writeMissed 12 = .ok (.iload_n 2, 1) := by decide +kernel
theorem dX2_writeMissed_13 : decode cX2_writeMissed 13 = .ok (.sipush 512, 3) := by decide +kernel
theorem dX2_writeMissed_16 : decode cX2_writeMissed 16 = .ok (.if_icmp .ge 15, 3) := by decide +kernel
theorem dX2_writeMissed_19 : decode cX2_writeMissed 19 = .ok (.iinc 2 1, 3) := by decide +kernel
theorem dX2_writeMissed_22 : decode cX2_writeMissed 22 = .ok (.aload_n 0, 1) := by decide +kernel
theorem dX2_writeMissed_23 : decode cX2_writeMissed 23 = .ok (.iload_n 3, 1) := by decide +kernel
theorem dX2_writeMissed_24 : decode cX2_writeMissed 24 = .ok (.invokevirtual 50, 3) := by decide +kernel
theorem dX2_writeMissed_27 : decode cX2_writeMissed 27 = .ok (.istore_n 3, 1) := by decide +kernel
theorem dX2_writeMissed_28 : decode cX2_writeMissed 28 = .ok (.goto (-24), 3) := by decide +kernel
theorem dX2_writeMissed_31 : decode cX2_writeMissed 31 = .ok (.iconst 0, 1) := by decide +kernel
theorem dX2_writeMissed_32 : decode cX2_writeMissed 32 = .ok (.istore_n 3, 1) := by decide +kernel
theorem dX2_writeMissed_33 : decode cX2_writeMissed 33 = .ok (.iload_n 2, 1) := by decide +kernel
theorem dX2_writeMissed_34 : decode cX2_writeMissed 34 = .ok (.aload_n 1, 1) := by decide +kernel
theorem dX2_writeMissed_35 : decode cX2_writeMissed 35 = .ok (.arraylength, 1) := by decide +kernel
theorem dX2_writeMissed_36 : decode cX2_writeMissed 36 = .ok (.invokestatic 54, 3) := by decide +kernel
theorem dX2_writeMissed_39 : decode cX2_writeMissed 39 = .ok (.iconst 1, 1) := by decide +kernel
theorem dX2_writeMissed_40 : decode cX2_writeMissed 40 = .ok (.isub, 1) := by decide +kernel
theorem dX2_writeMissed_41 : decode cX2_writeMissed 41 = .ok (.istore 4, 2) := by decide +kernel
theorem dX2_writeMissed_43 : decode cX2_writeMissed 43 = .ok (.iload 4, 2) := by decide +kernel
theorem dX2_writeMissed_45 : decode cX2_writeMissed 45 = .ok (.ifCond .lt 25, 3) := by decide +kernel
theorem dX2_writeMissed_48 : decode cX2_writeMissed 48 = .ok (.aload_n 1, 1) := by decide +kernel
theorem dX2_writeMissed_49 : decode cX2_writeMissed 49 = .ok (.iload 4, 2) := by decide +kernel
theorem dX2_writeMissed_51 : decode cX2_writeMissed 51 = .ok (.aload_n 0, 1) := by decide +kernel
theorem dX2_writeMissed_52 : decode cX2_writeMissed 52 = .ok (.getfield 18, 3) := by decide +kernel
theorem dX2_writeMissed_55 : decode cX2_writeMissed 55 = .ok (.iload_n 3, 1) := by decide +kernel
theorem dX2_writeMissed_56 : decode cX2_writeMissed 56 = .ok (.iaload, 1) := by decide +kernel
theorem dX2_writeMissed_57 : decode cX2_writeMissed 57 = .ok (.iastore, 1) := by decide +kernel
theorem dX2_writeMissed_58 : decode cX2_writeMissed 58 = .ok (.aload_n 0, 1) := by decide +kernel
theorem dX2_writeMissed_59 : decode cX2_writeMissed 59 = .ok (.iload_n 3, 1) := by decide +kernel
theorem dX2_writeMissed_60 : decode cX2_writeMissed 60 = .ok (.invokevirtual 50, 3) := by decide +kernel
theorem dX2_writeMissed_63 : decode cX2_writeMissed 63 = .ok (.istore_n 3, 1) := by decide +kernel
theorem dX2_writeMissed_64 : decode cX2_writeMissed 64 = .ok (.iinc 4 (-1), 3) := by decide +kernel
theorem dX2_writeMissed_67 : decode cX2_writeMissed 67 = .ok (.goto (-24), 3) := by decide +kernel
theorem dX2_writeMissed_70 : decode cX2_writeMissed 70 = .ok (.iload_n 2, 1) := by decide +kernel
theorem dX2_writeMissed_71 : decode cX2_writeMissed 71 = .ok (.ireturn, 1) := by decide +kernel
theorem dX2_before_0 : decode cX2_before 0 = .ok (.aload_n 0, 1) := by decide +kernel
theorem dX2_before_1 : decode cX2_before 1 = .ok (.getfield 15, 3) := by decide +kernel
theorem dX2_before_4 : decode cX2_before 4 = .ok (.iload_n 1, 1) := by decide +kernel
theorem dX2_before_5 : decode cX2_before 5 = .ok (.iaload, 1) := by decide +kernel
theorem dX2_before_6 : decode cX2_before 6 = .ok (.ifCond .lt 24, 3) := by decide +kernel
theorem dX2_before_9 : decode cX2_before 9 = .ok (.aload_n 0, 1) := by decide +kernel
theorem dX2_before_10 : decode cX2_before 10 = .ok (.getfield 15, 3) := by decide +kernel
theorem dX2_before_13 : decode cX2_before 13 = .ok (.iload_n 1, 1) := by decide +kernel
theorem dX2_before_14 : decode cX2_before 14 = .ok (.iaload, 1) := by decide +kernel
theorem dX2_before_15 : decode cX2_before 15 = .ok (.sipush 512, 3) := by decide +kernel
theorem dX2_before_18 : decode cX2_before 18 = .ok (.if_icmp .ge 12, 3) := by decide +kernel
theorem dX2_before_21 : decode cX2_before 21 = .ok (.aload_n 0, 1) := by decide +kernel
theorem dX2_before_22 : decode cX2_before 22 = .ok (.getfield 15, 3) := by decide +kernel
theorem dX2_before_25 : decode cX2_before 25 = .ok (.iload_n 1, 1) := by decide +kernel
theorem dX2_before_26 : decode cX2_before 26 = .ok (.iaload, 1) := by decide +kernel
theorem dX2_before_27 : decode cX2_before 27 = .ok (.goto 7, 3) := by decide +kernel
theorem dX2_before_30 : decode cX2_before 30 = .ok (.aload_n 0, 1) := by decide +kernel
theorem dX2_before_31 : decode cX2_before 31 = .ok (.getfield 34, 3) := by decide +kernel
theorem dX2_before_34 : decode cX2_before 34 = .ok (.ireturn, 1) := by decide +kernel
set_option maxRecDepth 20000 in
theorem ggX2_learn_J7_fill_53178 : GoodIn wsX2_learn wsJ7_fill_53178 := goodIn_r _ [5] (by decide +kernel) (by decide +kernel)
set_option maxRecDepth 20000 in
theorem gX2_learn_J7_fill_53178 : GoodIn wsX2_learn (va_wsS RX2 37 yJ7_fill_53178 wsJ7_fill_53178) := goodIn_app (goodIn_of _ (by decide +kernel)) ggX2_learn_J7_fill_53178
set_option maxRecDepth 20000 in
theorem ggX2_learn_X1_tells : GoodIn wsX2_learn wsX1_tells := goodIn_r _ [10, 11, 17, 18, 19, 20, 21] (by decide +kernel) (by decide +kernel)
set_option maxRecDepth 20000 in
theorem gX2_learn_X1_tells : GoodIn wsX2_learn (wsV RX2 63 RX1 yX1_tells wsX1_tells) := goodIn_app (goodIn_of _ (by decide +kernel)) ggX2_learn_X1_tells
theorem dX2_learn_0 : decode cX2_learn 0 = .ok (.aload_n 0, 1) := by decide +kernel
theorem dX2_learn_1 : decode cX2_learn 1 = .ok (.getfield 21, 3) := by decide +kernel
theorem dX2_learn_4 : decode cX2_learn 4 = .ok (.iconst 0, 1) := by decide +kernel
theorem dX2_learn_5 : decode cX2_learn 5 = .ok (.invokestatic 37, 3) := by decide +kernel
theorem dX2_learn_8 : decode cX2_learn 8 = .ok (.iconst 0, 1) := by decide +kernel
theorem dX2_learn_9 : decode cX2_learn 9 = .ok (.istore_n 2, 1) := by decide +kernel
theorem dX2_learn_10 : decode cX2_learn 10 = .ok (.iload_n 2, 1) := by decide +kernel
theorem dX2_learn_11 : decode cX2_learn 11 = .ok (.aload_n 1, 1) := by decide +kernel
theorem dX2_learn_12 : decode cX2_learn 12 = .ok (.getfield 60, 3) := by decide +kernel
theorem dX2_learn_15 : decode cX2_learn 15 = .ok (.if_icmp .ge 57, 3) := by decide +kernel
theorem dX2_learn_18 : decode cX2_learn 18 = .ok (.iload_n 2, 1) := by decide +kernel
theorem dX2_learn_19 : decode cX2_learn 19 = .ok (.aload_n 1, 1) := by decide +kernel
theorem dX2_learn_20 : decode cX2_learn 20 = .ok (.getfield 43, 3) := by decide +kernel
theorem dX2_learn_23 : decode cX2_learn 23 = .ok (.idiv, 1) := by decide +kernel
theorem dX2_learn_24 : decode cX2_learn 24 = .ok (.aload_n 1, 1) := by decide +kernel
theorem dX2_learn_25 : decode cX2_learn 25 = .ok (.getfield 43, 3) := by decide +kernel
theorem dX2_learn_28 : decode cX2_learn 28 = .ok (.imul, 1) := by decide +kernel
theorem dX2_learn_29 : decode cX2_learn 29 = .ok (.aload_n 1, 1) := by decide +kernel
theorem dX2_learn_30 : decode cX2_learn 30 = .ok (.iload_n 2, 1) := by decide +kernel
theorem dX2_learn_31 : decode cX2_learn 31 = .ok (.invokevirtual 63, 3) := by decide +kernel
theorem dX2_learn_34 : decode cX2_learn 34 = .ok (.iadd, 1) := by decide +kernel
theorem dX2_learn_35 : decode cX2_learn 35 = .ok (.istore_n 3, 1) := by decide +kernel
theorem dX2_learn_36 : decode cX2_learn 36 = .ok (.iload_n 3, 1) := by decide +kernel
theorem dX2_learn_37 : decode cX2_learn 37 = .ok (.ifCond .lt 29, 3) := by decide +kernel
theorem dX2_learn_40 : decode cX2_learn 40 = .ok (.iload_n 3, 1) := by decide +kernel
theorem dX2_learn_41 : decode cX2_learn 41 = .ok (.aload_n 0, 1) := by decide +kernel
theorem dX2_learn_42 : decode cX2_learn 42 = .ok (.getfield 21, 3) := by decide +kernel
theorem dX2_learn_45 : decode cX2_learn 45 = .ok (.arraylength, 1) := by decide +kernel
theorem dX2_learn_46 : decode cX2_learn 46 = .ok (.if_icmp .ge 20, 3) := by decide +kernel
theorem dX2_learn_49 : decode cX2_learn 49 = .ok (.aload_n 0, 1) := by decide +kernel
theorem dX2_learn_50 : decode cX2_learn 50 = .ok (.getfield 21, 3) := by decide +kernel
theorem dX2_learn_53 : decode cX2_learn 53 = .ok (.iload_n 3, 1) := by decide +kernel
theorem dX2_learn_54 : decode cX2_learn 54 = .ok (.dup2, 1) := by decide +kernel
theorem dX2_learn_55 : decode cX2_learn 55 = .ok (.iaload, 1) := by decide +kernel
theorem dX2_learn_56 : decode cX2_learn 56 = .ok (.iconst 1, 1) := by decide +kernel
theorem dX2_learn_57 : decode cX2_learn 57 = .ok (.iload_n 2, 1) := by decide +kernel
theorem dX2_learn_58 : decode cX2_learn 58 = .ok (.aload_n 1, 1) := by decide +kernel
theorem dX2_learn_59 : decode cX2_learn 59 = .ok (.getfield 28, 3) := by decide +kernel
theorem dX2_learn_62 : decode cX2_learn 62 = .ok (.irem, 1) := by decide +kernel
theorem dX2_learn_63 : decode cX2_learn 63 = .ok (.ishl, 1) := by decide +kernel
theorem dX2_learn_64 : decode cX2_learn 64 = .ok (.ior, 1) := by decide +kernel
theorem dX2_learn_65 : decode cX2_learn 65 = .ok (.iastore, 1) := by decide +kernel
theorem dX2_learn_66 : decode cX2_learn 66 = .ok (.iinc 2 1, 3) := by decide +kernel
theorem dX2_learn_69 : decode cX2_learn 69 = .ok (.goto (-59), 3) := by decide +kernel
theorem dX2_learn_72 : decode cX2_learn 72 = .ok (.return_, 1) := by decide +kernel
theorem dX2_follow_0 : decode cX2_follow 0 = .ok (.iconst 0, 1) := by decide +kernel
theorem dX2_follow_1 : decode cX2_follow 1 = .ok (.istore 4, 2) := by decide +kernel
theorem dX2_follow_3 : decode cX2_follow 3 = .ok (.iconst 0, 1) := by decide +kernel
theorem dX2_follow_4 : decode cX2_follow 4 = .ok (.istore 5, 2) := by decide +kernel
theorem dX2_follow_6 : decode cX2_follow 6 = .ok (.iload 5, 2) := by decide +kernel
theorem dX2_follow_8 : decode cX2_follow 8 = .ok (.aload_n 1, 1) := by decide +kernel
theorem dX2_follow_9 : decode cX2_follow 9 = .ok (.getfield 28, 3) := by decide +kernel
theorem dX2_follow_12 : decode cX2_follow 12 = .ok (.if_icmp .ge 52, 3) := by decide +kernel
theorem dX2_follow_15 : decode cX2_follow 15 = .ok (.iload 5, 2) := by decide +kernel
theorem dX2_follow_17 : decode cX2_follow 17 = .ok (.aload_n 1, 1) := by decide +kernel
theorem dX2_follow_18 : decode cX2_follow 18 = .ok (.getfield 43, 3) := by decide +kernel
theorem dX2_follow_21 : decode cX2_follow 21 = .ok (.imul, 1) := by decide +kernel
theorem dX2_follow_22 : decode cX2_follow 22 = .ok (.iload_n 3, 1) := by decide +kernel
theorem dX2_follow_23 : decode cX2_follow 23 = .ok (.iadd, 1) := by decide +kernel
theorem dX2_follow_24 : decode cX2_follow 24 = .ok (.istore 6, 2) := by decide +kernel
theorem dX2_follow_26 : decode cX2_follow 26 = .ok (.iload_n 2, 1) := by decide +kernel
theorem dX2_follow_27 : decode cX2_follow 27 = .ok (.iload 5, 2) := by decide +kernel
theorem dX2_follow_29 : decode cX2_follow 29 = .ok (.ishr, 1) := by decide +kernel
theorem dX2_follow_30 : decode cX2_follow 30 = .ok (.iconst 1, 1) := by decide +kernel
theorem dX2_follow_31 : decode cX2_follow 31 = .ok (.iand, 1) := by decide +kernel
theorem dX2_follow_32 : decode cX2_follow 32 = .ok (.iconst 1, 1) := by decide +kernel
theorem dX2_follow_33 : decode cX2_follow 33 = .ok (.if_icmp .ne 25, 3) := by decide +kernel
theorem dX2_follow_36 : decode cX2_follow 36 = .ok (.iload 6, 2) := by decide +kernel
theorem dX2_follow_38 : decode cX2_follow 38 = .ok (.aload_n 0, 1) := by decide +kernel
theorem dX2_follow_39 : decode cX2_follow 39 = .ok (.getfield 21, 3) := by decide +kernel
theorem dX2_follow_42 : decode cX2_follow 42 = .ok (.arraylength, 1) := by decide +kernel
theorem dX2_follow_43 : decode cX2_follow 43 = .ok (.if_icmp .ge 15, 3) := by decide +kernel
theorem dX2_follow_46 : decode cX2_follow 46 = .ok (.iload 4, 2) := by decide +kernel
theorem dX2_follow_48 : decode cX2_follow 48 = .ok (.aload_n 0, 1) := by decide +kernel
theorem dX2_follow_49 : decode cX2_follow 49 = .ok (.getfield 21, 3) := by decide +kernel
theorem dX2_follow_52 : decode cX2_follow 52 = .ok (.iload 6, 2) := by decide +kernel
theorem dX2_follow_54 : decode cX2_follow 54 = .ok (.iaload, 1) := by decide +kernel
theorem dX2_follow_55 : decode cX2_follow 55 = .ok (.ior, 1) := by decide +kernel
theorem dX2_follow_56 : decode cX2_follow 56 = .ok (.istore 4, 2) := by decide +kernel
theorem dX2_follow_58 : decode cX2_follow 58 = .ok (.iinc 5 1, 3) := by decide +kernel
theorem dX2_follow_61 : decode cX2_follow 61 = .ok (.goto (-55), 3) := by decide +kernel
theorem dX2_follow_64 : decode cX2_follow 64 = .ok (.iload 4, 2) := by decide +kernel
theorem dX2_follow_66 : decode cX2_follow 66 = .ok (.ireturn, 1) := by decide +kernel
theorem dX3_init_0 : decode cX3_init 0 = .ok (.aload_n 0, 1) := by decide +kernel
theorem dX3_init_1 : decode cX3_init 1 = .ok (.invokespecial 3, 3) := by decide +kernel
theorem dX3_init_4 : decode cX3_init 4 = .ok (.aload_n 0, 1) := by decide +kernel
theorem dX3_init_5 : decode cX3_init 5 = .ok (.sipush 4096, 3) := by decide +kernel
theorem dX3_init_8 : decode cX3_init 8 = .ok (.newarray .int, 2) := by decide +kernel
theorem dX3_init_10 : decode cX3_init 10 = .ok (.putfield 9, 3) := by decide +kernel
theorem dX3_init_13 : decode cX3_init 13 = .ok (.aload_n 0, 1) := by decide +kernel
theorem dX3_init_14 : decode cX3_init 14 = .ok (.sipush 4096, 3) := by decide +kernel
theorem dX3_init_17 : decode cX3_init 17 = .ok (.newarray .int, 2) := by decide +kernel
theorem dX3_init_19 : decode cX3_init 19 = .ok (.putfield 15, 3) := by decide +kernel
theorem dX3_init_22 : decode cX3_init 22 = .ok (.aload_n 0, 1) := by decide +kernel
theorem dX3_init_23 : decode cX3_init 23 = .ok (.sipush 4096, 3) := by decide +kernel
theorem dX3_init_26 : decode cX3_init 26 = .ok (.newarray .int, 2) := by decide +kernel
theorem dX3_init_28 : decode cX3_init 28 = .ok (.putfield 18, 3) := by decide +kernel
theorem dX3_init_31 : decode cX3_init 31 = .ok (.aload_n 0, 1) := by decide +kernel
theorem dX3_init_32 : decode cX3_init 32 = .ok (.sipush 4096, 3) := by decide +kernel
theorem dX3_init_35 : decode cX3_init 35 = .ok (.newarray .int, 2) := by decide +kernel
theorem dX3_init_37 : decode cX3_init 37 = .ok (.putfield 21, 3) := by decide +kernel
theorem dX3_init_40 : decode cX3_init 40 = .ok (.aload_n 0, 1) := by decide +kernel
theorem dX3_init_41 : decode cX3_init 41 = .ok (.bipush 20, 2) := by decide +kernel
theorem dX3_init_43 : decode cX3_init 43 = .ok (.newarray .int, 2) := by decide +kernel
theorem dX3_init_45 : decode cX3_init 45 = .ok (.putfield 24, 3) := by decide +kernel
theorem dX3_init_48 : decode cX3_init 48 = .ok (.aload_n 0, 1) := by decide +kernel
theorem dX3_init_49 : decode cX3_init 49 = .ok (.bipush 20, 2) := by decide +kernel
theorem dX3_init_51 : decode cX3_init 51 = .ok (.newarray .int, 2) := by decide +kernel
theorem dX3_init_53 : decode cX3_init 53 = .ok (.putfield 27, 3) := by decide +kernel
theorem dX3_init_56 : decode cX3_init 56 = .ok (.return_, 1) := by decide +kernel
theorem dX3_tell_0 : decode cX3_tell 0 = .ok (.iload_n 1, 1) := by decide +kernel
theorem dX3_tell_1 : decode cX3_tell 1 = .ok (.tableswitch 60 0 4 #[35, 40, 45, 50, 55], 35) := by decide +kernel
theorem dX3_tell_36 : decode cX3_tell 36 = .ok (.aload_n 0, 1) := by decide +kernel
theorem dX3_tell_37 : decode cX3_tell 37 = .ok (.getfield 30, 3) := by decide +kernel
theorem dX3_tell_40 : decode cX3_tell 40 = .ok (.ireturn, 1) := by decide +kernel
theorem dX3_tell_41 : decode cX3_tell 41 = .ok (.aload_n 0, 1) := by decide +kernel
theorem dX3_tell_42 : decode cX3_tell 42 = .ok (.getfield 34, 3) := by decide +kernel
theorem dX3_tell_45 : decode cX3_tell 45 = .ok (.ireturn, 1) := by decide +kernel
theorem dX3_tell_46 : decode cX3_tell 46 = .ok (.aload_n 0, 1) := by decide +kernel
theorem dX3_tell_47 : decode cX3_tell 47 = .ok (.getfield 37, 3) := by decide +kernel
theorem dX3_tell_50 : decode cX3_tell 50 = .ok (.ireturn, 1) := by decide +kernel
theorem dX3_tell_51 : decode cX3_tell 51 = .ok (.aload_n 0, 1) := by decide +kernel
theorem dX3_tell_52 : decode cX3_tell 52 = .ok (.getfield 40, 3) := by decide +kernel
theorem dX3_tell_55 : decode cX3_tell 55 = .ok (.ireturn, 1) := by decide +kernel
theorem dX3_tell_56 : decode cX3_tell 56 = .ok (.aload_n 0, 1) := by decide +kernel
theorem dX3_tell_57 : decode cX3_tell 57 = .ok (.getfield 43, 3) := by decide +kernel
theorem dX3_tell_60 : decode cX3_tell 60 = .ok (.ireturn, 1) := by decide +kernel
theorem dX3_tell_61 : decode cX3_tell 61 = .ok (.iconst (-1), 1) := by decide +kernel
theorem dX3_tell_62 : decode cX3_tell 62 = .ok (.ireturn, 1) := by decide +kernel
set_option maxRecDepth 20000 in
theorem ggX3_look_X3_lead : GoodIn wsX3_look wsX3_lead := goodIn_r _ [8, 9, 1, 2, 10, 11, 12, 13, 14, 15, 16, 17, 18, 19, 20, 21, 22, 23, 24, 25, 26, 27, 28, 29, 30, 31, 32, 33, 34, 35, 36, 37, 59, 60, 61, 62, 63, 64, 65, 66, 67, 68, 69, 70, 71, 72, 73, 74, 75, 76] (by decide +kernel) (by decide +kernel)
set_option maxRecDepth 20000 in
theorem gX3_look_X3_lead : GoodIn wsX3_look (wsV RX3 53 RX3 yX3_lead wsX3_lead) := goodIn_app (goodIn_of _ (by decide +kernel)) ggX3_look_X3_lead
set_option maxRecDepth 20000 in
theorem ggX3_look_X3_peel : GoodIn wsX3_look wsX3_peel := goodIn_r _ [41, 9, 42, 43, 12, 59, 60, 61, 62, 63, 64, 65, 66, 67, 68, 69, 70, 71] (by decide +kernel) (by decide +kernel)
set_option maxRecDepth 20000 in
theorem gX3_look_X3_peel : GoodIn wsX3_look (wsV RX3 57 RX3 yX3_peel wsX3_peel) := goodIn_app (goodIn_of _ (by decide +kernel)) ggX3_look_X3_peel
set_option maxRecDepth 20000 in
theorem ggX3_look_X3_goRound : GoodIn wsX3_look wsX3_goRound := goodIn_r _ [47, 48, 49, 9, 50, 12, 51, 52, 24, 53, 59, 60, 61, 62, 63, 64, 65, 66, 67, 68, 69, 70, 71] (by decide +kernel) (by decide +kernel)
set_option maxRecDepth 20000 in
theorem gX3_look_X3_goRound : GoodIn wsX3_look (wsV RX3 61 RX3 yX3_goRound wsX3_goRound) := goodIn_app (goodIn_of _ (by decide +kernel)) ggX3_look_X3_goRound
set_option maxRecDepth 20000 in
theorem ggX3_look_X3_climb : GoodIn wsX3_look wsX3_climb := goodIn_r _ [57, 58, 42, 50, 12, 51, 52, 24, 53, 59, 60, 61, 62, 63, 64, 65, 66, 67, 68, 69, 70, 71] (by decide +kernel) (by decide +kernel)
set_option maxRecDepth 20000 in
theorem gX3_look_X3_climb : GoodIn wsX3_look (wsV RX3 64 RX3 yX3_climb wsX3_climb) := goodIn_app (goodIn_of _ (by decide +kernel)) ggX3_look_X3_climb
theorem dX3_look_0 : decode cX3_look 0 = .ok (.aload_n 1, 1) := by decide +kernel
theorem dX3_look_1 : decode cX3_look 1 = .ok (.aload_n 0, 1) := by decide +kernel
theorem dX3_look_2 : decode cX3_look 2 = .ok (.getfield 46, 3) := by decide +kernel
theorem dX3_look_5 : decode cX3_look 5 = .ok (.if_acmp .ne 11, 3) := by decide +kernel
theorem dX3_look_8 : decode cX3_look 8 = .ok (.iload_n 2, 1) := by decide +kernel
theorem dX3_look_9 : decode cX3_look 9 = .ok (.aload_n 0, 1) := by decide +kernel
theorem dX3_look_10 : decode cX3_look 10 = .ok (.getfield 50, 3) := by decide +kernel
theorem dX3_look_13 : decode cX3_look 13 = .ok (.if_icmp .eq 10, 3) := by decide +kernel
theorem dX3_look_16 : decode cX3_look 16 = .ok (.iload_n 3, 1) := by decide +kernel
theorem dX3_look_17 : decode cX3_look 17 = .ok (.sipush 4096, 3) := by decide +kernel
theorem dX3_look_20 : decode cX3_look 20 = .ok (.if_icmp .le 4, 3) := by decide +kernel
theorem dX3_look_23 : decode cX3_look 23 = .ok (.return_, 1) := by decide +kernel
theorem dX3_look_24 : decode cX3_look 24 = .ok (.aload_n 0, 1) := by decide +kernel
theorem dX3_look_25 : decode cX3_look 25 = .ok (.aload_n 1, 1) := by decide +kernel
theorem dX3_look_26 : decode cX3_look 26 = .ok (.putfield 46, 3) := by decide +kernel
theorem dX3_look_29 : decode cX3_look 29 = .ok (.aload_n 0, 1) := by decide +kernel
theorem dX3_look_30 : decode cX3_look 30 = .ok (.iload_n 2, 1) := by decide +kernel
theorem dX3_look_31 : decode cX3_look 31 = .ok (.putfield 50, 3) := by decide +kernel
theorem dX3_look_34 : decode cX3_look 34 = .ok (.aload_n 0, 1) := by decide +kernel
theorem dX3_look_35 : decode cX3_look 35 = .ok (.iload_n 3, 1) := by decide +kernel
theorem dX3_look_36 : decode cX3_look 36 = .ok (.invokevirtual 53, 3) := by decide +kernel
theorem dX3_look_39 : decode cX3_look 39 = .ok (.aload_n 0, 1) := by decide +kernel
theorem dX3_look_40 : decode cX3_look 40 = .ok (.iload_n 3, 1) := by decide +kernel
theorem dX3_look_41 : decode cX3_look 41 = .ok (.invokevirtual 57, 3) := by decide +kernel
theorem dX3_look_44 : decode cX3_look 44 = .ok (.istore 4, 2) := by decide +kernel
theorem dX3_look_46 : decode cX3_look 46 = .ok (.aload_n 0, 1) := by decide +kernel
theorem dX3_look_47 : decode cX3_look 47 = .ok (.iload_n 3, 1) := by decide +kernel
theorem dX3_look_48 : decode cX3_look 48 = .ok (.iload 4, 2) := by decide +kernel
theorem dX3_look_50 : decode cX3_look 50 = .ok (.isub, 1) := by decide +kernel
theorem dX3_look_51 : decode cX3_look 51 = .ok (.putfield 34, 3) := by decide +kernel
theorem dX3_look_54 : decode cX3_look 54 = .ok (.aload_n 0, 1) := by decide +kernel
theorem dX3_look_55 : decode cX3_look 55 = .ok (.iload_n 3, 1) := by decide +kernel
theorem dX3_look_56 : decode cX3_look 56 = .ok (.invokevirtual 61, 3) := by decide +kernel
theorem dX3_look_59 : decode cX3_look 59 = .ok (.aload_n 0, 1) := by decide +kernel
theorem dX3_look_60 : decode cX3_look 60 = .ok (.iload 4, 2) := by decide +kernel
theorem dX3_look_62 : decode cX3_look 62 = .ok (.invokevirtual 64, 3) := by decide +kernel
theorem dX3_look_65 : decode cX3_look 65 = .ok (.return_, 1) := by decide +kernel
set_option maxRecDepth 20000 in
theorem ggX3_lead_J7_fill_53178 : GoodIn wsX3_lead wsJ7_fill_53178 := goodIn_r _ [10] (by decide +kernel) (by decide +kernel)
set_option maxRecDepth 20000 in
theorem gX3_lead_J7_fill_53178 : GoodIn wsX3_lead (va_wsS RX3 67 yJ7_fill_53178 wsJ7_fill_53178) := goodIn_app (goodIn_of _ (by decide +kernel)) ggX3_lead_J7_fill_53178
set_option maxRecDepth 20000 in
theorem ggX3_lead_X1_spread : GoodIn wsX3_lead wsX1_spread := goodIn_r _ [15, 16, 17, 18, 19, 20, 45, 46, 47, 48, 49] (by decide +kernel) (by decide +kernel)
set_option maxRecDepth 20000 in
theorem gX3_lead_X1_spread : GoodIn wsX3_lead (wsV RX3 73 RX1 yX1_spread wsX1_spread) := goodIn_app (goodIn_of _ (by decide +kernel)) ggX3_lead_X1_spread
set_option maxRecDepth 20000 in
theorem ggX3_lead_X1_grow : GoodIn wsX3_lead wsX1_grow := goodIn_r _ [24, 25, 20, 26, 27, 28, 29, 14, 30, 31, 45, 46, 47, 48, 49] (by decide +kernel) (by decide +kernel)
set_option maxRecDepth 20000 in
theorem gX3_lead_X1_grow : GoodIn wsX3_lead (wsV RX3 79 RX1 yX1_grow wsX1_grow) := goodIn_app (goodIn_of _ (by decide +kernel)) ggX3_lead_X1_grow
theorem dX3_lead_0 : decode cX3_lead 0 = .ok (.aload_n 0, 1) := by decide +kernel
theorem dX3_lead_1 : decode cX3_lead 1 = .ok (.getfield 15, 3) := by decide +kernel
theorem dX3_lead_4 : decode cX3_lead 4 = .ok (.iconst 0, 1) := by decide +kernel
theorem dX3_lead_5 : decode cX3_lead 5 = .ok (.invokestatic 67, 3) := by decide +kernel
theorem dX3_lead_8 : decode cX3_lead 8 = .ok (.iconst 0, 1) := by decide +kernel
theorem dX3_lead_9 : decode cX3_lead 9 = .ok (.istore_n 2, 1) := by decide +kernel
theorem dX3_lead_10 : decode cX3_lead 10 = .ok (.iload_n 2, 1) := by decide +kernel
theorem dX3_lead_11 : decode cX3_lead 11 = .ok (.iload_n 1, 1) := by decide +kernel
theorem dX3_lead_12 : decode cX3_lead 12 = .ok (.if_icmp .ge 85, 3) := by decide +kernel
theorem dX3_lead_15 : decode cX3_lead 15 = .ok (.aload_n 0, 1) := by decide +kernel
theorem dX3_lead_16 : decode cX3_lead 16 = .ok (.getfield 46, 3) := by decide +kernel
theorem dX3_lead_19 : decode cX3_lead 19 = .ok (.iload_n 2, 1) := by decide +kernel
theorem dX3_lead_20 : decode cX3_lead 20 = .ok (.aload_n 0, 1) := by decide +kernel
theorem dX3_lead_21 : decode cX3_lead 21 = .ok (.getfield 50, 3) := by decide +kernel
theorem dX3_lead_24 : decode cX3_lead 24 = .ok (.aload_n 0, 1) := by decide +kernel
theorem dX3_lead_25 : decode cX3_lead 25 = .ok (.getfield 24, 3) := by decide +kernel
theorem dX3_lead_28 : decode cX3_lead 28 = .ok (.invokevirtual 73, 3) := by decide +kernel
theorem dX3_lead_31 : decode cX3_lead 31 = .ok (.aload_n 0, 1) := by decide +kernel
theorem dX3_lead_32 : decode cX3_lead 32 = .ok (.getfield 46, 3) := by decide +kernel
theorem dX3_lead_35 : decode cX3_lead 35 = .ok (.aload_n 0, 1) := by decide +kernel
theorem dX3_lead_36 : decode cX3_lead 36 = .ok (.getfield 24, 3) := by decide +kernel
theorem dX3_lead_39 : decode cX3_lead 39 = .ok (.aload_n 0, 1) := by decide +kernel
theorem dX3_lead_40 : decode cX3_lead 40 = .ok (.getfield 50, 3) := by decide +kernel
theorem dX3_lead_43 : decode cX3_lead 43 = .ok (.aload_n 0, 1) := by decide +kernel
theorem dX3_lead_44 : decode cX3_lead 44 = .ok (.getfield 50, 3) := by decide +kernel
theorem dX3_lead_47 : decode cX3_lead 47 = .ok (.aload_n 0, 1) := by decide +kernel
theorem dX3_lead_48 : decode cX3_lead 48 = .ok (.getfield 27, 3) := by decide +kernel
theorem dX3_lead_51 : decode cX3_lead 51 = .ok (.invokevirtual 79, 3) := by decide +kernel
theorem dX3_lead_54 : decode cX3_lead 54 = .ok (.l2i, 1) := by decide +kernel
theorem dX3_lead_55 : decode cX3_lead 55 = .ok (.istore_n 3, 1) := by decide +kernel
theorem dX3_lead_56 : decode cX3_lead 56 = .ok (.aload_n 0, 1) := by decide +kernel
theorem dX3_lead_57 : decode cX3_lead 57 = .ok (.getfield 9, 3) := by decide +kernel
theorem dX3_lead_60 : decode cX3_lead 60 = .ok (.iload_n 2, 1) := by decide +kernel
theorem dX3_lead_61 : decode cX3_lead 61 = .ok (.iload_n 3, 1) := by decide +kernel
theorem dX3_lead_62 : decode cX3_lead 62 = .ok (.ifCond .lt 12, 3) := by decide +kernel
theorem dX3_lead_65 : decode cX3_lead 65 = .ok (.iload_n 3, 1) := by decide +kernel
theorem dX3_lead_66 : decode cX3_lead 66 = .ok (.iload_n 1, 1) := by decide +kernel
theorem dX3_lead_67 : decode cX3_lead 67 = .ok (.if_icmp .ge 7, 3) := by decide +kernel
theorem dX3_lead_70 : decode cX3_lead 70 = .ok (.iload_n 3, 1) := by decide +kernel
theorem dX3_lead_71 : decode cX3_lead 71 = .ok (.goto 4, 3) := by decide +kernel
theorem dX3_lead_74 : decode cX3_lead 74 = .ok (.iconst 0, 1) := by decide +kernel
theorem dX3_lead_75 : decode cX3_lead 75 = .ok (.iastore, 1) := by decide +kernel
theorem dX3_lead_76 : decode cX3_lead 76 = .ok (.aload_n 0, 1) := by decide +kernel
theorem dX3_lead_77 : decode cX3_lead 77 = .ok (.getfield 15, 3) := by decide +kernel
theorem dX3_lead_80 : decode cX3_lead 80 = .ok (.aload_n 0, 1) := by decide +kernel
theorem dX3_lead_81 : decode cX3_lead 81 = .ok (.getfield 9, 3) := by decide +kernel
theorem dX3_lead_84 : decode cX3_lead 84 = .ok (.iload_n 2, 1) := by decide +kernel
theorem dX3_lead_85 : decode cX3_lead 85 = .ok (.iaload, 1) := by decide +kernel
theorem dX3_lead_86 : decode cX3_lead 86 = .ok (.dup2, 1) := by decide +kernel
theorem dX3_lead_87 : decode cX3_lead 87 = .ok (.iaload, 1) := by decide +kernel
theorem dX3_lead_88 : decode cX3_lead 88 = .ok (.iconst 1, 1) := by decide +kernel
theorem dX3_lead_89 : decode cX3_lead 89 = .ok (.iadd, 1) := by decide +kernel
theorem dX3_lead_90 : decode cX3_lead 90 = .ok (.iastore, 1) := by decide +kernel
theorem dX3_lead_91 : decode cX3_lead 91 = .ok (.iinc 2 1, 3) := by decide +kernel
theorem dX3_lead_94 : decode cX3_lead 94 = .ok (.goto (-84), 3) := by decide +kernel
theorem dX3_lead_97 : decode cX3_lead 97 = .ok (.return_, 1) := by decide +kernel
theorem dX3_peel_0 : decode cX3_peel 0 = .ok (.iconst 0, 1) := by decide +kernel
theorem dX3_peel_1 : decode cX3_peel 1 = .ok (.istore_n 2, 1) := by decide +kernel
theorem dX3_peel_2 : decode cX3_peel 2 = .ok (.iconst 0, 1) := by decide +kernel
theorem dX3_peel_3 : decode cX3_peel 3 = .ok (.istore_n 3, 1) := by decide +kernel
theorem dX3_peel_4 : decode cX3_peel 4 = .ok (.iload_n 3, 1) := by decide +kernel
theorem dX3_peel_5 : decode cX3_peel 5 = .ok (.iload_n 1, 1) := by decide +kernel
theorem dX3_peel_6 : decode cX3_peel 6 = .ok (.if_icmp .ge 28, 3) := by decide +kernel
theorem dX3_peel_9 : decode cX3_peel 9 = .ok (.aload_n 0, 1) := by decide +kernel
theorem dX3_peel_10 : decode cX3_peel 10 = .ok (.getfield 15, 3) := by decide +kernel
theorem dX3_peel_13 : decode cX3_peel 13 = .ok (.iload_n 3, 1) := by decide +kernel
theorem dX3_peel_14 : decode cX3_peel 14 = .ok (.iaload, 1) := by decide +kernel
theorem dX3_peel_15 : decode cX3_peel 15 = .ok (.ifCond .ne 13, 3) := by decide +kernel
theorem dX3_peel_18 : decode cX3_peel 18 = .ok (.aload_n 0, 1) := by decide +kernel
theorem dX3_peel_19 : decode cX3_peel 19 = .ok (.getfield 18, 3) := by decide +kernel
theorem dX3_peel_22 : decode cX3_peel 22 = .ok (.iload_n 2, 1) := by decide +kernel
theorem dX3_peel_23 : decode cX3_peel 23 = .ok (.iload_n 3, 1) := by decide +kernel
theorem dX3_peel_24 : decode cX3_peel 24 = .ok (.iastore, 1) := by decide +kernel
theorem dX3_peel_25 : decode cX3_peel 25 = .ok (.iinc 2 1, 3) := by decide +kernel
theorem dX3_peel_28 : decode cX3_peel 28 = .ok (.iinc 3 1, 3) := by decide +kernel
theorem dX3_peel_31 : decode cX3_peel 31 = .ok (.goto (-27), 3) := by decide +kernel
theorem dX3_peel_34 : decode cX3_peel 34 = .ok (.aload_n 0, 1) := by decide +kernel
theorem dX3_peel_35 : decode cX3_peel 35 = .ok (.iload_n 2, 1) := by decide +kernel
theorem dX3_peel_36 : decode cX3_peel 36 = .ok (.putfield 30, 3) := by decide +kernel
theorem dX3_peel_39 : decode cX3_peel 39 = .ok (.iconst 0, 1) := by decide +kernel
theorem dX3_peel_40 : decode cX3_peel 40 = .ok (.istore_n 3, 1) := by decide +kernel
theorem dX3_peel_41 : decode cX3_peel 41 = .ok (.iload_n 3, 1) := by decide +kernel
theorem dX3_peel_42 : decode cX3_peel 42 = .ok (.iload_n 2, 1) := by decide +kernel
theorem dX3_peel_43 : decode cX3_peel 43 = .ok (.if_icmp .ge 64, 3) := by decide +kernel
theorem dX3_peel_46 : decode cX3_peel 46 = .ok (.iload_n 3, 1) := by decide +kernel
theorem dX3_peel_47 : decode cX3_peel 47 = .ok (.iload_n 1, 1) := by decide +kernel
theorem dX3_peel_48 : decode cX3_peel 48 = .ok (.if_icmp .ge 59, 3) := by decide +kernel
theorem dX3_peel_51 : decode cX3_peel 51 = .ok (.aload_n 0, 1) := by decide +kernel
theorem dX3_peel_52 : decode cX3_peel 52 = .ok (.getfield 9, 3) := by decide +kernel
theorem dX3_peel_55 : decode cX3_peel 55 = .ok (.aload_n 0, 1) := by decide +kernel
theorem dX3_peel_56 : decode cX3_peel 56 = .ok (.getfield 18, 3) := by decide +kernel
theorem dX3_peel_59 : decode cX3_peel 59 = .ok (.iload_n 3, 1) := by decide +kernel
theorem dX3_peel_60 : decode cX3_peel 60 = .ok (.iaload, 1) := by decide +kernel
theorem dX3_peel_61 : decode cX3_peel 61 = .ok (.iaload, 1) := by decide +kernel
theorem dX3_peel_62 : decode cX3_peel 62 = .ok (.istore 4, 2) := by decide +kernel
theorem dX3_peel_64 : decode cX3_peel 64 = .ok (.aload_n 0, 1) := by decide +kernel
theorem dX3_peel_65 : decode cX3_peel 65 = .ok (.getfield 15, 3) := by decide +kernel
theorem dX3_peel_68 : decode cX3_peel 68 = .ok (.iload 4, 2) := by decide +kernel
theorem dX3_peel_70 : decode cX3_peel 70 = .ok (.dup2, 1) := by decide +kernel
theorem dX3_peel_71 : decode cX3_peel 71 = .ok (.iaload, 1) := by decide +kernel
theorem dX3_peel_72 : decode cX3_peel 72 = .ok (.iconst 1, 1) := by decide +kernel
theorem dX3_peel_73 : decode cX3_peel 73 = .ok (.isub, 1) := by decide +kernel
theorem dX3_peel_74 : decode cX3_peel 74 = .ok (.iastore, 1) := by decide +kernel
theorem dX3_peel_75 : decode cX3_peel 75 = .ok (.aload_n 0, 1) := by decide +kernel
theorem dX3_peel_76 : decode cX3_peel 76 = .ok (.getfield 15, 3) := by decide +kernel
theorem dX3_peel_79 : decode cX3_peel 79 = .ok (.iload 4, 2) := by decide +kernel
theorem dX3_peel_81 : decode cX3_peel 81 = .ok (.iaload, 1) := by decide +kernel
theorem dX3_peel_82 : decode cX3_peel 82 = .ok (.ifCond .ne 19, 3) := by decide +kernel
theorem dX3_peel_85 : decode cX3_peel 85 = .ok (.iload_n 2, 1) := by decide +kernel
theorem dX3_peel_86 : decode cX3_peel 86 = .ok (.iload_n 1, 1) := by decide +kernel
theorem dX3_peel_87 : decode cX3_peel 87 = .ok (.if_icmp .ge 14, 3) := by decide +kernel
theorem dX3_peel_90 : decode cX3_peel 90 = .ok (.aload_n 0, 1) := by decide +kernel
theorem dX3_peel_91 : decode cX3_peel 91 = .ok (.getfield 18, 3) := by decide +kernel
theorem dX3_peel_94 : decode cX3_peel 94 = .ok (.iload_n 2, 1) := by decide +kernel
theorem dX3_peel_95 : decode cX3_peel 95 = .ok (.iload 4, 2) := by decide +kernel
theorem dX3_peel_97 : decode cX3_peel 97 = .ok (.iastore, 1) := by decide +kernel
theorem dX3_peel_98 : decode cX3_peel 98 = .ok (.iinc 2 1, 3) := by decide +kernel
theorem dX3_peel_101 : decode cX3_peel 101 = .ok (.iinc 3 1, 3) := by decide +kernel
theorem dX3_peel_104 : decode cX3_peel 104 = .ok (.goto (-63), 3) := by decide +kernel
theorem dX3_peel_107 : decode cX3_peel 107 = .ok (.iload_n 2, 1) := by decide +kernel
theorem dX3_peel_108 : decode cX3_peel 108 = .ok (.ireturn, 1) := by decide +kernel
theorem dX3_goRound_0 : decode cX3_goRound 0 = .ok (.aload_n 0, 1) := by decide +kernel
theorem dX3_goRound_1 : decode cX3_goRound 1 = .ok (.iconst 0, 1) := by decide +kernel
theorem dX3_goRound_2 : decode cX3_goRound 2 = .ok (.putfield 37, 3) := by decide +kernel
theorem dX3_goRound_5 : decode cX3_goRound 5 = .ok (.aload_n 0, 1) := by decide +kernel
theorem dX3_goRound_6 : decode cX3_goRound 6 = .ok (.iconst 0, 1) := by decide +kernel
theorem dX3_goRound_7 : decode cX3_goRound 7 = .ok (.putfield 43, 3) := by decide +kernel
theorem dX3_goRound_10 : decode cX3_goRound 10 = .ok (.iconst 0, 1) := by decide +kernel
theorem dX3_goRound_11 : decode cX3_goRound 11 = .ok (.istore_n 2, 1) := by decide +kernel
theorem dX3_goRound_12 : decode cX3_goRound 12 = .ok (.iload_n 2, 1) := by decide +kernel
theorem dX3_goRound_13 : decode cX3_goRound 13 = .ok (.iload_n 1, 1) := by decide +kernel
theorem dX3_goRound_14 : decode cX3_goRound 14 = .ok (.if_icmp .ge 93, 3) := by decide +kernel
theorem dX3_goRound_17 : decode cX3_goRound 17 = .ok (.iconst 0, 1) := by decide +kernel
theorem dX3_goRound_18 : decode cX3_goRound 18 = .ok (.istore_n 3, 1) := by decide +kernel
theorem dX3_goRound_19 : decode cX3_goRound 19 = .ok (.iload_n 2, 1) := by decide +kernel
theorem dX3_goRound_20 : decode cX3_goRound 20 = .ok (.istore 4, 2) := by decide +kernel
theorem dX3_goRound_22 : decode cX3_goRound 22 = .ok (.iconst 0, 1) := by decide +kernel
theorem dX3_goRound_23 : decode cX3_goRound 23 = .ok (.istore 5, 2) := by decide +kernel
theorem dX3_goRound_25 : decode cX3_goRound 25 = .ok (.iload 5, 2) := by decide +kernel
theorem dX3_goRound_27 : decode cX3_goRound 27 = .ok (.iload_n 1, 1) := by decide +kernel
theorem dX3_goRound_28 : decode cX3_goRound 28 = .ok (.if_icmp .ge 47, 3) := by decide +kernel
theorem dX3_goRound_31 : decode cX3_goRound 31 = .ok (.aload_n 0, 1) := by decide +kernel
theorem dX3_goRound_32 : decode cX3_goRound 32 = .ok (.getfield 15, 3) := by decide +kernel
theorem dX3_goRound_35 : decode cX3_goRound 35 = .ok (.iload 4, 2) := by decide +kernel
theorem dX3_goRound_37 : decode cX3_goRound 37 = .ok (.iaload, 1) := by decide +kernel
theorem dX3_goRound_38 : decode cX3_goRound 38 = .ok (.ifCond .le 37, 3) := by decide +kernel
theorem dX3_goRound_41 : decode cX3_goRound 41 = .ok (.aload_n 0, 1) := by decide +kernel
theorem dX3_goRound_42 : decode cX3_goRound 42 = .ok (.getfield 15, 3) := by decide +kernel
theorem dX3_goRound_45 : decode cX3_goRound 45 = .ok (.iload 4, 2) := by decide +kernel
theorem dX3_goRound_47 : decode cX3_goRound 47 = .ok (.iconst 0, 1) := by decide +kernel
theorem dX3_goRound_48 : decode cX3_goRound 48 = .ok (.iastore, 1) := by decide +kernel
theorem dX3_goRound_49 : decode cX3_goRound 49 = .ok (.aload_n 0, 1) := by decide +kernel
theorem dX3_goRound_50 : decode cX3_goRound 50 = .ok (.getfield 21, 3) := by decide +kernel
theorem dX3_goRound_53 : decode cX3_goRound 53 = .ok (.iload 4, 2) := by decide +kernel
theorem dX3_goRound_55 : decode cX3_goRound 55 = .ok (.iconst 0, 1) := by decide +kernel
theorem dX3_goRound_56 : decode cX3_goRound 56 = .ok (.iastore, 1) := by decide +kernel
theorem dX3_goRound_57 : decode cX3_goRound 57 = .ok (.aload_n 0, 1) := by decide +kernel
theorem dX3_goRound_58 : decode cX3_goRound 58 = .ok (.getfield 9, 3) := by decide +kernel
theorem dX3_goRound_61 : decode cX3_goRound 61 = .ok (.iload 4, 2) := by decide +kernel
theorem dX3_goRound_63 : decode cX3_goRound 63 = .ok (.iaload, 1) := by decide +kernel
theorem dX3_goRound_64 : decode cX3_goRound 64 = .ok (.istore 4, 2) := by decide +kernel
theorem dX3_goRound_66 : decode cX3_goRound 66 = .ok (.iinc 3 1, 3) := by decide +kernel
theorem dX3_goRound_69 : decode cX3_goRound 69 = .ok (.iinc 5 1, 3) := by decide +kernel
theorem dX3_goRound_72 : decode cX3_goRound 72 = .ok (.goto (-47), 3) := by decide +kernel
theorem dX3_goRound_75 : decode cX3_goRound 75 = .ok (.iload_n 3, 1) := by decide +kernel
theorem dX3_goRound_76 : decode cX3_goRound 76 = .ok (.ifCond .le 25, 3) := by decide +kernel
theorem dX3_goRound_79 : decode cX3_goRound 79 = .ok (.aload_n 0, 1) := by decide +kernel
theorem dX3_goRound_80 : decode cX3_goRound 80 = .ok (.dup, 1) := by decide +kernel
theorem dX3_goRound_81 : decode cX3_goRound 81 = .ok (.getfield 37, 3) := by decide +kernel
theorem dX3_goRound_84 : decode cX3_goRound 84 = .ok (.iconst 1, 1) := by decide +kernel
theorem dX3_goRound_85 : decode cX3_goRound 85 = .ok (.iadd, 1) := by decide +kernel
theorem dX3_goRound_86 : decode cX3_goRound 86 = .ok (.putfield 37, 3) := by decide +kernel
theorem dX3_goRound_89 : decode cX3_goRound 89 = .ok (.aload_n 0, 1) := by decide +kernel
theorem dX3_goRound_90 : decode cX3_goRound 90 = .ok (.aload_n 0, 1) := by decide +kernel
theorem dX3_goRound_91 : decode cX3_goRound 91 = .ok (.getfield 43, 3) := by decide +kernel
theorem dX3_goRound_94 : decode cX3_goRound 94 = .ok (.iload_n 3, 1) := by decide +kernel
theorem dX3_goRound_95 : decode cX3_goRound 95 = .ok (.invokestatic 83, 3) := by decide +kernel
theorem dX3_goRound_98 : decode cX3_goRound 98 = .ok (.putfield 43, 3) := by decide +kernel
theorem dX3_goRound_101 : decode cX3_goRound 101 = .ok (.iinc 2 1, 3) := by decide +kernel
theorem dX3_goRound_104 : decode cX3_goRound 104 = .ok (.goto (-92), 3) := by decide +kernel
theorem dX3_goRound_107 : decode cX3_goRound 107 = .ok (.return_, 1) := by decide +kernel
theorem dX3_climb_0 : decode cX3_climb 0 = .ok (.aload_n 0, 1) := by decide +kernel
theorem dX3_climb_1 : decode cX3_climb 1 = .ok (.iconst 0, 1) := by decide +kernel
theorem dX3_climb_2 : decode cX3_climb 2 = .ok (.putfield 40, 3) := by decide +kernel
theorem dX3_climb_5 : decode cX3_climb 5 = .ok (.iload_n 1, 1) := by decide +kernel
theorem dX3_climb_6 : decode cX3_climb 6 = .ok (.iconst 1, 1) := by decide +kernel
theorem dX3_climb_7 : decode cX3_climb 7 = .ok (.isub, 1) := by decide +kernel
theorem dX3_climb_8 : decode cX3_climb 8 = .ok (.istore_n 2, 1) := by decide +kernel
theorem dX3_climb_9 : decode cX3_climb 9 = .ok (.iload_n 2, 1) := by decide +kernel
theorem dX3_climb_10 : decode cX3_climb 10 = .ok (.ifCond .lt 52, 3) := by decide +kernel
theorem dX3_climb_13 : decode cX3_climb 13 = .ok (.aload_n 0, 1) := by decide +kernel
theorem dX3_climb_14 : decode cX3_climb 14 = .ok (.getfield 18, 3) := by decide +kernel
theorem dX3_climb_17 : decode cX3_climb 17 = .ok (.iload_n 2, 1) := by decide +kernel
theorem dX3_climb_18 : decode cX3_climb 18 = .ok (.iaload, 1) := by decide +kernel
theorem dX3_climb_19 : decode cX3_climb 19 = .ok (.istore_n 3, 1) := by decide +kernel
theorem dX3_climb_20 : decode cX3_climb 20 = .ok (.aload_n 0, 1) := by decide +kernel
theorem dX3_climb_21 : decode cX3_climb 21 = .ok (.getfield 21, 3) := by decide +kernel
theorem dX3_climb_24 : decode cX3_climb 24 = .ok (.iload_n 3, 1) := by decide +kernel
theorem dX3_climb_25 : decode cX3_climb 25 = .ok (.aload_n 0, 1) := by decide +kernel
theorem dX3_climb_26 : decode cX3_climb 26 = .ok (.getfield 21, 3) := by decide +kernel
theorem dX3_climb_29 : decode cX3_climb 29 = .ok (.aload_n 0, 1) := by decide +kernel
theorem dX3_climb_30 : decode cX3_climb 30 = .ok (.getfield 9, 3) := by decide +kernel
theorem dX3_climb_33 : decode cX3_climb 33 = .ok (.iload_n 3, 1) := by decide +kernel
theorem dX3_climb_34 : decode cX3_climb 34 = .ok (.iaload, 1) := by decide +kernel
theorem dX3_climb_35 : decode cX3_climb 35 = .ok (.iaload, 1) := by decide +kernel
theorem dX3_climb_36 : decode cX3_climb 36 = .ok (.iconst 1, 1) := by decide +kernel
theorem dX3_climb_37 : decode cX3_climb 37 = .ok (.iadd, 1) := by decide +kernel
theorem dX3_climb_38 : decode cX3_climb 38 = .ok (.iastore, 1) := by decide +kernel
theorem dX3_climb_39 : decode cX3_climb 39 = .ok (.aload_n 0, 1) := by decide +kernel
theorem dX3_climb_40 : decode cX3_climb 40 = .ok (.aload_n 0, 1) := by decide +kernel
theorem dX3_climb_41 : decode cX3_climb 41 = .ok (.getfield 40, 3) := by decide +kernel
theorem dX3_climb_44 : decode cX3_climb 44 = .ok (.aload_n 0, 1) := by decide +kernel
theorem dX3_climb_45 : decode cX3_climb 45 = .ok (.getfield 21, 3) := by decide +kernel
theorem dX3_climb_48 : decode cX3_climb 48 = .ok (.iload_n 3, 1) := by decide +kernel
theorem dX3_climb_49 : decode cX3_climb 49 = .ok (.iaload, 1) := by decide +kernel
theorem dX3_climb_50 : decode cX3_climb 50 = .ok (.invokestatic 83, 3) := by decide +kernel
theorem dX3_climb_53 : decode cX3_climb 53 = .ok (.putfield 40, 3) := by decide +kernel
theorem dX3_climb_56 : decode cX3_climb 56 = .ok (.iinc 2 (-1), 3) := by decide +kernel
theorem dX3_climb_59 : decode cX3_climb 59 = .ok (.goto (-50), 3) := by decide +kernel
theorem dX3_climb_62 : decode cX3_climb 62 = .ok (.return_, 1) := by decide +kernel
theorem dX4_init_0 : decode cX4_init 0 = .ok (.aload_n 0, 1) := by decide +kernel
theorem dX4_init_1 : decode cX4_init 1 = .ok (.invokespecial 3, 3) := by decide +kernel
theorem dX4_init_4 : decode cX4_init 4 = .ok (.aload_n 0, 1) := by decide +kernel
theorem dX4_init_5 : decode cX4_init 5 = .ok (.sipush 20001, 3) := by decide +kernel
theorem dX4_init_8 : decode cX4_init 8 = .ok (.newarray .long, 2) := by decide +kernel
theorem dX4_init_10 : decode cX4_init 10 = .ok (.putfield 9, 3) := by decide +kernel
theorem dX4_init_13 : decode cX4_init 13 = .ok (.aload_n 0, 1) := by decide +kernel
theorem dX4_init_14 : decode cX4_init 14 = .ok (.bipush 20, 2) := by decide +kernel
theorem dX4_init_16 : decode cX4_init 16 = .ok (.newarray .int, 2) := by decide +kernel
theorem dX4_init_18 : decode cX4_init 18 = .ok (.putfield 15, 3) := by decide +kernel
theorem dX4_init_21 : decode cX4_init 21 = .ok (.aload_n 0, 1) := by decide +kernel
theorem dX4_init_22 : decode cX4_init 22 = .ok (.bipush 20, 2) := by decide +kernel
theorem dX4_init_24 : decode cX4_init 24 = .ok (.newarray .int, 2) := by decide +kernel
theorem dX4_init_26 : decode cX4_init 26 = .ok (.putfield 19, 3) := by decide +kernel
theorem dX4_init_29 : decode cX4_init 29 = .ok (.return_, 1) := by decide +kernel
set_option maxRecDepth 20000 in
theorem ggX4_climb_X4_begin : GoodIn wsX4_climb wsX4_begin := goodIn_r _ [10, 1, 3, 32, 33, 34, 35, 36, 37, 38, 39, 40] (by decide +kernel) (by decide +kernel)
set_option maxRecDepth 20000 in
theorem gX4_climb_X4_begin : GoodIn wsX4_climb (wsV RX4 22 RX4 yX4_begin wsX4_begin) := goodIn_app (goodIn_of _ (by decide +kernel)) ggX4_climb_X4_begin
set_option maxRecDepth 20000 in
theorem ggX4_climb_X1_grow : GoodIn wsX4_climb wsX1_grow := goodIn_r _ [15, 16, 17, 18, 19, 20, 21, 14, 22, 23, 36, 37, 38, 39, 40] (by decide +kernel) (by decide +kernel)
set_option maxRecDepth 20000 in
theorem gX4_climb_X1_grow : GoodIn wsX4_climb (wsV RX4 29 RX1 yX1_grow wsX1_grow) := goodIn_app (goodIn_of _ (by decide +kernel)) ggX4_climb_X1_grow
set_option maxRecDepth 20000 in
theorem ggX4_climb_X4_lengthAt : GoodIn wsX4_climb wsX4_lengthAt := goodIn_r _ [27, 3, 32, 33, 34, 35] (by decide +kernel) (by decide +kernel)
set_option maxRecDepth 20000 in
theorem gX4_climb_X4_lengthAt : GoodIn wsX4_climb (wsV RX4 35 RX4 yX4_lengthAt wsX4_lengthAt) := goodIn_app (goodIn_of _ (by decide +kernel)) ggX4_climb_X4_lengthAt
set_option maxRecDepth 20000 in
theorem ggX4_climb_X4_heightBefore : GoodIn wsX4_climb wsX4_heightBefore := goodIn_r _ [31, 3, 32, 33, 34, 35] (by decide +kernel) (by decide +kernel)
set_option maxRecDepth 20000 in
theorem gX4_climb_X4_heightBefore : GoodIn wsX4_climb (wsV RX4 43 RX4 yX4_heightBefore wsX4_heightBefore) := goodIn_app (goodIn_of _ (by decide +kernel)) ggX4_climb_X4_heightBefore
theorem dX4_climb_0 : decode cX4_climb 0 = .ok (.iload_n 3, 1) := by decide +kernel
theorem dX4_climb_1 : decode cX4_climb 1 = .ok (.iconst 1, 1) := by decide +kernel
theorem dX4_climb_2 : decode cX4_climb 2 = .ok (.if_icmp .lt 18, 3) := by decide +kernel
theorem dX4_climb_5 : decode cX4_climb 5 = .ok (.iload_n 3, 1) := by decide +kernel
theorem dX4_climb_6 : decode cX4_climb 6 = .ok (.aload_n 2, 1) := by decide +kernel
theorem dX4_climb_7 : decode cX4_climb 7 = .ok (.arraylength, 1) := by decide +kernel
theorem dX4_climb_8 : decode cX4_climb 8 = .ok (.if_icmp .gt 12, 3) := by decide +kernel
theorem dX4_climb_11 : decode cX4_climb 11 = .ok (.iload_n 3, 1) := by decide +kernel
theorem dX4_climb_12 : decode cX4_climb 12 = .ok (.aload_n 0, 1) := by decide +kernel
theorem dX4_climb_13 : decode cX4_climb 13 = .ok (.getfield 15, 3) := by decide +kernel
theorem dX4_climb_16 : decode cX4_climb 16 = .ok (.arraylength, 1) := by decide +kernel
theorem dX4_climb_17 : decode cX4_climb 17 = .ok (.if_icmp .le 5, 3) := by decide +kernel
theorem dX4_climb_20 : decode cX4_climb 20 = .ok (.iconst (-1), 1) := by decide +kernel
theorem dX4_climb_21 : decode cX4_climb 21 = .ok (.ireturn, 1) := by decide +kernel
theorem dX4_climb_22 : decode cX4_climb 22 = .ok (.aload_n 0, 1) := by decide +kernel
theorem dX4_climb_23 : decode cX4_climb 23 = .ok (.aload_n 1, 1) := by decide +kernel
theorem dX4_climb_24 : decode cX4_climb 24 = .ok (.aload_n 2, 1) := by decide +kernel
theorem dX4_climb_25 : decode cX4_climb 25 = .ok (.iload_n 3, 1) := by decide +kernel
theorem dX4_climb_26 : decode cX4_climb 26 = .ok (.invokevirtual 22, 3) := by decide +kernel
theorem dX4_climb_29 : decode cX4_climb 29 = .ok (.iconst 0, 1) := by decide +kernel
theorem dX4_climb_30 : decode cX4_climb 30 = .ok (.istore 4, 2) := by decide +kernel
theorem dX4_climb_32 : decode cX4_climb 32 = .ok (.getstatic 26, 3) := by decide +kernel
theorem dX4_climb_35 : decode cX4_climb 35 = .ok (.astore 5, 2) := by decide +kernel
theorem dX4_climb_37 : decode cX4_climb 37 = .ok (.aload 5, 2) := by decide +kernel
theorem dX4_climb_39 : decode cX4_climb 39 = .ok (.arraylength, 1) := by decide +kernel
theorem dX4_climb_40 : decode cX4_climb 40 = .ok (.istore 6, 2) := by decide +kernel
theorem dX4_climb_42 : decode cX4_climb 42 = .ok (.iconst 0, 1) := by decide +kernel
theorem dX4_climb_43 : decode cX4_climb 43 = .ok (.istore 7, 2) := by decide +kernel
theorem dX4_climb_45 : decode cX4_climb 45 = .ok (.iload 7, 2) := by decide +kernel
theorem dX4_climb_47 : decode cX4_climb 47 = .ok (.iload 6, 2) := by decide +kernel
theorem dX4_climb_49 : decode cX4_climb 49 = .ok (.if_icmp .ge 118, 3) := by decide +kernel
theorem dX4_climb_52 : decode cX4_climb 52 = .ok (.aload 5, 2) := by decide +kernel
theorem dX4_climb_54 : decode cX4_climb 54 = .ok (.iload 7, 2) := by decide +kernel
theorem dX4_climb_56 : decode cX4_climb 56 = .ok (.iaload, 1) := by decide +kernel
theorem dX4_climb_57 : decode cX4_climb 57 = .ok (.istore 8, 2) := by decide +kernel
theorem dX4_climb_59 : decode cX4_climb 59 = .ok (.iload 4, 2) := by decide +kernel
theorem dX4_climb_61 : decode cX4_climb 61 = .ok (.iconst 1, 1) := by decide +kernel
theorem dX4_climb_62 : decode cX4_climb 62 = .ok (.iadd, 1) := by decide +kernel
theorem dX4_climb_63 : decode cX4_climb 63 = .ok (.istore 9, 2) := by decide +kernel
theorem dX4_climb_65 : decode cX4_climb 65 = .ok (.iload 9, 2) := by decide +kernel
theorem dX4_climb_67 : decode cX4_climb 67 = .ok (.iload 8, 2) := by decide +kernel
theorem dX4_climb_69 : decode cX4_climb 69 = .ok (.if_icmp .gt 60, 3) := by decide +kernel
theorem dX4_climb_72 : decode cX4_climb 72 = .ok (.iload 9, 2) := by decide +kernel
theorem dX4_climb_74 : decode cX4_climb 74 = .ok (.aload_n 0, 1) := by decide +kernel
theorem dX4_climb_75 : decode cX4_climb 75 = .ok (.getfield 9, 3) := by decide +kernel
theorem dX4_climb_78 : decode cX4_climb 78 = .ok (.arraylength, 1) := by decide +kernel
theorem dX4_climb_79 : decode cX4_climb 79 = .ok (.if_icmp .ge 50, 3) := by decide +kernel
theorem dX4_climb_82 : decode cX4_climb 82 = .ok (.aload_n 0, 1) := by decide +kernel
theorem dX4_climb_83 : decode cX4_climb 83 = .ok (.getfield 9, 3) := by decide +kernel
theorem dX4_climb_86 : decode cX4_climb 86 = .ok (.iload 9, 2) := by decide +kernel
theorem dX4_climb_88 : decode cX4_climb 88 = .ok (.aload_n 1, 1) := by decide +kernel
theorem dX4_climb_89 : decode cX4_climb 89 = .ok (.aload_n 0, 1) := by decide +kernel
theorem dX4_climb_90 : decode cX4_climb 90 = .ok (.getfield 15, 3) := by decide +kernel
theorem dX4_climb_93 : decode cX4_climb 93 = .ok (.iload_n 3, 1) := by decide +kernel
theorem dX4_climb_94 : decode cX4_climb 94 = .ok (.iload_n 3, 1) := by decide +kernel
theorem dX4_climb_95 : decode cX4_climb 95 = .ok (.aload_n 0, 1) := by decide +kernel
theorem dX4_climb_96 : decode cX4_climb 96 = .ok (.getfield 19, 3) := by decide +kernel
theorem dX4_climb_99 : decode cX4_climb 99 = .ok (.invokevirtual 29, 3) := by decide +kernel
theorem dX4_climb_102 : decode cX4_climb 102 = .ok (.lastore, 1) := by decide +kernel
theorem dX4_climb_103 : decode cX4_climb 103 = .ok (.aload_n 0, 1) := by decide +kernel
theorem dX4_climb_104 : decode cX4_climb 104 = .ok (.getfield 19, 3) := by decide +kernel
theorem dX4_climb_107 : decode cX4_climb 107 = .ok (.astore 10, 2) := by decide +kernel
theorem dX4_climb_109 : decode cX4_climb 109 = .ok (.aload_n 0, 1) := by decide +kernel
theorem dX4_climb_110 : decode cX4_climb 110 = .ok (.aload_n 0, 1) := by decide +kernel
theorem dX4_climb_111 : decode cX4_climb 111 = .ok (.getfield 15, 3) := by decide +kernel
theorem dX4_climb_114 : decode cX4_climb 114 = .ok (.putfield 19, 3) := by decide +kernel
theorem dX4_climb_117 : decode cX4_climb 117 = .ok (.aload_n 0, 1) := by decide +kernel
theorem dX4_climb_118 : decode cX4_climb 118 = .ok (.aload 10, 2) := by decide +kernel
theorem dX4_climb_120 : decode cX4_climb 120 = .ok (.putfield 15, 3) := by decide +kernel
theorem dX4_climb_123 : decode cX4_climb 123 = .ok (.iinc 9 1, 3) := by decide +kernel
theorem dX4_climb_126 : decode cX4_climb 126 = .ok (.goto (-61), 3) := by decide +kernel
theorem dX4_climb_129 : decode cX4_climb 129 = .ok (.iload 8, 2) := by decide +kernel
theorem dX4_climb_131 : decode cX4_climb 131 = .ok (.istore 4, 2) := by decide +kernel
theorem dX4_climb_133 : decode cX4_climb 133 = .ok (.aload_n 0, 1) := by decide +kernel
theorem dX4_climb_134 : decode cX4_climb 134 = .ok (.iload 4, 2) := by decide +kernel
theorem dX4_climb_136 : decode cX4_climb 136 = .ok (.invokevirtual 35, 3) := by decide +kernel
theorem dX4_climb_139 : decode cX4_climb 139 = .ok (.istore 9, 2) := by decide +kernel
theorem dX4_climb_141 : decode cX4_climb 141 = .ok (.iload 9, 2) := by decide +kernel
theorem dX4_climb_143 : decode cX4_climb 143 = .ok (.ifCond .le 18, 3) := by decide +kernel
theorem dX4_climb_146 : decode cX4_climb 146 = .ok (.aload_n 0, 1) := by decide +kernel
theorem dX4_climb_147 : decode cX4_climb 147 = .ok (.iload 9, 2) := by decide +kernel
theorem dX4_climb_149 : decode cX4_climb 149 = .ok (.putfield 39, 3) := by decide +kernel
theorem dX4_climb_152 : decode cX4_climb 152 = .ok (.aload_n 0, 1) := by decide +kernel
theorem dX4_climb_153 : decode cX4_climb 153 = .ok (.iload 4, 2) := by decide +kernel
theorem dX4_climb_155 : decode cX4_climb 155 = .ok (.iload 9, 2) := by decide +kernel
theorem dX4_climb_157 : decode cX4_climb 157 = .ok (.invokevirtual 43, 3) := by decide +kernel
theorem dX4_climb_160 : decode cX4_climb 160 = .ok (.ireturn, 1) := by decide +kernel
theorem dX4_climb_161 : decode cX4_climb 161 = .ok (.iinc 7 1, 3) := by decide +kernel
theorem dX4_climb_164 : decode cX4_climb 164 = .ok (.goto (-119), 3) := by decide +kernel
theorem dX4_climb_167 : decode cX4_climb 167 = .ok (.iconst (-1), 1) := by decide +kernel
theorem dX4_climb_168 : decode cX4_climb 168 = .ok (.ireturn, 1) := by decide +kernel
theorem dX4_begin_0 : decode cX4_begin 0 = .ok (.lconst 0, 1) := by decide +kernel
theorem dX4_begin_1 : decode cX4_begin 1 = .ok (.lstore 4, 2) := by decide +kernel
theorem dX4_begin_3 : decode cX4_begin 3 = .ok (.iconst 0, 1) := by decide +kernel
theorem dX4_begin_4 : decode cX4_begin 4 = .ok (.istore 6, 2) := by decide +kernel
theorem dX4_begin_6 : decode cX4_begin 6 = .ok (.iload 6, 2) := by decide +kernel
theorem dX4_begin_8 : decode cX4_begin 8 = .ok (.iload_n 3, 1) := by decide +kernel
theorem dX4_begin_9 : decode cX4_begin 9 = .ok (.if_icmp .ge 36, 3) := by decide +kernel
theorem dX4_begin_12 : decode cX4_begin 12 = .ok (.aload_n 0, 1) := by decide +kernel
theorem dX4_begin_13 : decode cX4_begin 13 = .ok (.getfield 15, 3) := by decide +kernel
theorem dX4_begin_16 : decode cX4_begin 16 = .ok (.iload 6, 2) := by decide +kernel
theorem dX4_begin_18 : decode cX4_begin 18 = .ok (.aload_n 2, 1) := by decide +kernel
theorem dX4_begin_19 : decode cX4_begin 19 = .ok (.iload 6, 2) := by decide +kernel
theorem dX4_begin_21 : decode cX4_begin 21 = .ok (.iaload, 1) := by decide +kernel
theorem dX4_begin_22 : decode cX4_begin 22 = .ok (.iastore, 1) := by decide +kernel
theorem dX4_begin_23 : decode cX4_begin 23 = .ok (.lload 4, 2) := by decide +kernel
theorem dX4_begin_25 : decode cX4_begin 25 = .ok (.aload_n 1, 1) := by decide +kernel
theorem dX4_begin_26 : decode cX4_begin 26 = .ok (.getfield 47, 3) := by decide +kernel
theorem dX4_begin_29 : decode cX4_begin 29 = .ok (.i2l, 1) := by decide +kernel
theorem dX4_begin_30 : decode cX4_begin 30 = .ok (.lmul, 1) := by decide +kernel
theorem dX4_begin_31 : decode cX4_begin 31 = .ok (.aload_n 2, 1) := by decide +kernel
theorem dX4_begin_32 : decode cX4_begin 32 = .ok (.iload 6, 2) := by decide +kernel
theorem dX4_begin_34 : decode cX4_begin 34 = .ok (.iaload, 1) := by decide +kernel
theorem dX4_begin_35 : decode cX4_begin 35 = .ok (.i2l, 1) := by decide +kernel
theorem dX4_begin_36 : decode cX4_begin 36 = .ok (.ladd, 1) := by decide +kernel
theorem dX4_begin_37 : decode cX4_begin 37 = .ok (.lstore 4, 2) := by decide +kernel
theorem dX4_begin_39 : decode cX4_begin 39 = .ok (.iinc 6 1, 3) := by decide +kernel
theorem dX4_begin_42 : decode cX4_begin 42 = .ok (.goto (-36), 3) := by decide +kernel
theorem dX4_begin_45 : decode cX4_begin 45 = .ok (.aload_n 0, 1) := by decide +kernel
theorem dX4_begin_46 : decode cX4_begin 46 = .ok (.getfield 9, 3) := by decide +kernel
theorem dX4_begin_49 : decode cX4_begin 49 = .ok (.iconst 0, 1) := by decide +kernel
theorem dX4_begin_50 : decode cX4_begin 50 = .ok (.lload 4, 2) := by decide +kernel
theorem dX4_begin_52 : decode cX4_begin 52 = .ok (.lastore, 1) := by decide +kernel
theorem dX4_begin_53 : decode cX4_begin 53 = .ok (.return_, 1) := by decide +kernel
theorem dX4_lengthAt_0 : decode cX4_lengthAt 0 = .ok (.iload_n 1, 1) := by decide +kernel
theorem dX4_lengthAt_1 : decode cX4_lengthAt 1 = .ok (.aload_n 0, 1) := by decide +kernel
theorem dX4_lengthAt_2 : decode cX4_lengthAt 2 = .ok (.getfield 9, 3) := by decide +kernel
theorem dX4_lengthAt_5 : decode cX4_lengthAt 5 = .ok (.arraylength, 1) := by decide +kernel
theorem dX4_lengthAt_6 : decode cX4_lengthAt 6 = .ok (.if_icmp .lt 5, 3) := by decide +kernel
theorem dX4_lengthAt_9 : decode cX4_lengthAt 9 = .ok (.iconst 0, 1) := by decide +kernel
theorem dX4_lengthAt_10 : decode cX4_lengthAt 10 = .ok (.ireturn, 1) := by decide +kernel
theorem dX4_lengthAt_11 : decode cX4_lengthAt 11 = .ok (.iload_n 1, 1) := by decide +kernel
theorem dX4_lengthAt_12 : decode cX4_lengthAt 12 = .ok (.iconst 1, 1) := by decide +kernel
theorem dX4_lengthAt_13 : decode cX4_lengthAt 13 = .ok (.isub, 1) := by decide +kernel
theorem dX4_lengthAt_14 : decode cX4_lengthAt 14 = .ok (.istore_n 2, 1) := by decide +kernel
theorem dX4_lengthAt_15 : decode cX4_lengthAt 15 = .ok (.iload_n 2, 1) := by decide +kernel
theorem dX4_lengthAt_16 : decode cX4_lengthAt 16 = .ok (.ifCond .lt 29, 3) := by decide +kernel
theorem dX4_lengthAt_19 : decode cX4_lengthAt 19 = .ok (.aload_n 0, 1) := by decide +kernel
theorem dX4_lengthAt_20 : decode cX4_lengthAt 20 = .ok (.getfield 9, 3) := by decide +kernel
theorem dX4_lengthAt_23 : decode cX4_lengthAt 23 = .ok (.iload_n 2, 1) := by decide +kernel
theorem dX4_lengthAt_24 : decode cX4_lengthAt 24 = .ok (.laload, 1) := by decide +kernel
theorem dX4_lengthAt_25 : decode cX4_lengthAt 25 = .ok (.aload_n 0, 1) := by decide +kernel
theorem dX4_lengthAt_26 : decode cX4_lengthAt 26 = .ok (.getfield 9, 3) := by decide +kernel
theorem dX4_lengthAt_29 : decode cX4_lengthAt 29 = .ok (.iload_n 1, 1) := by decide +kernel
theorem dX4_lengthAt_30 : decode cX4_lengthAt 30 = .ok (.laload, 1) := by decide +kernel
theorem dX4_lengthAt_31 : decode cX4_lengthAt 31 = .ok (.lcmp, 1) := by decide +kernel
theorem dX4_lengthAt_32 : decode cX4_lengthAt 32 = .ok (.ifCond .ne 7, 3) := by decide +kernel
theorem dX4_lengthAt_35 : decode cX4_lengthAt 35 = .ok (.iload_n 1, 1) := by decide +kernel
theorem dX4_lengthAt_36 : decode cX4_lengthAt 36 = .ok (.iload_n 2, 1) := by decide +kernel
theorem dX4_lengthAt_37 : decode cX4_lengthAt 37 = .ok (.isub, 1) := by decide +kernel
theorem dX4_lengthAt_38 : decode cX4_lengthAt 38 = .ok (.ireturn, 1) := by decide +kernel
theorem dX4_lengthAt_39 : decode cX4_lengthAt 39 = .ok (.iinc 2 (-1), 3) := by decide +kernel
theorem dX4_lengthAt_42 : decode cX4_lengthAt 42 = .ok (.goto (-27), 3) := by decide +kernel
theorem dX4_lengthAt_45 : decode cX4_lengthAt 45 = .ok (.iconst 0, 1) := by decide +kernel
theorem dX4_lengthAt_46 : decode cX4_lengthAt 46 = .ok (.ireturn, 1) := by decide +kernel
theorem dX4_heightBefore_0 : decode cX4_heightBefore 0 = .ok (.iconst 0, 1) := by decide +kernel
theorem dX4_heightBefore_1 : decode cX4_heightBefore 1 = .ok (.istore_n 3, 1) := by decide +kernel
theorem dX4_heightBefore_2 : decode cX4_heightBefore 2 = .ok (.iload_n 3, 1) := by decide +kernel
theorem dX4_heightBefore_3 : decode cX4_heightBefore 3 = .ok (.iload_n 2, 1) := by decide +kernel
theorem dX4_heightBefore_4 : decode cX4_heightBefore 4 = .ok (.iadd, 1) := by decide +kernel
theorem dX4_heightBefore_5 : decode cX4_heightBefore 5 = .ok (.iload_n 1, 1) := by decide +kernel
theorem dX4_heightBefore_6 : decode cX4_heightBefore 6 = .ok (.if_icmp .gt 29, 3) := by decide +kernel
theorem dX4_heightBefore_9 : decode cX4_heightBefore 9 = .ok (.aload_n 0, 1) := by decide +kernel
theorem dX4_heightBefore_10 : decode cX4_heightBefore 10 = .ok (.getfield 9, 3) := by decide +kernel
theorem dX4_heightBefore_13 : decode cX4_heightBefore 13 = .ok (.iload_n 3, 1) := by decide +kernel
theorem dX4_heightBefore_14 : decode cX4_heightBefore 14 = .ok (.laload, 1) := by decide +kernel
theorem dX4_heightBefore_15 : decode cX4_heightBefore 15 = .ok (.aload_n 0, 1) := by decide +kernel
theorem dX4_heightBefore_16 : decode cX4_heightBefore 16 = .ok (.getfield 9, 3) := by decide +kernel
theorem dX4_heightBefore_19 : decode cX4_heightBefore 19 = .ok (.iload_n 3, 1) := by decide +kernel
theorem dX4_heightBefore_20 : decode cX4_heightBefore 20 = .ok (.iload_n 2, 1) := by decide +kernel
theorem dX4_heightBefore_21 : decode cX4_heightBefore 21 = .ok (.iadd, 1) := by decide +kernel
theorem dX4_heightBefore_22 : decode cX4_heightBefore 22 = .ok (.laload, 1) := by decide +kernel
theorem dX4_heightBefore_23 : decode cX4_heightBefore 23 = .ok (.lcmp, 1) := by decide +kernel
theorem dX4_heightBefore_24 : decode cX4_heightBefore 24 = .ok (.ifCond .ne 5, 3) := by decide +kernel
theorem dX4_heightBefore_27 : decode cX4_heightBefore 27 = .ok (.iload_n 3, 1) := by decide +kernel
theorem dX4_heightBefore_28 : decode cX4_heightBefore 28 = .ok (.ireturn, 1) := by decide +kernel
theorem dX4_heightBefore_29 : decode cX4_heightBefore 29 = .ok (.iinc 3 1, 3) := by decide +kernel
theorem dX4_heightBefore_32 : decode cX4_heightBefore 32 = .ok (.goto (-30), 3) := by decide +kernel
theorem dX4_heightBefore_35 : decode cX4_heightBefore 35 = .ok (.iconst (-1), 1) := by decide +kernel
theorem dX4_heightBefore_36 : decode cX4_heightBefore 36 = .ok (.ireturn, 1) := by decide +kernel
theorem dX5_init_0 : decode cX5_init 0 = .ok (.aload_n 0, 1) := by decide +kernel
theorem dX5_init_1 : decode cX5_init 1 = .ok (.invokespecial 3, 3) := by decide +kernel
theorem dX5_init_4 : decode cX5_init 4 = .ok (.aload_n 0, 1) := by decide +kernel
theorem dX5_init_5 : decode cX5_init 5 = .ok (.sipush 189, 3) := by decide +kernel
theorem dX5_init_8 : decode cX5_init 8 = .ok (.newarray .long, 2) := by decide +kernel
theorem dX5_init_10 : decode cX5_init 10 = .ok (.putfield 9, 3) := by decide +kernel
theorem dX5_init_13 : decode cX5_init 13 = .ok (.return_, 1) := by decide +kernel
set_option maxRecDepth 20000 in
theorem ggX5_rowsBehind_X5_weigh : GoodIn wsX5_rowsBehind wsX5_weigh := goodIn_r _ [7, 1, 8, 9, 10, 11, 12, 13, 14, 6, 15, 16, 17, 18, 19, 20, 21, 22, 23, 24, 25, 26, 27, 28, 29, 30, 31, 32, 33, 34, 35, 36, 37, 38] (by decide +kernel) (by decide +kernel)
set_option maxRecDepth 20000 in
theorem gX5_rowsBehind_X5_weigh : GoodIn wsX5_rowsBehind (wsV RX5 19 RX5 yX5_weigh wsX5_weigh) := goodIn_app (goodIn_of _ (by decide +kernel)) ggX5_rowsBehind_X5_weigh
set_option maxRecDepth 20000 in
theorem ggX5_rowsBehind_X5_waysFrom : GoodIn wsX5_rowsBehind wsX5_waysFrom := goodIn_r _ [30, 16, 31, 32, 33] (by decide +kernel) (by decide +kernel)
set_option maxRecDepth 20000 in
theorem gX5_rowsBehind_X5_waysFrom : GoodIn wsX5_rowsBehind (wsV RX5 32 RX5 yX5_waysFrom wsX5_waysFrom) := goodIn_app (goodIn_of _ (by decide +kernel)) ggX5_rowsBehind_X5_waysFrom
theorem dX5_rowsBehind_0 : decode cX5_rowsBehind 0 = .ok (.aload_n 0, 1) := by decide +kernel
theorem dX5_rowsBehind_1 : decode cX5_rowsBehind 1 = .ok (.aload_n 1, 1) := by decide +kernel
theorem dX5_rowsBehind_2 : decode cX5_rowsBehind 2 = .ok (.putfield 15, 3) := by decide +kernel
theorem dX5_rowsBehind_5 : decode cX5_rowsBehind 5 = .ok (.aload_n 0, 1) := by decide +kernel
theorem dX5_rowsBehind_6 : decode cX5_rowsBehind 6 = .ok (.aload_n 2, 1) := by decide +kernel
theorem dX5_rowsBehind_7 : decode cX5_rowsBehind 7 = .ok (.iload_n 3, 1) := by decide +kernel
theorem dX5_rowsBehind_8 : decode cX5_rowsBehind 8 = .ok (.iconst (-1), 1) := by decide +kernel
theorem dX5_rowsBehind_9 : decode cX5_rowsBehind 9 = .ok (.invokevirtual 19, 3) := by decide +kernel
theorem dX5_rowsBehind_12 : decode cX5_rowsBehind 12 = .ok (.lconst 0, 1) := by decide +kernel
theorem dX5_rowsBehind_13 : decode cX5_rowsBehind 13 = .ok (.lstore 4, 2) := by decide +kernel
theorem dX5_rowsBehind_15 : decode cX5_rowsBehind 15 = .ok (.aload_n 0, 1) := by decide +kernel
theorem dX5_rowsBehind_16 : decode cX5_rowsBehind 16 = .ok (.iconst (-1), 1) := by decide +kernel
theorem dX5_rowsBehind_17 : decode cX5_rowsBehind 17 = .ok (.putfield 23, 3) := by decide +kernel
theorem dX5_rowsBehind_20 : decode cX5_rowsBehind 20 = .ok (.iconst 0, 1) := by decide +kernel
theorem dX5_rowsBehind_21 : decode cX5_rowsBehind 21 = .ok (.istore 6, 2) := by decide +kernel
theorem dX5_rowsBehind_23 : decode cX5_rowsBehind 23 = .ok (.iload 6, 2) := by decide +kernel
theorem dX5_rowsBehind_25 : decode cX5_rowsBehind 25 = .ok (.aload_n 0, 1) := by decide +kernel
theorem dX5_rowsBehind_26 : decode cX5_rowsBehind 26 = .ok (.getfield 15, 3) := by decide +kernel
theorem dX5_rowsBehind_29 : decode cX5_rowsBehind 29 = .ok (.getfield 27, 3) := by decide +kernel
theorem dX5_rowsBehind_32 : decode cX5_rowsBehind 32 = .ok (.if_icmp .ge 53, 3) := by decide +kernel
theorem dX5_rowsBehind_35 : decode cX5_rowsBehind 35 = .ok (.aload_n 0, 1) := by decide +kernel
theorem dX5_rowsBehind_36 : decode cX5_rowsBehind 36 = .ok (.iconst 0, 1) := by decide +kernel
theorem dX5_rowsBehind_37 : decode cX5_rowsBehind 37 = .ok (.iload 6, 2) := by decide +kernel
theorem dX5_rowsBehind_39 : decode cX5_rowsBehind 39 = .ok (.invokevirtual 32, 3) := by decide +kernel
theorem dX5_rowsBehind_42 : decode cX5_rowsBehind 42 = .ok (.lstore 7, 2) := by decide +kernel
theorem dX5_rowsBehind_44 : decode cX5_rowsBehind 44 = .ok (.lload 4, 2) := by decide +kernel
theorem dX5_rowsBehind_46 : decode cX5_rowsBehind 46 = .ok (.lload 7, 2) := by decide +kernel
theorem dX5_rowsBehind_48 : decode cX5_rowsBehind 48 = .ok (.ladd, 1) := by decide +kernel
theorem dX5_rowsBehind_49 : decode cX5_rowsBehind 49 = .ok (.lstore 4, 2) := by decide +kernel
theorem dX5_rowsBehind_51 : decode cX5_rowsBehind 51 = .ok (.aload_n 0, 1) := by decide +kernel
theorem dX5_rowsBehind_52 : decode cX5_rowsBehind 52 = .ok (.aload_n 0, 1) := by decide +kernel
theorem dX5_rowsBehind_53 : decode cX5_rowsBehind 53 = .ok (.getfield 23, 3) := by decide +kernel
theorem dX5_rowsBehind_56 : decode cX5_rowsBehind 56 = .ok (.iconst (-1), 1) := by decide +kernel
theorem dX5_rowsBehind_57 : decode cX5_rowsBehind 57 = .ok (.if_icmp .ne 15, 3) := by decide +kernel
theorem dX5_rowsBehind_60 : decode cX5_rowsBehind 60 = .ok (.lload 7, 2) := by decide +kernel
theorem dX5_rowsBehind_62 : decode cX5_rowsBehind 62 = .ok (.lconst 0, 1) := by decide +kernel
theorem dX5_rowsBehind_63 : decode cX5_rowsBehind 63 = .ok (.lcmp, 1) := by decide +kernel
theorem dX5_rowsBehind_64 : decode cX5_rowsBehind 64 = .ok (.ifCond .le 8, 3) := by decide +kernel
theorem dX5_rowsBehind_67 : decode cX5_rowsBehind 67 = .ok (.iload 6, 2) := by decide +kernel
theorem dX5_rowsBehind_69 : decode cX5_rowsBehind 69 = .ok (.goto 7, 3) := by decide +kernel
theorem dX5_rowsBehind_72 : decode cX5_rowsBehind 72 = .ok (.aload_n 0, 1) := by decide +kernel
theorem dX5_rowsBehind_73 : decode cX5_rowsBehind 73 = .ok (.getfield 23, 3) := by decide +kernel
theorem dX5_rowsBehind_76 : decode cX5_rowsBehind 76 = .ok (.putfield 23, 3) := by decide +kernel
theorem dX5_rowsBehind_79 : decode cX5_rowsBehind 79 = .ok (.iinc 6 1, 3) := by decide +kernel
theorem dX5_rowsBehind_82 : decode cX5_rowsBehind 82 = .ok (.goto (-59), 3) := by decide +kernel
theorem dX5_rowsBehind_85 : decode cX5_rowsBehind 85 = .ok (.lload 4, 2) := by decide +kernel
theorem dX5_rowsBehind_87 : decode cX5_rowsBehind 87 = .ok (.lreturn, 1) := by decide +kernel
set_option maxRecDepth 20000 in
theorem ggX5_closedBehind_X5_weigh : GoodIn wsX5_closedBehind wsX5_weigh := goodIn_r _ [7, 1, 8, 9, 10, 11, 12, 13, 14, 6, 15, 16, 17, 18, 19, 20, 21, 22, 23, 24, 25, 26, 27, 28, 29, 30, 31, 32, 33, 34, 35, 36, 37, 38] (by decide +kernel) (by decide +kernel)
set_option maxRecDepth 20000 in
theorem gX5_closedBehind_X5_weigh : GoodIn wsX5_closedBehind (wsV RX5 19 RX5 yX5_weigh wsX5_weigh) := goodIn_app (goodIn_of _ (by decide +kernel)) ggX5_closedBehind_X5_weigh
set_option maxRecDepth 20000 in
theorem ggX5_closedBehind_X5_waysFrom : GoodIn wsX5_closedBehind wsX5_waysFrom := goodIn_r _ [30, 16, 31, 32, 33] (by decide +kernel) (by decide +kernel)
set_option maxRecDepth 20000 in
theorem gX5_closedBehind_X5_waysFrom : GoodIn wsX5_closedBehind (wsV RX5 32 RX5 yX5_waysFrom wsX5_waysFrom) := goodIn_app (goodIn_of _ (by decide +kernel)) ggX5_closedBehind_X5_waysFrom
theorem dX5_closedBehind_0 : decode cX5_closedBehind 0 = .ok (.aload_n 0, 1) := by decide +kernel
theorem dX5_closedBehind_1 : decode cX5_closedBehind 1 = .ok (.aload_n 1, 1) := by decide +kernel
theorem dX5_closedBehind_2 : decode cX5_closedBehind 2 = .ok (.putfield 15, 3) := by decide +kernel
theorem dX5_closedBehind_5 : decode cX5_closedBehind 5 = .ok (.lconst 0, 1) := by decide +kernel
theorem dX5_closedBehind_6 : decode cX5_closedBehind 6 = .ok (.lstore 4, 2) := by decide +kernel
theorem dX5_closedBehind_8 : decode cX5_closedBehind 8 = .ok (.aload_n 0, 1) := by decide +kernel
theorem dX5_closedBehind_9 : decode cX5_closedBehind 9 = .ok (.iconst (-1), 1) := by decide +kernel
theorem dX5_closedBehind_10 : decode cX5_closedBehind 10 = .ok (.putfield 23, 3) := by decide +kernel
theorem dX5_closedBehind_13 : decode cX5_closedBehind 13 = .ok (.iconst 0, 1) := by decide +kernel
theorem dX5_closedBehind_14 : decode cX5_closedBehind 14 = .ok (.istore 6, 2) := by decide +kernel
theorem dX5_closedBehind_16 : decode cX5_closedBehind 16 = .ok (.iload 6, 2) := by decide +kernel
theorem dX5_closedBehind_18 : decode cX5_closedBehind 18 = .ok (.aload_n 0, 1) := by decide +kernel
theorem dX5_closedBehind_19 : decode cX5_closedBehind 19 = .ok (.getfield 15, 3) := by decide +kernel
theorem dX5_closedBehind_22 : decode cX5_closedBehind 22 = .ok (.getfield 27, 3) := by decide +kernel
theorem dX5_closedBehind_25 : decode cX5_closedBehind 25 = .ok (.if_icmp .ge 61, 3) := by decide +kernel
theorem dX5_closedBehind_28 : decode cX5_closedBehind 28 = .ok (.aload_n 0, 1) := by decide +kernel
theorem dX5_closedBehind_29 : decode cX5_closedBehind 29 = .ok (.aload_n 2, 1) := by decide +kernel
theorem dX5_closedBehind_30 : decode cX5_closedBehind 30 = .ok (.iload_n 3, 1) := by decide +kernel
theorem dX5_closedBehind_31 : decode cX5_closedBehind 31 = .ok (.iload 6, 2) := by decide +kernel
theorem dX5_closedBehind_33 : decode cX5_closedBehind 33 = .ok (.invokevirtual 19, 3) := by decide +kernel
theorem dX5_closedBehind_36 : decode cX5_closedBehind 36 = .ok (.aload_n 0, 1) := by decide +kernel
theorem dX5_closedBehind_37 : decode cX5_closedBehind 37 = .ok (.iconst 0, 1) := by decide +kernel
theorem dX5_closedBehind_38 : decode cX5_closedBehind 38 = .ok (.iload 6, 2) := by decide +kernel
theorem dX5_closedBehind_40 : decode cX5_closedBehind 40 = .ok (.invokevirtual 32, 3) := by decide +kernel
theorem dX5_closedBehind_43 : decode cX5_closedBehind 43 = .ok (.lstore 7, 2) := by decide +kernel
theorem dX5_closedBehind_45 : decode cX5_closedBehind 45 = .ok (.lload 4, 2) := by decide +kernel
theorem dX5_closedBehind_47 : decode cX5_closedBehind 47 = .ok (.lload 7, 2) := by decide +kernel
theorem dX5_closedBehind_49 : decode cX5_closedBehind 49 = .ok (.ladd, 1) := by decide +kernel
theorem dX5_closedBehind_50 : decode cX5_closedBehind 50 = .ok (.lstore 4, 2) := by decide +kernel
theorem dX5_closedBehind_52 : decode cX5_closedBehind 52 = .ok (.aload_n 0, 1) := by decide +kernel
theorem dX5_closedBehind_53 : decode cX5_closedBehind 53 = .ok (.aload_n 0, 1) := by decide +kernel
theorem dX5_closedBehind_54 : decode cX5_closedBehind 54 = .ok (.getfield 23, 3) := by decide +kernel
theorem dX5_closedBehind_57 : decode cX5_closedBehind 57 = .ok (.iconst (-1), 1) := by decide +kernel
theorem dX5_closedBehind_58 : decode cX5_closedBehind 58 = .ok (.if_icmp .ne 15, 3) := by decide +kernel
theorem dX5_closedBehind_61 : decode cX5_closedBehind 61 = .ok (.lload 7, 2) := by decide +kernel
theorem dX5_closedBehind_63 : decode cX5_closedBehind 63 = .ok (.lconst 0, 1) := by decide +kernel
theorem dX5_closedBehind_64 : decode cX5_closedBehind 64 = .ok (.lcmp, 1) := by decide +kernel
theorem dX5_closedBehind_65 : decode cX5_closedBehind 65 = .ok (.ifCond .le 8, 3) := by decide +kernel
theorem dX5_closedBehind_68 : decode cX5_closedBehind 68 = .ok (.iload 6, 2) := by decide +kernel
theorem dX5_closedBehind_70 : decode cX5_closedBehind 70 = .ok (.goto 7, 3) := by decide +kernel
theorem dX5_closedBehind_73 : decode cX5_closedBehind 73 = .ok (.aload_n 0, 1) := by decide +kernel
theorem dX5_closedBehind_74 : decode cX5_closedBehind 74 = .ok (.getfield 23, 3) := by decide +kernel
theorem dX5_closedBehind_77 : decode cX5_closedBehind 77 = .ok (.putfield 23, 3) := by decide +kernel
theorem dX5_closedBehind_80 : decode cX5_closedBehind 80 = .ok (.iinc 6 1, 3) := by decide +kernel
theorem dX5_closedBehind_83 : decode cX5_closedBehind 83 = .ok (.goto (-67), 3) := by decide +kernel
theorem dX5_closedBehind_86 : decode cX5_closedBehind 86 = .ok (.aload_n 0, 1) := by decide +kernel
theorem dX5_closedBehind_87 : decode cX5_closedBehind 87 = .ok (.getfield 23, 3) := by decide +kernel
theorem dX5_closedBehind_90 : decode cX5_closedBehind 90 = .ok (.iconst (-1), 1) := by decide +kernel
theorem dX5_closedBehind_91 : decode cX5_closedBehind 91 = .ok (.if_icmp .eq 13, 3) := by decide +kernel
theorem dX5_closedBehind_94 : decode cX5_closedBehind 94 = .ok (.aload_n 0, 1) := by decide +kernel
theorem dX5_closedBehind_95 : decode cX5_closedBehind 95 = .ok (.aload_n 2, 1) := by decide +kernel
theorem dX5_closedBehind_96 : decode cX5_closedBehind 96 = .ok (.iload_n 3, 1) := by decide +kernel
theorem dX5_closedBehind_97 : decode cX5_closedBehind 97 = .ok (.aload_n 0, 1) := by decide +kernel
theorem dX5_closedBehind_98 : decode cX5_closedBehind 98 = .ok (.getfield 23, 3) := by decide +kernel
theorem dX5_closedBehind_101 : decode cX5_closedBehind 101 = .ok (.invokevirtual 19, 3) := by decide +kernel
theorem dX5_closedBehind_104 : decode cX5_closedBehind 104 = .ok (.lload 4, 2) := by decide +kernel
theorem dX5_closedBehind_106 : decode cX5_closedBehind 106 = .ok (.lreturn, 1) := by decide +kernel
set_option maxRecDepth 20000 in
theorem ggX5_writeFirst_X1_spread : GoodIn wsX5_writeFirst wsX1_spread := goodIn_r _ [7, 8, 9, 10, 11, 12, 31, 32, 33, 34, 35] (by decide +kernel) (by decide +kernel)
set_option maxRecDepth 20000 in
theorem gX5_writeFirst_X1_spread : GoodIn wsX5_writeFirst (wsV RX5 39 RX1 yX1_spread wsX1_spread) := goodIn_app (goodIn_of _ (by decide +kernel)) ggX5_writeFirst_X1_spread
set_option maxRecDepth 20000 in
theorem ggX5_writeFirst_X5_firstCell : GoodIn wsX5_writeFirst wsX5_firstCell := goodIn_r _ [17, 1, 18, 19, 20, 6, 21, 22, 23, 24, 25, 16, 26, 27, 28, 29, 30, 31, 32, 33, 34, 35] (by decide +kernel) (by decide +kernel)
set_option maxRecDepth 20000 in
theorem gX5_writeFirst_X5_firstCell : GoodIn wsX5_writeFirst (wsV RX5 43 RX5 yX5_firstCell wsX5_firstCell) := goodIn_app (goodIn_of _ (by decide +kernel)) ggX5_writeFirst_X5_firstCell
theorem dX5_writeFirst_0 : decode cX5_writeFirst 0 = .ok (.aload_n 0, 1) := by decide +kernel
theorem dX5_writeFirst_1 : decode cX5_writeFirst 1 = .ok (.getfield 15, 3) := by decide +kernel
theorem dX5_writeFirst_4 : decode cX5_writeFirst 4 = .ok (.getfield 36, 3) := by decide +kernel
theorem dX5_writeFirst_7 : decode cX5_writeFirst 7 = .ok (.iconst 1, 1) := by decide +kernel
theorem dX5_writeFirst_8 : decode cX5_writeFirst 8 = .ok (.isub, 1) := by decide +kernel
theorem dX5_writeFirst_9 : decode cX5_writeFirst 9 = .ok (.istore 4, 2) := by decide +kernel
theorem dX5_writeFirst_11 : decode cX5_writeFirst 11 = .ok (.aload_n 0, 1) := by decide +kernel
theorem dX5_writeFirst_12 : decode cX5_writeFirst 12 = .ok (.getfield 23, 3) := by decide +kernel
theorem dX5_writeFirst_15 : decode cX5_writeFirst 15 = .ok (.iconst (-1), 1) := by decide +kernel
theorem dX5_writeFirst_16 : decode cX5_writeFirst 16 = .ok (.if_icmp .eq 18, 3) := by decide +kernel
theorem dX5_writeFirst_19 : decode cX5_writeFirst 19 = .ok (.iload_n 2, 1) := by decide +kernel
theorem dX5_writeFirst_20 : decode cX5_writeFirst 20 = .ok (.aload_n 1, 1) := by decide +kernel
theorem dX5_writeFirst_21 : decode cX5_writeFirst 21 = .ok (.arraylength, 1) := by decide +kernel
theorem dX5_writeFirst_22 : decode cX5_writeFirst 22 = .ok (.if_icmp .gt 12, 3) := by decide +kernel
theorem dX5_writeFirst_25 : decode cX5_writeFirst 25 = .ok (.iload 4, 2) := by decide +kernel
theorem dX5_writeFirst_27 : decode cX5_writeFirst 27 = .ok (.iload_n 2, 1) := by decide +kernel
theorem dX5_writeFirst_28 : decode cX5_writeFirst 28 = .ok (.iadd, 1) := by decide +kernel
theorem dX5_writeFirst_29 : decode cX5_writeFirst 29 = .ok (.aload_n 3, 1) := by decide +kernel
theorem dX5_writeFirst_30 : decode cX5_writeFirst 30 = .ok (.arraylength, 1) := by decide +kernel
theorem dX5_writeFirst_31 : decode cX5_writeFirst 31 = .ok (.if_icmp .le 5, 3) := by decide +kernel
theorem dX5_writeFirst_34 : decode cX5_writeFirst 34 = .ok (.iconst 0, 1) := by decide +kernel
theorem dX5_writeFirst_35 : decode cX5_writeFirst 35 = .ok (.ireturn, 1) := by decide +kernel
theorem dX5_writeFirst_36 : decode cX5_writeFirst 36 = .ok (.aload_n 0, 1) := by decide +kernel
theorem dX5_writeFirst_37 : decode cX5_writeFirst 37 = .ok (.getfield 15, 3) := by decide +kernel
theorem dX5_writeFirst_40 : decode cX5_writeFirst 40 = .ok (.aload_n 0, 1) := by decide +kernel
theorem dX5_writeFirst_41 : decode cX5_writeFirst 41 = .ok (.getfield 23, 3) := by decide +kernel
theorem dX5_writeFirst_44 : decode cX5_writeFirst 44 = .ok (.iload 4, 2) := by decide +kernel
theorem dX5_writeFirst_46 : decode cX5_writeFirst 46 = .ok (.aload_n 3, 1) := by decide +kernel
theorem dX5_writeFirst_47 : decode cX5_writeFirst 47 = .ok (.invokevirtual 39, 3) := by decide +kernel
theorem dX5_writeFirst_50 : decode cX5_writeFirst 50 = .ok (.aload_n 0, 1) := by decide +kernel
theorem dX5_writeFirst_51 : decode cX5_writeFirst 51 = .ok (.getfield 23, 3) := by decide +kernel
theorem dX5_writeFirst_54 : decode cX5_writeFirst 54 = .ok (.istore 5, 2) := by decide +kernel
theorem dX5_writeFirst_56 : decode cX5_writeFirst 56 = .ok (.iconst 0, 1) := by decide +kernel
theorem dX5_writeFirst_57 : decode cX5_writeFirst 57 = .ok (.istore 6, 2) := by decide +kernel
theorem dX5_writeFirst_59 : decode cX5_writeFirst 59 = .ok (.iload 6, 2) := by decide +kernel
theorem dX5_writeFirst_61 : decode cX5_writeFirst 61 = .ok (.iload_n 2, 1) := by decide +kernel
theorem dX5_writeFirst_62 : decode cX5_writeFirst 62 = .ok (.if_icmp .ge 55, 3) := by decide +kernel
theorem dX5_writeFirst_65 : decode cX5_writeFirst 65 = .ok (.aload_n 0, 1) := by decide +kernel
theorem dX5_writeFirst_66 : decode cX5_writeFirst 66 = .ok (.iload 6, 2) := by decide +kernel
theorem dX5_writeFirst_68 : decode cX5_writeFirst 68 = .ok (.iload 5, 2) := by decide +kernel
theorem dX5_writeFirst_70 : decode cX5_writeFirst 70 = .ok (.aload_n 1, 1) := by decide +kernel
theorem dX5_writeFirst_71 : decode cX5_writeFirst 71 = .ok (.iload 6, 2) := by decide +kernel
theorem dX5_writeFirst_73 : decode cX5_writeFirst 73 = .ok (.iaload, 1) := by decide +kernel
theorem dX5_writeFirst_74 : decode cX5_writeFirst 74 = .ok (.invokevirtual 43, 3) := by decide +kernel
theorem dX5_writeFirst_77 : decode cX5_writeFirst 77 = .ok (.istore 7, 2) := by decide +kernel
theorem dX5_writeFirst_79 : decode cX5_writeFirst 79 = .ok (.aload_n 3, 1) := by decide +kernel
theorem dX5_writeFirst_80 : decode cX5_writeFirst 80 = .ok (.iload 4, 2) := by decide +kernel
theorem dX5_writeFirst_82 : decode cX5_writeFirst 82 = .ok (.iload 6, 2) := by decide +kernel
theorem dX5_writeFirst_84 : decode cX5_writeFirst 84 = .ok (.iadd, 1) := by decide +kernel
theorem dX5_writeFirst_85 : decode cX5_writeFirst 85 = .ok (.iload 7, 2) := by decide +kernel
theorem dX5_writeFirst_87 : decode cX5_writeFirst 87 = .ok (.iastore, 1) := by decide +kernel
theorem dX5_writeFirst_88 : decode cX5_writeFirst 88 = .ok (.iload 5, 2) := by decide +kernel
theorem dX5_writeFirst_90 : decode cX5_writeFirst 90 = .ok (.aload_n 0, 1) := by decide +kernel
theorem dX5_writeFirst_91 : decode cX5_writeFirst 91 = .ok (.getfield 15, 3) := by decide +kernel
theorem dX5_writeFirst_94 : decode cX5_writeFirst 94 = .ok (.getfield 47, 3) := by decide +kernel
theorem dX5_writeFirst_97 : decode cX5_writeFirst 97 = .ok (.imul, 1) := by decide +kernel
theorem dX5_writeFirst_98 : decode cX5_writeFirst 98 = .ok (.iload 7, 2) := by decide +kernel
theorem dX5_writeFirst_100 : decode cX5_writeFirst 100 = .ok (.iadd, 1) := by decide +kernel
theorem dX5_writeFirst_101 : decode cX5_writeFirst 101 = .ok (.aload_n 0, 1) := by decide +kernel
theorem dX5_writeFirst_102 : decode cX5_writeFirst 102 = .ok (.getfield 15, 3) := by decide +kernel
theorem dX5_writeFirst_105 : decode cX5_writeFirst 105 = .ok (.getfield 27, 3) := by decide +kernel
theorem dX5_writeFirst_108 : decode cX5_writeFirst 108 = .ok (.irem, 1) := by decide +kernel
theorem dX5_writeFirst_109 : decode cX5_writeFirst 109 = .ok (.istore 5, 2) := by decide +kernel
theorem dX5_writeFirst_111 : decode cX5_writeFirst 111 = .ok (.iinc 6 1, 3) := by decide +kernel
theorem dX5_writeFirst_114 : decode cX5_writeFirst 114 = .ok (.goto (-55), 3) := by decide +kernel
theorem dX5_writeFirst_117 : decode cX5_writeFirst 117 = .ok (.iload 4, 2) := by decide +kernel
theorem dX5_writeFirst_119 : decode cX5_writeFirst 119 = .ok (.iload_n 2, 1) := by decide +kernel
theorem dX5_writeFirst_120 : decode cX5_writeFirst 120 = .ok (.iadd, 1) := by decide +kernel
theorem dX5_writeFirst_121 : decode cX5_writeFirst 121 = .ok (.ireturn, 1) := by decide +kernel
set_option maxRecDepth 20000 in
theorem ggX5_firstCell_X1_tells : GoodIn wsX5_firstCell wsX1_tells := goodIn_r _ [6, 7, 17, 18, 19, 20, 21] (by decide +kernel) (by decide +kernel)
set_option maxRecDepth 20000 in
theorem gX5_firstCell_X1_tells : GoodIn wsX5_firstCell (wsV RX5 50 RX1 yX1_tells wsX1_tells) := goodIn_app (goodIn_of _ (by decide +kernel)) ggX5_firstCell_X1_tells
set_option maxRecDepth 20000 in
theorem ggX5_firstCell_X5_waysFrom : GoodIn wsX5_firstCell wsX5_waysFrom := goodIn_r _ [12, 13, 14, 15, 16] (by decide +kernel) (by decide +kernel)
set_option maxRecDepth 20000 in
theorem gX5_firstCell_X5_waysFrom : GoodIn wsX5_firstCell (wsV RX5 32 RX5 yX5_waysFrom wsX5_waysFrom) := goodIn_app (goodIn_of _ (by decide +kernel)) ggX5_firstCell_X5_waysFrom
theorem dX5_firstCell_0 : decode cX5_firstCell 0 = .ok (.iconst 0, 1) := by decide +kernel
theorem dX5_firstCell_1 : decode cX5_firstCell 1 = .ok (.istore 4, 2) := by decide +kernel
theorem dX5_firstCell_3 : decode cX5_firstCell 3 = .ok (.iload 4, 2) := by decide +kernel
theorem dX5_firstCell_5 : decode cX5_firstCell 5 = .ok (.aload_n 0, 1) := by decide +kernel
theorem dX5_firstCell_6 : decode cX5_firstCell 6 = .ok (.getfield 15, 3) := by decide +kernel
theorem dX5_firstCell_9 : decode cX5_firstCell 9 = .ok (.getfield 47, 3) := by decide +kernel
theorem dX5_firstCell_12 : decode cX5_firstCell 12 = .ok (.if_icmp .ge 61, 3) := by decide +kernel
theorem dX5_firstCell_15 : decode cX5_firstCell 15 = .ok (.iload_n 2, 1) := by decide +kernel
theorem dX5_firstCell_16 : decode cX5_firstCell 16 = .ok (.aload_n 0, 1) := by decide +kernel
theorem dX5_firstCell_17 : decode cX5_firstCell 17 = .ok (.getfield 15, 3) := by decide +kernel
theorem dX5_firstCell_20 : decode cX5_firstCell 20 = .ok (.getfield 47, 3) := by decide +kernel
theorem dX5_firstCell_23 : decode cX5_firstCell 23 = .ok (.imul, 1) := by decide +kernel
theorem dX5_firstCell_24 : decode cX5_firstCell 24 = .ok (.iload 4, 2) := by decide +kernel
theorem dX5_firstCell_26 : decode cX5_firstCell 26 = .ok (.iadd, 1) := by decide +kernel
theorem dX5_firstCell_27 : decode cX5_firstCell 27 = .ok (.istore 5, 2) := by decide +kernel
theorem dX5_firstCell_29 : decode cX5_firstCell 29 = .ok (.aload_n 0, 1) := by decide +kernel
theorem dX5_firstCell_30 : decode cX5_firstCell 30 = .ok (.getfield 15, 3) := by decide +kernel
theorem dX5_firstCell_33 : decode cX5_firstCell 33 = .ok (.iload 5, 2) := by decide +kernel
theorem dX5_firstCell_35 : decode cX5_firstCell 35 = .ok (.invokevirtual 50, 3) := by decide +kernel
theorem dX5_firstCell_38 : decode cX5_firstCell 38 = .ok (.iload_n 3, 1) := by decide +kernel
theorem dX5_firstCell_39 : decode cX5_firstCell 39 = .ok (.if_icmp .ne 28, 3) := by decide +kernel
theorem dX5_firstCell_42 : decode cX5_firstCell 42 = .ok (.aload_n 0, 1) := by decide +kernel
theorem dX5_firstCell_43 : decode cX5_firstCell 43 = .ok (.iload_n 1, 1) := by decide +kernel
theorem dX5_firstCell_44 : decode cX5_firstCell 44 = .ok (.iconst 1, 1) := by decide +kernel
theorem dX5_firstCell_45 : decode cX5_firstCell 45 = .ok (.iadd, 1) := by decide +kernel
theorem dX5_firstCell_46 : decode cX5_firstCell 46 = .ok (.iload 5, 2) := by decide +kernel
theorem dX5_firstCell_48 : decode cX5_firstCell 48 = .ok (.aload_n 0, 1) := by decide +kernel
theorem dX5_firstCell_49 : decode cX5_firstCell 49 = .ok (.getfield 15, 3) := by decide +kernel
theorem dX5_firstCell_52 : decode cX5_firstCell 52 = .ok (.getfield 27, 3) := by decide +kernel
theorem dX5_firstCell_55 : decode cX5_firstCell 55 = .ok (.irem, 1) := by decide +kernel
theorem dX5_firstCell_56 : decode cX5_firstCell 56 = .ok (.invokevirtual 32, 3) := by decide +kernel
theorem dX5_firstCell_59 : decode cX5_firstCell 59 = .ok (.lconst 0, 1) := by decide +kernel
theorem dX5_firstCell_60 : decode cX5_firstCell 60 = .ok (.lcmp, 1) := by decide +kernel
theorem dX5_firstCell_61 : decode cX5_firstCell 61 = .ok (.ifCond .le 6, 3) := by decide +kernel
theorem dX5_firstCell_64 : decode cX5_firstCell 64 = .ok (.iload 4, 2) := by decide +kernel
theorem dX5_firstCell_66 : decode cX5_firstCell 66 = .ok (.ireturn, 1) := by decide +kernel
theorem dX5_firstCell_67 : decode cX5_firstCell 67 = .ok (.iinc 4 1, 3) := by decide +kernel
theorem dX5_firstCell_70 : decode cX5_firstCell 70 = .ok (.goto (-67), 3) := by decide +kernel
theorem dX5_firstCell_73 : decode cX5_firstCell 73 = .ok (.iconst 0, 1) := by decide +kernel
theorem dX5_firstCell_74 : decode cX5_firstCell 74 = .ok (.ireturn, 1) := by decide +kernel
set_option maxRecDepth 20000 in
theorem ggX5_weigh_X5_putWays : GoodIn wsX5_weigh wsX5_putWays := goodIn_r _ [10, 11, 26, 27, 28] (by decide +kernel) (by decide +kernel)
set_option maxRecDepth 20000 in
theorem gX5_weigh_X5_putWays : GoodIn wsX5_weigh (wsV RX5 54 RX5 yX5_putWays wsX5_putWays) := goodIn_app (goodIn_of _ (by decide +kernel)) ggX5_weigh_X5_putWays
set_option maxRecDepth 20000 in
theorem ggX5_weigh_X5_waysOver : GoodIn wsX5_weigh wsX5_waysOver := goodIn_r _ [15, 1, 16, 17, 18, 19, 20, 21, 22, 23, 24, 9, 25, 11, 26, 27, 28, 29, 30, 31, 32, 33] (by decide +kernel) (by decide +kernel)
set_option maxRecDepth 20000 in
theorem gX5_weigh_X5_waysOver : GoodIn wsX5_weigh (wsV RX5 64 RX5 yX5_waysOver wsX5_waysOver) := goodIn_app (goodIn_of _ (by decide +kernel)) ggX5_weigh_X5_waysOver
theorem dX5_weigh_0 : decode cX5_weigh 0 = .ok (.iconst 0, 1) := by decide +kernel
theorem dX5_weigh_1 : decode cX5_weigh 1 = .ok (.istore 4, 2) := by decide +kernel
theorem dX5_weigh_3 : decode cX5_weigh 3 = .ok (.iload 4, 2) := by decide +kernel
theorem dX5_weigh_5 : decode cX5_weigh 5 = .ok (.aload_n 0, 1) := by decide +kernel
theorem dX5_weigh_6 : decode cX5_weigh 6 = .ok (.getfield 15, 3) := by decide +kernel
theorem dX5_weigh_9 : decode cX5_weigh 9 = .ok (.getfield 27, 3) := by decide +kernel
theorem dX5_weigh_12 : decode cX5_weigh 12 = .ok (.if_icmp .ge 32, 3) := by decide +kernel
theorem dX5_weigh_15 : decode cX5_weigh 15 = .ok (.aload_n 0, 1) := by decide +kernel
theorem dX5_weigh_16 : decode cX5_weigh 16 = .ok (.iload_n 2, 1) := by decide +kernel
theorem dX5_weigh_17 : decode cX5_weigh 17 = .ok (.iload 4, 2) := by decide +kernel
theorem dX5_weigh_19 : decode cX5_weigh 19 = .ok (.iload_n 3, 1) := by decide +kernel
theorem dX5_weigh_20 : decode cX5_weigh 20 = .ok (.iconst (-1), 1) := by decide +kernel
theorem dX5_weigh_21 : decode cX5_weigh 21 = .ok (.if_icmp .eq 9, 3) := by decide +kernel
theorem dX5_weigh_24 : decode cX5_weigh 24 = .ok (.iload_n 3, 1) := by decide +kernel
theorem dX5_weigh_25 : decode cX5_weigh 25 = .ok (.iload 4, 2) := by decide +kernel
theorem dX5_weigh_27 : decode cX5_weigh 27 = .ok (.if_icmp .ne 7, 3) := by decide +kernel
theorem dX5_weigh_30 : decode cX5_weigh 30 = .ok (.lconst 1, 1) := by decide +kernel
theorem dX5_weigh_31 : decode cX5_weigh 31 = .ok (.goto 4, 3) := by decide +kernel
theorem dX5_weigh_34 : decode cX5_weigh 34 = .ok (.lconst 0, 1) := by decide +kernel
theorem dX5_weigh_35 : decode cX5_weigh 35 = .ok (.invokevirtual 54, 3) := by decide +kernel
theorem dX5_weigh_38 : decode cX5_weigh 38 = .ok (.iinc 4 1, 3) := by decide +kernel
theorem dX5_weigh_41 : decode cX5_weigh 41 = .ok (.goto (-38), 3) := by decide +kernel
theorem dX5_weigh_44 : decode cX5_weigh 44 = .ok (.iload_n 2, 1) := by decide +kernel
theorem dX5_weigh_45 : decode cX5_weigh 45 = .ok (.aload_n 1, 1) := by decide +kernel
theorem dX5_weigh_46 : decode cX5_weigh 46 = .ok (.arraylength, 1) := by decide +kernel
theorem dX5_weigh_47 : decode cX5_weigh 47 = .ok (.invokestatic 58, 3) := by decide +kernel
theorem dX5_weigh_50 : decode cX5_weigh 50 = .ok (.iconst 1, 1) := by decide +kernel
theorem dX5_weigh_51 : decode cX5_weigh 51 = .ok (.isub, 1) := by decide +kernel
theorem dX5_weigh_52 : decode cX5_weigh 52 = .ok (.istore 4, 2) := by decide +kernel
theorem dX5_weigh_54 : decode cX5_weigh 54 = .ok (.iload 4, 2) := by decide +kernel
theorem dX5_weigh_56 : decode cX5_weigh 56 = .ok (.ifCond .lt 50, 3) := by decide +kernel
theorem dX5_weigh_59 : decode cX5_weigh 59 = .ok (.iconst 0, 1) := by decide +kernel
theorem dX5_weigh_60 : decode cX5_weigh 60 = .ok (.istore 5, 2) := by decide +kernel
theorem dX5_weigh_62 : decode cX5_weigh 62 = .ok (.iload 5, 2) := by decide +kernel
theorem dX5_weigh_64 : decode cX5_weigh 64 = .ok (.aload_n 0, 1) := by decide +kernel
theorem dX5_weigh_65 : decode cX5_weigh 65 = .ok (.getfield 15, 3) := by decide +kernel
theorem dX5_weigh_68 : decode cX5_weigh 68 = .ok (.getfield 27, 3) := by decide +kernel
theorem dX5_weigh_71 : decode cX5_weigh 71 = .ok (.if_icmp .ge 29, 3) := by decide +kernel
theorem dX5_weigh_74 : decode cX5_weigh 74 = .ok (.aload_n 0, 1) := by decide +kernel
theorem dX5_weigh_75 : decode cX5_weigh 75 = .ok (.iload 4, 2) := by decide +kernel
theorem dX5_weigh_77 : decode cX5_weigh 77 = .ok (.iload 5, 2) := by decide +kernel
theorem dX5_weigh_79 : decode cX5_weigh 79 = .ok (.aload_n 0, 1) := by decide +kernel
theorem dX5_weigh_80 : decode cX5_weigh 80 = .ok (.iload 4, 2) := by decide +kernel
theorem dX5_weigh_82 : decode cX5_weigh 82 = .ok (.iload 5, 2) := by decide +kernel
theorem dX5_weigh_84 : decode cX5_weigh 84 = .ok (.aload_n 1, 1) := by decide +kernel
theorem dX5_weigh_85 : decode cX5_weigh 85 = .ok (.iload 4, 2) := by decide +kernel
theorem dX5_weigh_87 : decode cX5_weigh 87 = .ok (.iaload, 1) := by decide +kernel
theorem dX5_weigh_88 : decode cX5_weigh 88 = .ok (.invokevirtual 64, 3) := by decide +kernel
theorem dX5_weigh_91 : decode cX5_weigh 91 = .ok (.invokevirtual 54, 3) := by decide +kernel
theorem dX5_weigh_94 : decode cX5_weigh 94 = .ok (.iinc 5 1, 3) := by decide +kernel
theorem dX5_weigh_97 : decode cX5_weigh 97 = .ok (.goto (-35), 3) := by decide +kernel
theorem dX5_weigh_100 : decode cX5_weigh 100 = .ok (.iinc 4 (-1), 3) := by decide +kernel
theorem dX5_weigh_103 : decode cX5_weigh 103 = .ok (.goto (-49), 3) := by decide +kernel
theorem dX5_weigh_106 : decode cX5_weigh 106 = .ok (.return_, 1) := by decide +kernel
set_option maxRecDepth 20000 in
theorem ggX5_waysOver_X1_tells : GoodIn wsX5_waysOver wsX1_tells := goodIn_r _ [6, 7, 17, 18, 19, 20, 21] (by decide +kernel) (by decide +kernel)
set_option maxRecDepth 20000 in
theorem gX5_waysOver_X1_tells : GoodIn wsX5_waysOver (wsV RX5 50 RX1 yX1_tells wsX1_tells) := goodIn_app (goodIn_of _ (by decide +kernel)) ggX5_waysOver_X1_tells
set_option maxRecDepth 20000 in
theorem ggX5_waysOver_X5_waysFrom : GoodIn wsX5_waysOver wsX5_waysFrom := goodIn_r _ [12, 13, 14, 15, 16] (by decide +kernel) (by decide +kernel)
set_option maxRecDepth 20000 in
theorem gX5_waysOver_X5_waysFrom : GoodIn wsX5_waysOver (wsV RX5 32 RX5 yX5_waysFrom wsX5_waysFrom) := goodIn_app (goodIn_of _ (by decide +kernel)) ggX5_waysOver_X5_waysFrom
theorem dX5_waysOver_0 : decode cX5_waysOver 0 = .ok (.lconst 0, 1) := by decide +kernel
theorem dX5_waysOver_1 : decode cX5_waysOver 1 = .ok (.lstore 4, 2) := by decide +kernel
theorem dX5_waysOver_3 : decode cX5_waysOver 3 = .ok (.iconst 0, 1) := by decide +kernel
theorem dX5_waysOver_4 : decode cX5_waysOver 4 = .ok (.istore 6, 2) := by decide +kernel
theorem dX5_waysOver_6 : decode cX5_waysOver 6 = .ok (.iload 6, 2) := by decide +kernel
theorem dX5_waysOver_8 : decode cX5_waysOver 8 = .ok (.aload_n 0, 1) := by decide +kernel
theorem dX5_waysOver_9 : decode cX5_waysOver 9 = .ok (.getfield 15, 3) := by decide +kernel
theorem dX5_waysOver_12 : decode cX5_waysOver 12 = .ok (.getfield 47, 3) := by decide +kernel
theorem dX5_waysOver_15 : decode cX5_waysOver 15 = .ok (.if_icmp .ge 58, 3) := by decide +kernel
theorem dX5_waysOver_18 : decode cX5_waysOver 18 = .ok (.iload_n 2, 1) := by decide +kernel
theorem dX5_waysOver_19 : decode cX5_waysOver 19 = .ok (.aload_n 0, 1) := by decide +kernel
theorem dX5_waysOver_20 : decode cX5_waysOver 20 = .ok (.getfield 15, 3) := by decide +kernel
theorem dX5_waysOver_23 : decode cX5_waysOver 23 = .ok (.getfield 47, 3) := by decide +kernel
theorem dX5_waysOver_26 : decode cX5_waysOver 26 = .ok (.imul, 1) := by decide +kernel
theorem dX5_waysOver_27 : decode cX5_waysOver 27 = .ok (.iload 6, 2) := by decide +kernel
theorem dX5_waysOver_29 : decode cX5_waysOver 29 = .ok (.iadd, 1) := by decide +kernel
theorem dX5_waysOver_30 : decode cX5_waysOver 30 = .ok (.istore 7, 2) := by decide +kernel
theorem dX5_waysOver_32 : decode cX5_waysOver 32 = .ok (.aload_n 0, 1) := by decide +kernel
theorem dX5_waysOver_33 : decode cX5_waysOver 33 = .ok (.getfield 15, 3) := by decide +kernel
theorem dX5_waysOver_36 : decode cX5_waysOver 36 = .ok (.iload 7, 2) := by decide +kernel
theorem dX5_waysOver_38 : decode cX5_waysOver 38 = .ok (.invokevirtual 50, 3) := by decide +kernel
theorem dX5_waysOver_41 : decode cX5_waysOver 41 = .ok (.iload_n 3, 1) := by decide +kernel
theorem dX5_waysOver_42 : decode cX5_waysOver 42 = .ok (.if_icmp .ne 25, 3) := by decide +kernel
theorem dX5_waysOver_45 : decode cX5_waysOver 45 = .ok (.lload 4, 2) := by decide +kernel
theorem dX5_waysOver_47 : decode cX5_waysOver 47 = .ok (.aload_n 0, 1) := by decide +kernel
theorem dX5_waysOver_48 : decode cX5_waysOver 48 = .ok (.iload_n 1, 1) := by decide +kernel
theorem dX5_waysOver_49 : decode cX5_waysOver 49 = .ok (.iconst 1, 1) := by decide +kernel
theorem dX5_waysOver_50 : decode cX5_waysOver 50 = .ok (.iadd, 1) := by decide +kernel
theorem dX5_waysOver_51 : decode cX5_waysOver 51 = .ok (.iload 7, 2) := by decide +kernel
theorem dX5_waysOver_53 : decode cX5_waysOver 53 = .ok (.aload_n 0, 1) := by decide +kernel
theorem dX5_waysOver_54 : decode cX5_waysOver 54 = .ok (.getfield 15, 3) := by decide +kernel
theorem dX5_waysOver_57 : decode cX5_waysOver 57 = .ok (.getfield 27, 3) := by decide +kernel
theorem dX5_waysOver_60 : decode cX5_waysOver 60 = .ok (.irem, 1) := by decide +kernel
theorem dX5_waysOver_61 : decode cX5_waysOver 61 = .ok (.invokevirtual 32, 3) := by decide +kernel
theorem dX5_waysOver_64 : decode cX5_waysOver 64 = .ok (.ladd, 1) := by decide +kernel
theorem dX5_waysOver_65 : decode cX5_waysOver 65 = .ok (.lstore 4, 2) := by decide +kernel
theorem dX5_waysOver_67 : decode cX5_waysOver 67 = .ok (.iinc 6 1, 3) := by decide +kernel
theorem dX5_waysOver_70 : decode cX5_waysOver 70 = .ok (.goto (-64), 3) := by decide +kernel
theorem dX5_waysOver_73 : decode cX5_waysOver 73 = .ok (.lload 4, 2) := by decide +kernel
theorem dX5_waysOver_75 : decode cX5_waysOver 75 = .ok (.lreturn, 1) := by decide +kernel
theorem dX5_waysFrom_0 : decode cX5_waysFrom 0 = .ok (.iload_n 1, 1) := by decide +kernel
theorem dX5_waysFrom_1 : decode cX5_waysFrom 1 = .ok (.bipush 9, 2) := by decide +kernel
theorem dX5_waysFrom_3 : decode cX5_waysFrom 3 = .ok (.imul, 1) := by decide +kernel
theorem dX5_waysFrom_4 : decode cX5_waysFrom 4 = .ok (.iload_n 2, 1) := by decide +kernel
theorem dX5_waysFrom_5 : decode cX5_waysFrom 5 = .ok (.iadd, 1) := by decide +kernel
theorem dX5_waysFrom_6 : decode cX5_waysFrom 6 = .ok (.istore_n 3, 1) := by decide +kernel
theorem dX5_waysFrom_7 : decode cX5_waysFrom 7 = .ok (.iload_n 3, 1) := by decide +kernel
theorem dX5_waysFrom_8 : decode cX5_waysFrom 8 = .ok (.ifCond .lt 21, 3) := by decide +kernel
theorem dX5_waysFrom_11 : decode cX5_waysFrom 11 = .ok (.iload_n 3, 1) := by decide +kernel
theorem dX5_waysFrom_12 : decode cX5_waysFrom 12 = .ok (.aload_n 0, 1) := by decide +kernel
theorem dX5_waysFrom_13 : decode cX5_waysFrom 13 = .ok (.getfield 9, 3) := by decide +kernel
theorem dX5_waysFrom_16 : decode cX5_waysFrom 16 = .ok (.arraylength, 1) := by decide +kernel
theorem dX5_waysFrom_17 : decode cX5_waysFrom 17 = .ok (.if_icmp .ge 12, 3) := by decide +kernel
theorem dX5_waysFrom_20 : decode cX5_waysFrom 20 = .ok (.aload_n 0, 1) := by decide +kernel
theorem dX5_waysFrom_21 : decode cX5_waysFrom 21 = .ok (.getfield 9, 3) := by decide +kernel
theorem dX5_waysFrom_24 : decode cX5_waysFrom 24 = .ok (.iload_n 3, 1) := by decide +kernel
theorem dX5_waysFrom_25 : decode cX5_waysFrom 25 = .ok (.laload, 1) := by decide +kernel
theorem dX5_waysFrom_26 : decode cX5_waysFrom 26 = .ok (.goto 4, 3) := by decide +kernel
theorem dX5_waysFrom_29 : decode cX5_waysFrom 29 = .ok (.lconst 0, 1) := by decide +kernel
theorem dX5_waysFrom_30 : decode cX5_waysFrom 30 = .ok (.lreturn, 1) := by decide +kernel
theorem dX5_putWays_0 : decode cX5_putWays 0 = .ok (.iload_n 1, 1) := by decide +kernel
theorem dX5_putWays_1 : decode cX5_putWays 1 = .ok (.bipush 9, 2) := by decide +kernel
theorem dX5_putWays_3 : decode cX5_putWays 3 = .ok (.imul, 1) := by decide +kernel
theorem dX5_putWays_4 : decode cX5_putWays 4 = .ok (.iload_n 2, 1) := by decide +kernel
theorem dX5_putWays_5 : decode cX5_putWays 5 = .ok (.iadd, 1) := by decide +kernel
theorem dX5_putWays_6 : decode cX5_putWays 6 = .ok (.istore 5, 2) := by decide +kernel
theorem dX5_putWays_8 : decode cX5_putWays 8 = .ok (.iload 5, 2) := by decide +kernel
theorem dX5_putWays_10 : decode cX5_putWays 10 = .ok (.ifCond .lt 21, 3) := by decide +kernel
theorem dX5_putWays_13 : decode cX5_putWays 13 = .ok (.iload 5, 2) := by decide +kernel
theorem dX5_putWays_15 : decode cX5_putWays 15 = .ok (.aload_n 0, 1) := by decide +kernel
theorem dX5_putWays_16 : decode cX5_putWays 16 = .ok (.getfield 9, 3) := by decide +kernel
theorem dX5_putWays_19 : decode cX5_putWays 19 = .ok (.arraylength, 1) := by decide +kernel
theorem dX5_putWays_20 : decode cX5_putWays 20 = .ok (.if_icmp .ge 11, 3) := by decide +kernel
theorem dX5_putWays_23 : decode cX5_putWays 23 = .ok (.aload_n 0, 1) := by decide +kernel
theorem dX5_putWays_24 : decode cX5_putWays 24 = .ok (.getfield 9, 3) := by decide +kernel
theorem dX5_putWays_27 : decode cX5_putWays 27 = .ok (.iload 5, 2) := by decide +kernel
theorem dX5_putWays_29 : decode cX5_putWays 29 = .ok (.lload_n 3, 1) := by decide +kernel
theorem dX5_putWays_30 : decode cX5_putWays 30 = .ok (.lastore, 1) := by decide +kernel
theorem dX5_putWays_31 : decode cX5_putWays 31 = .ok (.return_, 1) := by decide +kernel
set_option maxRecDepth 20000 in
theorem ggX6_init_X5_init : GoodIn wsX6_init wsX5_init := goodIn_r _ [26, 27, 2, 3, 28, 29, 58, 59, 60] (by decide +kernel) (by decide +kernel)
set_option maxRecDepth 20000 in
theorem gX6_init_X5_init : GoodIn wsX6_init (wsX5_init) := ggX6_init_X5_init
set_option maxRecDepth 20000 in
theorem ggX6_init_X2_init : GoodIn wsX6_init wsX2_init := goodIn_r _ [32, 33, 2, 3, 6, 34, 35, 36, 37, 61, 62, 63, 64, 65] (by decide +kernel) (by decide +kernel)
set_option maxRecDepth 20000 in
theorem gX6_init_X2_init : GoodIn wsX6_init (wsX2_init) := ggX6_init_X2_init
set_option maxRecDepth 20000 in
theorem ggX6_init_X0_init : GoodIn wsX6_init wsX0_init := goodIn_r _ [40, 41, 2, 3, 42, 43, 66] (by decide +kernel) (by decide +kernel)
set_option maxRecDepth 20000 in
theorem gX6_init_X0_init : GoodIn wsX6_init (wsX0_init) := ggX6_init_X0_init
theorem dX6_init_0 : decode cX6_init 0 = .ok (.aload_n 0, 1) := by decide +kernel
theorem dX6_init_1 : decode cX6_init 1 = .ok (.invokespecial 3, 3) := by decide +kernel
theorem dX6_init_4 : decode cX6_init 4 = .ok (.aload_n 0, 1) := by decide +kernel
theorem dX6_init_5 : decode cX6_init 5 = .ok (.bipush 6, 2) := by decide +kernel
theorem dX6_init_7 : decode cX6_init 7 = .ok (.anewarray 9, 3) := by decide +kernel
theorem dX6_init_10 : decode cX6_init 10 = .ok (.putfield 11, 3) := by decide +kernel
theorem dX6_init_13 : decode cX6_init 13 = .ok (.aload_n 0, 1) := by decide +kernel
theorem dX6_init_14 : decode cX6_init 14 = .ok (.bipush 100, 2) := by decide +kernel
theorem dX6_init_16 : decode cX6_init 16 = .ok (.newarray .int, 2) := by decide +kernel
theorem dX6_init_18 : decode cX6_init 18 = .ok (.putfield 15, 3) := by decide +kernel
theorem dX6_init_21 : decode cX6_init 21 = .ok (.aload_n 0, 1) := by decide +kernel
theorem dX6_init_22 : decode cX6_init 22 = .ok (.sipush 512, 3) := by decide +kernel
theorem dX6_init_25 : decode cX6_init 25 = .ok (.newarray .int, 2) := by decide +kernel
theorem dX6_init_27 : decode cX6_init 27 = .ok (.putfield 19, 3) := by decide +kernel
theorem dX6_init_30 : decode cX6_init 30 = .ok (.aload_n 0, 1) := by decide +kernel
theorem dX6_init_31 : decode cX6_init 31 = .ok (.bipush 100, 2) := by decide +kernel
theorem dX6_init_33 : decode cX6_init 33 = .ok (.newarray .int, 2) := by decide +kernel
theorem dX6_init_35 : decode cX6_init 35 = .ok (.putfield 22, 3) := by decide +kernel
theorem dX6_init_38 : decode cX6_init 38 = .ok (.aload_n 0, 1) := by decide +kernel
theorem dX6_init_39 : decode cX6_init 39 = .ok (.bipush 100, 2) := by decide +kernel
theorem dX6_init_41 : decode cX6_init 41 = .ok (.newarray .int, 2) := by decide +kernel
theorem dX6_init_43 : decode cX6_init 43 = .ok (.putfield 25, 3) := by decide +kernel
theorem dX6_init_46 : decode cX6_init 46 = .ok (.aload_n 0, 1) := by decide +kernel
theorem dX6_init_47 : decode cX6_init 47 = .ok (.bipush 27, 2) := by decide +kernel
theorem dX6_init_49 : decode cX6_init 49 = .ok (.newarray .int, 2) := by decide +kernel
theorem dX6_init_51 : decode cX6_init 51 = .ok (.putfield 28, 3) := by decide +kernel
theorem dX6_init_54 : decode cX6_init 54 = .ok (.aload_n 0, 1) := by decide +kernel
theorem dX6_init_55 : decode cX6_init 55 = .ok (.new 31, 3) := by decide +kernel
theorem dX6_init_58 : decode cX6_init 58 = .ok (.dup, 1) := by decide +kernel
theorem dX6_init_59 : decode cX6_init 59 = .ok (.invokespecial 33, 3) := by decide +kernel
theorem dX6_init_62 : decode cX6_init 62 = .ok (.putfield 34, 3) := by decide +kernel
theorem dX6_init_65 : decode cX6_init 65 = .ok (.aload_n 0, 1) := by decide +kernel
theorem dX6_init_66 : decode cX6_init 66 = .ok (.new 38, 3) := by decide +kernel
theorem dX6_init_69 : decode cX6_init 69 = .ok (.dup, 1) := by decide +kernel
theorem dX6_init_70 : decode cX6_init 70 = .ok (.invokespecial 40, 3) := by decide +kernel
theorem dX6_init_73 : decode cX6_init 73 = .ok (.putfield 41, 3) := by decide +kernel
theorem dX6_init_76 : decode cX6_init 76 = .ok (.aload_n 0, 1) := by decide +kernel
theorem dX6_init_77 : decode cX6_init 77 = .ok (.new 45, 3) := by decide +kernel
theorem dX6_init_80 : decode cX6_init 80 = .ok (.dup, 1) := by decide +kernel
theorem dX6_init_81 : decode cX6_init 81 = .ok (.invokespecial 47, 3) := by decide +kernel
theorem dX6_init_84 : decode cX6_init 84 = .ok (.putfield 48, 3) := by decide +kernel
theorem dX6_init_87 : decode cX6_init 87 = .ok (.return_, 1) := by decide +kernel
set_option maxRecDepth 20000 in
theorem ggX6_feed_X6_putBytes : GoodIn wsX6_feed wsX6_putBytes := goodIn_r _ [6, 1, 7, 8, 9, 10, 11, 12, 13, 14, 15, 16, 17, 18, 19, 20, 21] (by decide +kernel) (by decide +kernel)
set_option maxRecDepth 20000 in
theorem gX6_feed_X6_putBytes : GoodIn wsX6_feed (wsV RX6 56 RX6 yX6_putBytes wsX6_putBytes) := goodIn_app (goodIn_of _ (by decide +kernel)) ggX6_feed_X6_putBytes
theorem dX6_feed_0 : decode cX6_feed 0 = .ok (.aload_n 0, 1) := by decide +kernel
theorem dX6_feed_1 : decode cX6_feed 1 = .ok (.getfield 52, 3) := by decide +kernel
theorem dX6_feed_4 : decode cX6_feed 4 = .ok (.bipush 80, 2) := by decide +kernel
theorem dX6_feed_6 : decode cX6_feed 6 = .ok (.if_icmp .le 5, 3) := by decide +kernel
theorem dX6_feed_9 : decode cX6_feed 9 = .ok (.iconst (-1), 1) := by decide +kernel
theorem dX6_feed_10 : decode cX6_feed 10 = .ok (.ireturn, 1) := by decide +kernel
theorem dX6_feed_11 : decode cX6_feed 11 = .ok (.aload_n 0, 1) := by decide +kernel
theorem dX6_feed_12 : decode cX6_feed 12 = .ok (.iload_n 1, 1) := by decide +kernel
theorem dX6_feed_13 : decode cX6_feed 13 = .ok (.invokevirtual 56, 3) := by decide +kernel
theorem dX6_feed_16 : decode cX6_feed 16 = .ok (.aload_n 0, 1) := by decide +kernel
theorem dX6_feed_17 : decode cX6_feed 17 = .ok (.iload_n 2, 1) := by decide +kernel
theorem dX6_feed_18 : decode cX6_feed 18 = .ok (.invokevirtual 56, 3) := by decide +kernel
theorem dX6_feed_21 : decode cX6_feed 21 = .ok (.aload_n 0, 1) := by decide +kernel
theorem dX6_feed_22 : decode cX6_feed 22 = .ok (.iload_n 3, 1) := by decide +kernel
theorem dX6_feed_23 : decode cX6_feed 23 = .ok (.invokevirtual 56, 3) := by decide +kernel
theorem dX6_feed_26 : decode cX6_feed 26 = .ok (.aload_n 0, 1) := by decide +kernel
theorem dX6_feed_27 : decode cX6_feed 27 = .ok (.iload 4, 2) := by decide +kernel
theorem dX6_feed_29 : decode cX6_feed 29 = .ok (.invokevirtual 56, 3) := by decide +kernel
theorem dX6_feed_32 : decode cX6_feed 32 = .ok (.aload_n 0, 1) := by decide +kernel
theorem dX6_feed_33 : decode cX6_feed 33 = .ok (.iload 5, 2) := by decide +kernel
theorem dX6_feed_35 : decode cX6_feed 35 = .ok (.invokevirtual 56, 3) := by decide +kernel
theorem dX6_feed_38 : decode cX6_feed 38 = .ok (.aload_n 0, 1) := by decide +kernel
theorem dX6_feed_39 : decode cX6_feed 39 = .ok (.getfield 52, 3) := by decide +kernel
theorem dX6_feed_42 : decode cX6_feed 42 = .ok (.ireturn, 1) := by decide +kernel
theorem dX6_end_0 : decode cX6_end 0 = .ok (.iload_n 1, 1) := by decide +kernel
theorem dX6_end_1 : decode cX6_end 1 = .ok (.ifCond .lt 11, 3) := by decide +kernel
theorem dX6_end_4 : decode cX6_end 4 = .ok (.iload_n 1, 1) := by decide +kernel
theorem dX6_end_5 : decode cX6_end 5 = .ok (.aload_n 0, 1) := by decide +kernel
theorem dX6_end_6 : decode cX6_end 6 = .ok (.getfield 52, 3) := by decide +kernel
theorem dX6_end_9 : decode cX6_end 9 = .ok (.if_icmp .le 5, 3) := by decide +kernel
theorem dX6_end_12 : decode cX6_end 12 = .ok (.iconst 0, 1) := by decide +kernel
theorem dX6_end_13 : decode cX6_end 13 = .ok (.ireturn, 1) := by decide +kernel
theorem dX6_end_14 : decode cX6_end 14 = .ok (.aload_n 0, 1) := by decide +kernel
theorem dX6_end_15 : decode cX6_end 15 = .ok (.iload_n 1, 1) := by decide +kernel
theorem dX6_end_16 : decode cX6_end 16 = .ok (.putfield 52, 3) := by decide +kernel
theorem dX6_end_19 : decode cX6_end 19 = .ok (.iconst 1, 1) := by decide +kernel
theorem dX6_end_20 : decode cX6_end 20 = .ok (.ireturn, 1) := by decide +kernel
set_option maxRecDepth 20000 in
theorem ggX6_rule_X6_takeTape : GoodIn wsX6_rule wsX6_takeTape := goodIn_r _ [10, 11, 59, 60, 61, 62, 63, 64, 65, 66, 67, 68, 69, 70, 71, 72] (by decide +kernel) (by decide +kernel)
set_option maxRecDepth 20000 in
theorem gX6_rule_X6_takeTape : GoodIn wsX6_rule (wsV RX6 60 RX6 yX6_takeTape wsX6_takeTape) := goodIn_app (goodIn_of _ (by decide +kernel)) ggX6_rule_X6_takeTape
set_option maxRecDepth 20000 in
theorem ggX6_rule_X6_isSlot : GoodIn wsX6_rule wsX6_isSlot := goodIn_r _ [14] (by decide +kernel) (by decide +kernel)
set_option maxRecDepth 20000 in
theorem gX6_rule_X6_isSlot : GoodIn wsX6_rule (va_wsS RX6 64 yX6_isSlot wsX6_isSlot) := goodIn_app (goodIn_of _ (by decide +kernel)) ggX6_rule_X6_isSlot
set_option maxRecDepth 20000 in
theorem ggX6_rule_X6_mostWidth : GoodIn wsX6_rule wsX6_mostWidth := goodIn_r _ [17, 18] (by decide +kernel) (by decide +kernel)
set_option maxRecDepth 20000 in
theorem gX6_rule_X6_mostWidth : GoodIn wsX6_rule (va_wsS RX6 68 yX6_mostWidth wsX6_mostWidth) := goodIn_app (goodIn_of _ (by decide +kernel)) ggX6_rule_X6_mostWidth
set_option maxRecDepth 20000 in
theorem ggX6_rule_X6_power : GoodIn wsX6_rule wsX6_power := goodIn_r _ [21] (by decide +kernel) (by decide +kernel)
set_option maxRecDepth 20000 in
theorem gX6_rule_X6_power : GoodIn wsX6_rule (va_wsS RX6 72 yX6_power wsX6_power) := goodIn_app (goodIn_of _ (by decide +kernel)) ggX6_rule_X6_power
set_option maxRecDepth 20000 in
theorem ggX6_rule_X6_areStates : GoodIn wsX6_rule wsX6_areStates := goodIn_r _ [25, 5, 59, 60, 61, 62, 63, 64, 65, 66, 67, 68, 69, 70, 71, 72] (by decide +kernel) (by decide +kernel)
set_option maxRecDepth 20000 in
theorem gX6_rule_X6_areStates : GoodIn wsX6_rule (wsV RX6 76 RX6 yX6_areStates wsX6_areStates) := goodIn_app (goodIn_of _ (by decide +kernel)) ggX6_rule_X6_areStates
set_option maxRecDepth 20000 in
theorem ggX6_rule_X1_init : GoodIn wsX6_rule wsX1_init := goodIn_r _ [28, 29, 30, 31, 32, 33, 34, 35, 36, 37, 38, 39, 40, 20, 9, 21, 41, 42, 43, 44, 45, 46, 47, 48, 49, 50, 51, 52, 53, 54, 55, 56, 57, 58, 73, 74, 75, 76, 77] (by decide +kernel) (by decide +kernel)
set_option maxRecDepth 20000 in
theorem gX6_rule_X1_init : GoodIn wsX6_rule (wsX1_init) := ggX6_rule_X1_init
theorem dX6_rule_0 : decode cX6_rule 0 = .ok (.aload_n 0, 1) := by decide +kernel
theorem dX6_rule_1 : decode cX6_rule 1 = .ok (.invokevirtual 60, 3) := by decide +kernel
theorem dX6_rule_4 : decode cX6_rule 4 = .ok (.istore 4, 2) := by decide +kernel
theorem dX6_rule_6 : decode cX6_rule 6 = .ok (.iload_n 1, 1) := by decide +kernel
theorem dX6_rule_7 : decode cX6_rule 7 = .ok (.invokestatic 64, 3) := by decide +kernel
theorem dX6_rule_10 : decode cX6_rule 10 = .ok (.ifCond .eq 16, 3) := by decide +kernel
theorem dX6_rule_13 : decode cX6_rule 13 = .ok (.iload_n 3, 1) := by decide +kernel
theorem dX6_rule_14 : decode cX6_rule 14 = .ok (.iconst 1, 1) := by decide +kernel
theorem dX6_rule_15 : decode cX6_rule 15 = .ok (.if_icmp .lt 11, 3) := by decide +kernel
theorem dX6_rule_18 : decode cX6_rule 18 = .ok (.iload_n 3, 1) := by decide +kernel
theorem dX6_rule_19 : decode cX6_rule 19 = .ok (.iload_n 2, 1) := by decide +kernel
theorem dX6_rule_20 : decode cX6_rule 20 = .ok (.invokestatic 68, 3) := by decide +kernel
theorem dX6_rule_23 : decode cX6_rule 23 = .ok (.if_icmp .le 5, 3) := by decide +kernel
theorem dX6_rule_26 : decode cX6_rule 26 = .ok (.iconst 0, 1) := by decide +kernel
theorem dX6_rule_27 : decode cX6_rule 27 = .ok (.ireturn, 1) := by decide +kernel
theorem dX6_rule_28 : decode cX6_rule 28 = .ok (.iload 4, 2) := by decide +kernel
theorem dX6_rule_30 : decode cX6_rule 30 = .ok (.iload_n 2, 1) := by decide +kernel
theorem dX6_rule_31 : decode cX6_rule 31 = .ok (.iload_n 3, 1) := by decide +kernel
theorem dX6_rule_32 : decode cX6_rule 32 = .ok (.invokestatic 72, 3) := by decide +kernel
theorem dX6_rule_35 : decode cX6_rule 35 = .ok (.if_icmp .ne 13, 3) := by decide +kernel
theorem dX6_rule_38 : decode cX6_rule 38 = .ok (.aload_n 0, 1) := by decide +kernel
theorem dX6_rule_39 : decode cX6_rule 39 = .ok (.iload_n 2, 1) := by decide +kernel
theorem dX6_rule_40 : decode cX6_rule 40 = .ok (.iload 4, 2) := by decide +kernel
theorem dX6_rule_42 : decode cX6_rule 42 = .ok (.invokevirtual 76, 3) := by decide +kernel
theorem dX6_rule_45 : decode cX6_rule 45 = .ok (.ifCond .ne 5, 3) := by decide +kernel
theorem dX6_rule_48 : decode cX6_rule 48 = .ok (.iconst 0, 1) := by decide +kernel
theorem dX6_rule_49 : decode cX6_rule 49 = .ok (.ireturn, 1) := by decide +kernel
theorem dX6_rule_50 : decode cX6_rule 50 = .ok (.aload_n 0, 1) := by decide +kernel
theorem dX6_rule_51 : decode cX6_rule 51 = .ok (.getfield 11, 3) := by decide +kernel
theorem dX6_rule_54 : decode cX6_rule 54 = .ok (.iload_n 1, 1) := by decide +kernel
theorem dX6_rule_55 : decode cX6_rule 55 = .ok (.new 9, 3) := by decide +kernel
theorem dX6_rule_58 : decode cX6_rule 58 = .ok (.dup, 1) := by decide +kernel
theorem dX6_rule_59 : decode cX6_rule 59 = .ok (.iload_n 2, 1) := by decide +kernel
theorem dX6_rule_60 : decode cX6_rule 60 = .ok (.iload_n 3, 1) := by decide +kernel
theorem dX6_rule_61 : decode cX6_rule 61 = .ok (.aload_n 0, 1) := by decide +kernel
theorem dX6_rule_62 : decode cX6_rule 62 = .ok (.getfield 15, 3) := by decide +kernel
theorem dX6_rule_65 : decode cX6_rule 65 = .ok (.invokespecial 80, 3) := by decide +kernel
theorem dX6_rule_68 : decode cX6_rule 68 = .ok (.aastore, 1) := by decide +kernel
theorem dX6_rule_69 : decode cX6_rule 69 = .ok (.iconst 1, 1) := by decide +kernel
theorem dX6_rule_70 : decode cX6_rule 70 = .ok (.ireturn, 1) := by decide +kernel
set_option maxRecDepth 20000 in
theorem ggX6_about_X6_ruleIn : GoodIn wsX6_about wsX6_ruleIn := goodIn_r _ [7, 8, 9, 10, 6, 11, 76, 77, 78, 79, 80, 81, 82, 83, 84, 85, 86, 87, 88, 89] (by decide +kernel) (by decide +kernel)
set_option maxRecDepth 20000 in
theorem gX6_about_X6_ruleIn : GoodIn wsX6_about (wsV RX6 83 RX6 yX6_ruleIn wsX6_ruleIn) := goodIn_app (goodIn_of _ (by decide +kernel)) ggX6_about_X6_ruleIn
set_option maxRecDepth 20000 in
theorem ggX6_about_X2_missesSome : GoodIn wsX6_about wsX2_missesSome := goodIn_r _ [16, 17, 18, 19, 20, 21, 22, 23, 15, 24, 25, 26, 27, 28, 29, 30, 31, 32, 33, 34, 35, 36, 37, 38, 39, 71, 72, 73, 74, 75, 90, 91, 92, 93, 94] (by decide +kernel) (by decide +kernel)
set_option maxRecDepth 20000 in
theorem gX6_about_X2_missesSome : GoodIn wsX6_about (wsV RX6 93 RX2 yX2_missesSome wsX2_missesSome) := goodIn_app (goodIn_of _ (by decide +kernel)) ggX6_about_X2_missesSome
set_option maxRecDepth 20000 in
theorem ggX6_about_X0_losesNothing : GoodIn wsX6_about wsX0_losesNothing := goodIn_r _ [44, 45, 46, 47, 48, 43, 49, 50, 31, 32, 33, 34, 35, 51, 52, 53, 54, 55, 56, 57, 58, 59, 60, 61, 62, 63, 64, 65, 66, 67, 68, 69, 70, 95, 71, 72, 73, 74, 75] (by decide +kernel) (by decide +kernel)
set_option maxRecDepth 20000 in
theorem gX6_about_X0_losesNothing : GoodIn wsX6_about (wsV RX6 97 RX0 yX0_losesNothing wsX0_losesNothing) := goodIn_app (goodIn_of _ (by decide +kernel)) ggX6_about_X0_losesNothing
theorem dX6_about_0 : decode cX6_about 0 = .ok (.aload_n 0, 1) := by decide +kernel
theorem dX6_about_1 : decode cX6_about 1 = .ok (.iload_n 1, 1) := by decide +kernel
theorem dX6_about_2 : decode cX6_about 2 = .ok (.invokevirtual 83, 3) := by decide +kernel
theorem dX6_about_5 : decode cX6_about 5 = .ok (.astore_n 3, 1) := by decide +kernel
theorem dX6_about_6 : decode cX6_about 6 = .ok (.aload_n 3, 1) := by decide +kernel
theorem dX6_about_7 : decode cX6_about 7 = .ok (.ifnonnull 5, 3) := by decide +kernel
theorem dX6_about_10 : decode cX6_about 10 = .ok (.iconst (-1), 1) := by decide +kernel
theorem dX6_about_11 : decode cX6_about 11 = .ok (.ireturn, 1) := by decide +kernel
theorem dX6_about_12 : decode cX6_about 12 = .ok (.iload_n 2, 1) := by decide +kernel
theorem dX6_about_13 : decode cX6_about 13 = .ok (.tableswitch 75 0 3 #[31, 36, 41, 58], 31) := by decide +kernel
theorem dX6_about_44 : decode cX6_about 44 = .ok (.aload_n 3, 1) := by decide +kernel
theorem dX6_about_45 : decode cX6_about 45 = .ok (.getfield 87, 3) := by decide +kernel
theorem dX6_about_48 : decode cX6_about 48 = .ok (.ireturn, 1) := by decide +kernel
theorem dX6_about_49 : decode cX6_about 49 = .ok (.aload_n 3, 1) := by decide +kernel
theorem dX6_about_50 : decode cX6_about 50 = .ok (.getfield 90, 3) := by decide +kernel
theorem dX6_about_53 : decode cX6_about 53 = .ok (.ireturn, 1) := by decide +kernel
theorem dX6_about_54 : decode cX6_about 54 = .ok (.aload_n 0, 1) := by decide +kernel
theorem dX6_about_55 : decode cX6_about 55 = .ok (.getfield 41, 3) := by decide +kernel
theorem dX6_about_58 : decode cX6_about 58 = .ok (.aload_n 3, 1) := by decide +kernel
theorem dX6_about_59 : decode cX6_about 59 = .ok (.invokevirtual 93, 3) := by decide +kernel
theorem dX6_about_62 : decode cX6_about 62 = .ok (.ifCond .eq 7, 3) := by decide +kernel
theorem dX6_about_65 : decode cX6_about 65 = .ok (.iconst 0, 1) := by decide +kernel
theorem dX6_about_66 : decode cX6_about 66 = .ok (.goto 4, 3) := by decide +kernel
theorem dX6_about_69 : decode cX6_about 69 = .ok (.iconst 1, 1) := by decide +kernel
theorem dX6_about_70 : decode cX6_about 70 = .ok (.ireturn, 1) := by decide +kernel
theorem dX6_about_71 : decode cX6_about 71 = .ok (.aload_n 0, 1) := by decide +kernel
theorem dX6_about_72 : decode cX6_about 72 = .ok (.getfield 48, 3) := by decide +kernel
theorem dX6_about_75 : decode cX6_about 75 = .ok (.aload_n 3, 1) := by decide +kernel
theorem dX6_about_76 : decode cX6_about 76 = .ok (.invokevirtual 97, 3) := by decide +kernel
theorem dX6_about_79 : decode cX6_about 79 = .ok (.ifCond .eq 7, 3) := by decide +kernel
theorem dX6_about_82 : decode cX6_about 82 = .ok (.iconst 1, 1) := by decide +kernel
theorem dX6_about_83 : decode cX6_about 83 = .ok (.goto 4, 3) := by decide +kernel
theorem dX6_about_86 : decode cX6_about 86 = .ok (.iconst 0, 1) := by decide +kernel
theorem dX6_about_87 : decode cX6_about 87 = .ok (.ireturn, 1) := by decide +kernel
theorem dX6_about_88 : decode cX6_about 88 = .ok (.iconst (-1), 1) := by decide +kernel
theorem dX6_about_89 : decode cX6_about 89 = .ok (.ireturn, 1) := by decide +kernel
set_option maxRecDepth 20000 in
theorem ggX6_table_X6_ruleIn : GoodIn wsX6_table wsX6_ruleIn := goodIn_r _ [7, 8, 9, 10, 6, 11, 23, 24, 25, 26, 27, 28, 29, 30, 31, 32, 33, 34, 35, 36] (by decide +kernel) (by decide +kernel)
set_option maxRecDepth 20000 in
theorem gX6_table_X6_ruleIn : GoodIn wsX6_table (wsV RX6 83 RX6 yX6_ruleIn wsX6_ruleIn) := goodIn_app (goodIn_of _ (by decide +kernel)) ggX6_table_X6_ruleIn
set_option maxRecDepth 20000 in
theorem ggX6_table_X1_tells : GoodIn wsX6_table wsX1_tells := goodIn_r _ [16, 17, 18, 19, 20, 21, 22] (by decide +kernel) (by decide +kernel)
set_option maxRecDepth 20000 in
theorem gX6_table_X1_tells : GoodIn wsX6_table (wsV RX6 103 RX1 yX1_tells wsX1_tells) := goodIn_app (goodIn_of _ (by decide +kernel)) ggX6_table_X1_tells
theorem dX6_table_0 : decode cX6_table 0 = .ok (.aload_n 0, 1) := by decide +kernel
theorem dX6_table_1 : decode cX6_table 1 = .ok (.iload_n 1, 1) := by decide +kernel
theorem dX6_table_2 : decode cX6_table 2 = .ok (.invokevirtual 83, 3) := by decide +kernel
theorem dX6_table_5 : decode cX6_table 5 = .ok (.astore_n 2, 1) := by decide +kernel
theorem dX6_table_6 : decode cX6_table 6 = .ok (.aload_n 2, 1) := by decide +kernel
theorem dX6_table_7 : decode cX6_table 7 = .ok (.ifnonnull 5, 3) := by decide +kernel
theorem dX6_table_10 : decode cX6_table 10 = .ok (.iconst (-1), 1) := by decide +kernel
theorem dX6_table_11 : decode cX6_table 11 = .ok (.ireturn, 1) := by decide +kernel
theorem dX6_table_12 : decode cX6_table 12 = .ok (.iconst 0, 1) := by decide +kernel
theorem dX6_table_13 : decode cX6_table 13 = .ok (.istore_n 3, 1) := by decide +kernel
theorem dX6_table_14 : decode cX6_table 14 = .ok (.iload_n 3, 1) := by decide +kernel
theorem dX6_table_15 : decode cX6_table 15 = .ok (.aload_n 2, 1) := by decide +kernel
theorem dX6_table_16 : decode cX6_table 16 = .ok (.getfield 100, 3) := by decide +kernel
theorem dX6_table_19 : decode cX6_table 19 = .ok (.if_icmp .ge 29, 3) := by decide +kernel
theorem dX6_table_22 : decode cX6_table 22 = .ok (.iload_n 3, 1) := by decide +kernel
theorem dX6_table_23 : decode cX6_table 23 = .ok (.aload_n 0, 1) := by decide +kernel
theorem dX6_table_24 : decode cX6_table 24 = .ok (.getfield 19, 3) := by decide +kernel
theorem dX6_table_27 : decode cX6_table 27 = .ok (.arraylength, 1) := by decide +kernel
theorem dX6_table_28 : decode cX6_table 28 = .ok (.if_icmp .ge 20, 3) := by decide +kernel
theorem dX6_table_31 : decode cX6_table 31 = .ok (.aload_n 0, 1) := by decide +kernel
theorem dX6_table_32 : decode cX6_table 32 = .ok (.getfield 19, 3) := by decide +kernel
theorem dX6_table_35 : decode cX6_table 35 = .ok (.iload_n 3, 1) := by decide +kernel
theorem dX6_table_36 : decode cX6_table 36 = .ok (.aload_n 2, 1) := by decide +kernel
theorem dX6_table_37 : decode cX6_table 37 = .ok (.iload_n 3, 1) := by decide +kernel
theorem dX6_table_38 : decode cX6_table 38 = .ok (.invokevirtual 103, 3) := by decide +kernel
theorem dX6_table_41 : decode cX6_table 41 = .ok (.iastore, 1) := by decide +kernel
theorem dX6_table_42 : decode cX6_table 42 = .ok (.iinc 3 1, 3) := by decide +kernel
theorem dX6_table_45 : decode cX6_table 45 = .ok (.goto (-31), 3) := by decide +kernel
theorem dX6_table_48 : decode cX6_table 48 = .ok (.aload_n 0, 1) := by decide +kernel
theorem dX6_table_49 : decode cX6_table 49 = .ok (.aload_n 2, 1) := by decide +kernel
theorem dX6_table_50 : decode cX6_table 50 = .ok (.getfield 100, 3) := by decide +kernel
theorem dX6_table_53 : decode cX6_table 53 = .ok (.putfield 106, 3) := by decide +kernel
theorem dX6_table_56 : decode cX6_table 56 = .ok (.aload_n 0, 1) := by decide +kernel
theorem dX6_table_57 : decode cX6_table 57 = .ok (.getfield 106, 3) := by decide +kernel
theorem dX6_table_60 : decode cX6_table 60 = .ok (.ireturn, 1) := by decide +kernel
set_option maxRecDepth 20000 in
theorem ggX6_row_X6_takeTape : GoodIn wsX6_row wsX6_takeTape := goodIn_r _ [8, 9, 40, 41, 42, 43, 44, 45, 46, 47, 48, 49, 50, 51, 52, 53] (by decide +kernel) (by decide +kernel)
set_option maxRecDepth 20000 in
theorem gX6_row_X6_takeTape : GoodIn wsX6_row (wsV RX6 60 RX6 yX6_takeTape wsX6_takeTape) := goodIn_app (goodIn_of _ (by decide +kernel)) ggX6_row_X6_takeTape
set_option maxRecDepth 20000 in
theorem ggX6_row_X6_ruleIn : GoodIn wsX6_row wsX6_ruleIn := goodIn_r _ [13, 14, 15, 16, 7, 17, 40, 41, 42, 43, 44, 45, 46, 47, 48, 49, 50, 51, 52, 53] (by decide +kernel) (by decide +kernel)
set_option maxRecDepth 20000 in
theorem gX6_row_X6_ruleIn : GoodIn wsX6_row (wsV RX6 83 RX6 yX6_ruleIn wsX6_ruleIn) := goodIn_app (goodIn_of _ (by decide +kernel)) ggX6_row_X6_ruleIn
set_option maxRecDepth 20000 in
theorem ggX6_row_X6_areStates : GoodIn wsX6_row wsX6_areStates := goodIn_r _ [21, 2, 40, 41, 42, 43, 44, 45, 46, 47, 48, 49, 50, 51, 52, 53] (by decide +kernel) (by decide +kernel)
set_option maxRecDepth 20000 in
theorem gX6_row_X6_areStates : GoodIn wsX6_row (wsV RX6 76 RX6 yX6_areStates wsX6_areStates) := goodIn_app (goodIn_of _ (by decide +kernel)) ggX6_row_X6_areStates
set_option maxRecDepth 20000 in
theorem ggX6_row_X1_grow : GoodIn wsX6_row wsX1_grow := goodIn_r _ [26, 27, 28, 29, 30, 31, 32, 25, 33, 34, 35, 36, 37, 38, 39] (by decide +kernel) (by decide +kernel)
set_option maxRecDepth 20000 in
theorem gX6_row_X1_grow : GoodIn wsX6_row (wsV RX6 109 RX1 yX1_grow wsX1_grow) := goodIn_app (goodIn_of _ (by decide +kernel)) ggX6_row_X1_grow
theorem dX6_row_0 : decode cX6_row 0 = .ok (.aload_n 0, 1) := by decide +kernel
theorem dX6_row_1 : decode cX6_row 1 = .ok (.invokevirtual 60, 3) := by decide +kernel
theorem dX6_row_4 : decode cX6_row 4 = .ok (.istore_n 2, 1) := by decide +kernel
theorem dX6_row_5 : decode cX6_row 5 = .ok (.aload_n 0, 1) := by decide +kernel
theorem dX6_row_6 : decode cX6_row 6 = .ok (.iload_n 1, 1) := by decide +kernel
theorem dX6_row_7 : decode cX6_row 7 = .ok (.invokevirtual 83, 3) := by decide +kernel
theorem dX6_row_10 : decode cX6_row 10 = .ok (.astore_n 3, 1) := by decide +kernel
theorem dX6_row_11 : decode cX6_row 11 = .ok (.aload_n 3, 1) := by decide +kernel
theorem dX6_row_12 : decode cX6_row 12 = .ok (.ifnull 23, 3) := by decide +kernel
theorem dX6_row_15 : decode cX6_row 15 = .ok (.iload_n 2, 1) := by decide +kernel
theorem dX6_row_16 : decode cX6_row 16 = .ok (.aload_n 3, 1) := by decide +kernel
theorem dX6_row_17 : decode cX6_row 17 = .ok (.getfield 90, 3) := by decide +kernel
theorem dX6_row_20 : decode cX6_row 20 = .ok (.if_icmp .lt 15, 3) := by decide +kernel
theorem dX6_row_23 : decode cX6_row 23 = .ok (.aload_n 0, 1) := by decide +kernel
theorem dX6_row_24 : decode cX6_row 24 = .ok (.aload_n 3, 1) := by decide +kernel
theorem dX6_row_25 : decode cX6_row 25 = .ok (.getfield 87, 3) := by decide +kernel
theorem dX6_row_28 : decode cX6_row 28 = .ok (.iload_n 2, 1) := by decide +kernel
theorem dX6_row_29 : decode cX6_row 29 = .ok (.invokevirtual 76, 3) := by decide +kernel
theorem dX6_row_32 : decode cX6_row 32 = .ok (.ifCond .ne 5, 3) := by decide +kernel
theorem dX6_row_35 : decode cX6_row 35 = .ok (.iconst (-1), 1) := by decide +kernel
theorem dX6_row_36 : decode cX6_row 36 = .ok (.ireturn, 1) := by decide +kernel
theorem dX6_row_37 : decode cX6_row 37 = .ok (.aload_n 0, 1) := by decide +kernel
theorem dX6_row_38 : decode cX6_row 38 = .ok (.iload_n 2, 1) := by decide +kernel
theorem dX6_row_39 : decode cX6_row 39 = .ok (.aload_n 3, 1) := by decide +kernel
theorem dX6_row_40 : decode cX6_row 40 = .ok (.getfield 90, 3) := by decide +kernel
theorem dX6_row_43 : decode cX6_row 43 = .ok (.isub, 1) := by decide +kernel
theorem dX6_row_44 : decode cX6_row 44 = .ok (.iconst 1, 1) := by decide +kernel
theorem dX6_row_45 : decode cX6_row 45 = .ok (.iadd, 1) := by decide +kernel
theorem dX6_row_46 : decode cX6_row 46 = .ok (.putfield 106, 3) := by decide +kernel
theorem dX6_row_49 : decode cX6_row 49 = .ok (.aload_n 3, 1) := by decide +kernel
theorem dX6_row_50 : decode cX6_row 50 = .ok (.aload_n 0, 1) := by decide +kernel
theorem dX6_row_51 : decode cX6_row 51 = .ok (.getfield 15, 3) := by decide +kernel
theorem dX6_row_54 : decode cX6_row 54 = .ok (.iload_n 2, 1) := by decide +kernel
theorem dX6_row_55 : decode cX6_row 55 = .ok (.aload_n 0, 1) := by decide +kernel
theorem dX6_row_56 : decode cX6_row 56 = .ok (.getfield 106, 3) := by decide +kernel
theorem dX6_row_59 : decode cX6_row 59 = .ok (.aload_n 0, 1) := by decide +kernel
theorem dX6_row_60 : decode cX6_row 60 = .ok (.getfield 19, 3) := by decide +kernel
theorem dX6_row_63 : decode cX6_row 63 = .ok (.invokevirtual 109, 3) := by decide +kernel
theorem dX6_row_66 : decode cX6_row 66 = .ok (.pop2, 1) := by decide +kernel
theorem dX6_row_67 : decode cX6_row 67 = .ok (.aload_n 0, 1) := by decide +kernel
theorem dX6_row_68 : decode cX6_row 68 = .ok (.getfield 106, 3) := by decide +kernel
theorem dX6_row_71 : decode cX6_row 71 = .ok (.ireturn, 1) := by decide +kernel
set_option maxRecDepth 20000 in
theorem ggX6_ring_X6_takeTape : GoodIn wsX6_ring wsX6_takeTape := goodIn_r _ [14, 15, 46, 47, 48, 49, 50, 51, 52, 53, 54, 55, 56, 57, 58, 59] (by decide +kernel) (by decide +kernel)
set_option maxRecDepth 20000 in
theorem gX6_ring_X6_takeTape : GoodIn wsX6_ring (wsV RX6 60 RX6 yX6_takeTape wsX6_takeTape) := goodIn_app (goodIn_of _ (by decide +kernel)) ggX6_ring_X6_takeTape
set_option maxRecDepth 20000 in
theorem ggX6_ring_X6_ruleIn : GoodIn wsX6_ring wsX6_ruleIn := goodIn_r _ [19, 20, 21, 22, 13, 23, 46, 47, 48, 49, 50, 51, 52, 53, 54, 55, 56, 57, 58, 59] (by decide +kernel) (by decide +kernel)
set_option maxRecDepth 20000 in
theorem gX6_ring_X6_ruleIn : GoodIn wsX6_ring (wsV RX6 83 RX6 yX6_ruleIn wsX6_ruleIn) := goodIn_app (goodIn_of _ (by decide +kernel)) ggX6_ring_X6_ruleIn
set_option maxRecDepth 20000 in
theorem ggX6_ring_X6_areStates : GoodIn wsX6_ring wsX6_areStates := goodIn_r _ [27, 1, 46, 47, 48, 49, 50, 51, 52, 53, 54, 55, 56, 57, 58, 59] (by decide +kernel) (by decide +kernel)
set_option maxRecDepth 20000 in
theorem gX6_ring_X6_areStates : GoodIn wsX6_ring (wsV RX6 76 RX6 yX6_areStates wsX6_areStates) := goodIn_app (goodIn_of _ (by decide +kernel)) ggX6_ring_X6_areStates
set_option maxRecDepth 20000 in
theorem ggX6_ring_X1_grow : GoodIn wsX6_ring wsX1_grow := goodIn_r _ [32, 33, 34, 35, 36, 37, 38, 31, 39, 40, 41, 42, 43, 44, 45] (by decide +kernel) (by decide +kernel)
set_option maxRecDepth 20000 in
theorem gX6_ring_X1_grow : GoodIn wsX6_ring (wsV RX6 109 RX1 yX1_grow wsX1_grow) := goodIn_app (goodIn_of _ (by decide +kernel)) ggX6_ring_X1_grow
theorem dX6_ring_0 : decode cX6_ring 0 = .ok (.aload_n 0, 1) := by decide +kernel
theorem dX6_ring_1 : decode cX6_ring 1 = .ok (.invokevirtual 60, 3) := by decide +kernel
theorem dX6_ring_4 : decode cX6_ring 4 = .ok (.istore_n 3, 1) := by decide +kernel
theorem dX6_ring_5 : decode cX6_ring 5 = .ok (.aload_n 0, 1) := by decide +kernel
theorem dX6_ring_6 : decode cX6_ring 6 = .ok (.iload_n 1, 1) := by decide +kernel
theorem dX6_ring_7 : decode cX6_ring 7 = .ok (.invokevirtual 83, 3) := by decide +kernel
theorem dX6_ring_10 : decode cX6_ring 10 = .ok (.astore 4, 2) := by decide +kernel
theorem dX6_ring_12 : decode cX6_ring 12 = .ok (.aload 4, 2) := by decide +kernel
theorem dX6_ring_14 : decode cX6_ring 14 = .ok (.ifnull 32, 3) := by decide +kernel
theorem dX6_ring_17 : decode cX6_ring 17 = .ok (.iload_n 2, 1) := by decide +kernel
theorem dX6_ring_18 : decode cX6_ring 18 = .ok (.ifCond .lt 28, 3) := by decide +kernel
theorem dX6_ring_21 : decode cX6_ring 21 = .ok (.iload_n 2, 1) := by decide +kernel
theorem dX6_ring_22 : decode cX6_ring 22 = .ok (.sipush 1000, 3) := by decide +kernel
theorem dX6_ring_25 : decode cX6_ring 25 = .ok (.if_icmp .gt 21, 3) := by decide +kernel
theorem dX6_ring_28 : decode cX6_ring 28 = .ok (.iload_n 3, 1) := by decide +kernel
theorem dX6_ring_29 : decode cX6_ring 29 = .ok (.iconst 1, 1) := by decide +kernel
theorem dX6_ring_30 : decode cX6_ring 30 = .ok (.if_icmp .lt 16, 3) := by decide +kernel
theorem dX6_ring_33 : decode cX6_ring 33 = .ok (.aload_n 0, 1) := by decide +kernel
theorem dX6_ring_34 : decode cX6_ring 34 = .ok (.aload 4, 2) := by decide +kernel
theorem dX6_ring_36 : decode cX6_ring 36 = .ok (.getfield 87, 3) := by decide +kernel
theorem dX6_ring_39 : decode cX6_ring 39 = .ok (.iload_n 3, 1) := by decide +kernel
theorem dX6_ring_40 : decode cX6_ring 40 = .ok (.invokevirtual 76, 3) := by decide +kernel
theorem dX6_ring_43 : decode cX6_ring 43 = .ok (.ifCond .ne 5, 3) := by decide +kernel
theorem dX6_ring_46 : decode cX6_ring 46 = .ok (.iconst (-1), 1) := by decide +kernel
theorem dX6_ring_47 : decode cX6_ring 47 = .ok (.ireturn, 1) := by decide +kernel
theorem dX6_ring_48 : decode cX6_ring 48 = .ok (.aload_n 0, 1) := by decide +kernel
theorem dX6_ring_49 : decode cX6_ring 49 = .ok (.getfield 15, 3) := by decide +kernel
theorem dX6_ring_52 : decode cX6_ring 52 = .ok (.iconst 0, 1) := by decide +kernel
theorem dX6_ring_53 : decode cX6_ring 53 = .ok (.aload_n 0, 1) := by decide +kernel
theorem dX6_ring_54 : decode cX6_ring 54 = .ok (.getfield 22, 3) := by decide +kernel
theorem dX6_ring_57 : decode cX6_ring 57 = .ok (.iconst 0, 1) := by decide +kernel
theorem dX6_ring_58 : decode cX6_ring 58 = .ok (.iload_n 3, 1) := by decide +kernel
theorem dX6_ring_59 : decode cX6_ring 59 = .ok (.invokestatic 113, 3) := by decide +kernel
theorem dX6_ring_62 : decode cX6_ring 62 = .ok (.iconst 0, 1) := by decide +kernel
theorem dX6_ring_63 : decode cX6_ring 63 = .ok (.istore 5, 2) := by decide +kernel
theorem dX6_ring_65 : decode cX6_ring 65 = .ok (.iload 5, 2) := by decide +kernel
theorem dX6_ring_67 : decode cX6_ring 67 = .ok (.iload_n 2, 1) := by decide +kernel
theorem dX6_ring_68 : decode cX6_ring 68 = .ok (.if_icmp .ge 45, 3) := by decide +kernel
theorem dX6_ring_71 : decode cX6_ring 71 = .ok (.aload 4, 2) := by decide +kernel
theorem dX6_ring_73 : decode cX6_ring 73 = .ok (.aload_n 0, 1) := by decide +kernel
theorem dX6_ring_74 : decode cX6_ring 74 = .ok (.getfield 22, 3) := by decide +kernel
theorem dX6_ring_77 : decode cX6_ring 77 = .ok (.iload_n 3, 1) := by decide +kernel
theorem dX6_ring_78 : decode cX6_ring 78 = .ok (.iload_n 3, 1) := by decide +kernel
theorem dX6_ring_79 : decode cX6_ring 79 = .ok (.aload_n 0, 1) := by decide +kernel
theorem dX6_ring_80 : decode cX6_ring 80 = .ok (.getfield 25, 3) := by decide +kernel
theorem dX6_ring_83 : decode cX6_ring 83 = .ok (.invokevirtual 109, 3) := by decide +kernel
theorem dX6_ring_86 : decode cX6_ring 86 = .ok (.pop2, 1) := by decide +kernel
theorem dX6_ring_87 : decode cX6_ring 87 = .ok (.aload_n 0, 1) := by decide +kernel
theorem dX6_ring_88 : decode cX6_ring 88 = .ok (.getfield 25, 3) := by decide +kernel
theorem dX6_ring_91 : decode cX6_ring 91 = .ok (.astore 6, 2) := by decide +kernel
theorem dX6_ring_93 : decode cX6_ring 93 = .ok (.aload_n 0, 1) := by decide +kernel
theorem dX6_ring_94 : decode cX6_ring 94 = .ok (.aload_n 0, 1) := by decide +kernel
theorem dX6_ring_95 : decode cX6_ring 95 = .ok (.getfield 22, 3) := by decide +kernel
theorem dX6_ring_98 : decode cX6_ring 98 = .ok (.putfield 25, 3) := by decide +kernel
theorem dX6_ring_101 : decode cX6_ring 101 = .ok (.aload_n 0, 1) := by decide +kernel
theorem dX6_ring_102 : decode cX6_ring 102 = .ok (.aload 6, 2) := by decide +kernel
theorem dX6_ring_104 : decode cX6_ring 104 = .ok (.putfield 22, 3) := by decide +kernel
theorem dX6_ring_107 : decode cX6_ring 107 = .ok (.iinc 5 1, 3) := by decide +kernel
theorem dX6_ring_110 : decode cX6_ring 110 = .ok (.goto (-45), 3) := by decide +kernel
theorem dX6_ring_113 : decode cX6_ring 113 = .ok (.aload_n 0, 1) := by decide +kernel
theorem dX6_ring_114 : decode cX6_ring 114 = .ok (.getfield 22, 3) := by decide +kernel
theorem dX6_ring_117 : decode cX6_ring 117 = .ok (.iconst 0, 1) := by decide +kernel
theorem dX6_ring_118 : decode cX6_ring 118 = .ok (.aload_n 0, 1) := by decide +kernel
theorem dX6_ring_119 : decode cX6_ring 119 = .ok (.getfield 19, 3) := by decide +kernel
theorem dX6_ring_122 : decode cX6_ring 122 = .ok (.iconst 0, 1) := by decide +kernel
theorem dX6_ring_123 : decode cX6_ring 123 = .ok (.iload_n 3, 1) := by decide +kernel
theorem dX6_ring_124 : decode cX6_ring 124 = .ok (.invokestatic 113, 3) := by decide +kernel
theorem dX6_ring_127 : decode cX6_ring 127 = .ok (.aload_n 0, 1) := by decide +kernel
theorem dX6_ring_128 : decode cX6_ring 128 = .ok (.iload_n 3, 1) := by decide +kernel
theorem dX6_ring_129 : decode cX6_ring 129 = .ok (.putfield 106, 3) := by decide +kernel
theorem dX6_ring_132 : decode cX6_ring 132 = .ok (.aload_n 0, 1) := by decide +kernel
theorem dX6_ring_133 : decode cX6_ring 133 = .ok (.getfield 106, 3) := by decide +kernel
theorem dX6_ring_136 : decode cX6_ring 136 = .ok (.ireturn, 1) := by decide +kernel
set_option maxRecDepth 20000 in
theorem ggX6_behind_X6_takeTape : GoodIn wsX6_behind wsX6_takeTape := goodIn_r _ [10, 11, 81, 82, 83, 84, 85, 86, 87, 88, 89, 90, 91, 92, 93, 94] (by decide +kernel) (by decide +kernel)
set_option maxRecDepth 20000 in
theorem gX6_behind_X6_takeTape : GoodIn wsX6_behind (wsV RX6 60 RX6 yX6_takeTape wsX6_takeTape) := goodIn_app (goodIn_of _ (by decide +kernel)) ggX6_behind_X6_takeTape
set_option maxRecDepth 20000 in
theorem ggX6_behind_X6_ruleIn : GoodIn wsX6_behind wsX6_ruleIn := goodIn_r _ [15, 16, 17, 18, 9, 19, 81, 82, 83, 84, 85, 86, 87, 88, 89, 90, 91, 92, 93, 94] (by decide +kernel) (by decide +kernel)
set_option maxRecDepth 20000 in
theorem gX6_behind_X6_ruleIn : GoodIn wsX6_behind (wsV RX6 83 RX6 yX6_ruleIn wsX6_ruleIn) := goodIn_app (goodIn_of _ (by decide +kernel)) ggX6_behind_X6_ruleIn
set_option maxRecDepth 20000 in
theorem ggX6_behind_X6_areFewStates : GoodIn wsX6_behind wsX6_areFewStates := goodIn_r _ [23, 24, 25, 26, 9, 27, 3, 81, 82, 83, 84, 85, 86, 87, 88, 89, 90, 91, 92, 93, 94] (by decide +kernel) (by decide +kernel)
set_option maxRecDepth 20000 in
theorem gX6_behind_X6_areFewStates : GoodIn wsX6_behind (wsV RX6 119 RX6 yX6_areFewStates wsX6_areFewStates) := goodIn_app (goodIn_of _ (by decide +kernel)) ggX6_behind_X6_areFewStates
set_option maxRecDepth 20000 in
theorem ggX6_behind_X5_rowsBehind : GoodIn wsX6_behind wsX5_rowsBehind := goodIn_r _ [32, 33, 34, 35, 36, 37, 31, 38, 39, 40, 41, 42, 43, 44, 45, 46, 47, 48, 49, 50, 51, 52, 53, 54, 55, 56, 57, 58, 59, 60, 61, 95, 96, 97, 76, 77, 78, 79, 80] (by decide +kernel) (by decide +kernel)
set_option maxRecDepth 20000 in
theorem gX6_behind_X5_rowsBehind : GoodIn wsX6_behind (wsV RX6 124 RX5 yX5_rowsBehind wsX5_rowsBehind) := goodIn_app (goodIn_of _ (by decide +kernel)) ggX6_behind_X5_rowsBehind
set_option maxRecDepth 20000 in
theorem ggX6_behind_X5_writeFirst : GoodIn wsX6_behind wsX5_writeFirst := goodIn_r _ [65, 33, 34, 66, 67, 68, 55, 69, 70, 40, 41, 42, 71, 72, 73, 74, 31, 75, 52, 53, 54, 56, 57, 58, 59, 60, 61, 47, 95, 96, 97, 76, 77, 78, 79, 80] (by decide +kernel) (by decide +kernel)
set_option maxRecDepth 20000 in
theorem gX6_behind_X5_writeFirst : GoodIn wsX6_behind (wsV RX6 128 RX5 yX5_writeFirst wsX5_writeFirst) := goodIn_app (goodIn_of _ (by decide +kernel)) ggX6_behind_X5_writeFirst
theorem dX6_behind_0 : decode cX6_behind 0 = .ok (.aload_n 0, 1) := by decide +kernel
theorem dX6_behind_1 : decode cX6_behind 1 = .ok (.invokevirtual 60, 3) := by decide +kernel
theorem dX6_behind_4 : decode cX6_behind 4 = .ok (.istore_n 2, 1) := by decide +kernel
theorem dX6_behind_5 : decode cX6_behind 5 = .ok (.aload_n 0, 1) := by decide +kernel
theorem dX6_behind_6 : decode cX6_behind 6 = .ok (.iload_n 1, 1) := by decide +kernel
theorem dX6_behind_7 : decode cX6_behind 7 = .ok (.invokevirtual 83, 3) := by decide +kernel
theorem dX6_behind_10 : decode cX6_behind 10 = .ok (.astore_n 3, 1) := by decide +kernel
theorem dX6_behind_11 : decode cX6_behind 11 = .ok (.aload_n 3, 1) := by decide +kernel
theorem dX6_behind_12 : decode cX6_behind 12 = .ok (.ifnull 15, 3) := by decide +kernel
theorem dX6_behind_15 : decode cX6_behind 15 = .ok (.aload_n 0, 1) := by decide +kernel
theorem dX6_behind_16 : decode cX6_behind 16 = .ok (.aload_n 3, 1) := by decide +kernel
theorem dX6_behind_17 : decode cX6_behind 17 = .ok (.getfield 87, 3) := by decide +kernel
theorem dX6_behind_20 : decode cX6_behind 20 = .ok (.iload_n 2, 1) := by decide +kernel
theorem dX6_behind_21 : decode cX6_behind 21 = .ok (.invokevirtual 119, 3) := by decide +kernel
theorem dX6_behind_24 : decode cX6_behind 24 = .ok (.ifCond .ne 7, 3) := by decide +kernel
theorem dX6_behind_27 : decode cX6_behind 27 = .ok (.ldc2_w 122, 3) := by decide +kernel
theorem dX6_behind_30 : decode cX6_behind 30 = .ok (.lreturn, 1) := by decide +kernel
theorem dX6_behind_31 : decode cX6_behind 31 = .ok (.aload_n 0, 1) := by decide +kernel
theorem dX6_behind_32 : decode cX6_behind 32 = .ok (.getfield 34, 3) := by decide +kernel
theorem dX6_behind_35 : decode cX6_behind 35 = .ok (.aload_n 3, 1) := by decide +kernel
theorem dX6_behind_36 : decode cX6_behind 36 = .ok (.aload_n 0, 1) := by decide +kernel
theorem dX6_behind_37 : decode cX6_behind 37 = .ok (.getfield 15, 3) := by decide +kernel
theorem dX6_behind_40 : decode cX6_behind 40 = .ok (.iload_n 2, 1) := by decide +kernel
theorem dX6_behind_41 : decode cX6_behind 41 = .ok (.invokevirtual 124, 3) := by decide +kernel
theorem dX6_behind_44 : decode cX6_behind 44 = .ok (.lstore 4, 2) := by decide +kernel
theorem dX6_behind_46 : decode cX6_behind 46 = .ok (.lload 4, 2) := by decide +kernel
theorem dX6_behind_48 : decode cX6_behind 48 = .ok (.lconst 0, 1) := by decide +kernel
theorem dX6_behind_49 : decode cX6_behind 49 = .ok (.lcmp, 1) := by decide +kernel
theorem dX6_behind_50 : decode cX6_behind 50 = .ok (.ifCond .le 23, 3) := by decide +kernel
theorem dX6_behind_53 : decode cX6_behind 53 = .ok (.aload_n 0, 1) := by decide +kernel
theorem dX6_behind_54 : decode cX6_behind 54 = .ok (.aload_n 0, 1) := by decide +kernel
theorem dX6_behind_55 : decode cX6_behind 55 = .ok (.getfield 34, 3) := by decide +kernel
theorem dX6_behind_58 : decode cX6_behind 58 = .ok (.aload_n 0, 1) := by decide +kernel
theorem dX6_behind_59 : decode cX6_behind 59 = .ok (.getfield 15, 3) := by decide +kernel
theorem dX6_behind_62 : decode cX6_behind 62 = .ok (.iload_n 2, 1) := by decide +kernel
theorem dX6_behind_63 : decode cX6_behind 63 = .ok (.aload_n 0, 1) := by decide +kernel
theorem dX6_behind_64 : decode cX6_behind 64 = .ok (.getfield 19, 3) := by decide +kernel
theorem dX6_behind_67 : decode cX6_behind 67 = .ok (.invokevirtual 128, 3) := by decide +kernel
theorem dX6_behind_70 : decode cX6_behind 70 = .ok (.putfield 106, 3) := by decide +kernel
theorem dX6_behind_73 : decode cX6_behind 73 = .ok (.lload 4, 2) := by decide +kernel
theorem dX6_behind_75 : decode cX6_behind 75 = .ok (.lreturn, 1) := by decide +kernel
set_option maxRecDepth 20000 in
theorem ggX6_ringsBehind_X6_takeTape : GoodIn wsX6_ringsBehind wsX6_takeTape := goodIn_r _ [10, 11, 81, 82, 83, 84, 85, 86, 87, 88, 89, 90, 91, 92, 93, 94] (by decide +kernel) (by decide +kernel)
set_option maxRecDepth 20000 in
theorem gX6_ringsBehind_X6_takeTape : GoodIn wsX6_ringsBehind (wsV RX6 60 RX6 yX6_takeTape wsX6_takeTape) := goodIn_app (goodIn_of _ (by decide +kernel)) ggX6_ringsBehind_X6_takeTape
set_option maxRecDepth 20000 in
theorem ggX6_ringsBehind_X6_ruleIn : GoodIn wsX6_ringsBehind wsX6_ruleIn := goodIn_r _ [15, 16, 17, 18, 9, 19, 81, 82, 83, 84, 85, 86, 87, 88, 89, 90, 91, 92, 93, 94] (by decide +kernel) (by decide +kernel)
set_option maxRecDepth 20000 in
theorem gX6_ringsBehind_X6_ruleIn : GoodIn wsX6_ringsBehind (wsV RX6 83 RX6 yX6_ruleIn wsX6_ruleIn) := goodIn_app (goodIn_of _ (by decide +kernel)) ggX6_ringsBehind_X6_ruleIn
set_option maxRecDepth 20000 in
theorem ggX6_ringsBehind_X6_areFewStates : GoodIn wsX6_ringsBehind wsX6_areFewStates := goodIn_r _ [23, 24, 25, 26, 9, 27, 3, 81, 82, 83, 84, 85, 86, 87, 88, 89, 90, 91, 92, 93, 94] (by decide +kernel) (by decide +kernel)
set_option maxRecDepth 20000 in
theorem gX6_ringsBehind_X6_areFewStates : GoodIn wsX6_ringsBehind (wsV RX6 119 RX6 yX6_areFewStates wsX6_areFewStates) := goodIn_app (goodIn_of _ (by decide +kernel)) ggX6_ringsBehind_X6_areFewStates
set_option maxRecDepth 20000 in
theorem ggX6_ringsBehind_X5_closedBehind : GoodIn wsX6_ringsBehind wsX5_closedBehind := goodIn_r _ [32, 33, 34, 35, 36, 37, 31, 38, 39, 40, 41, 42, 43, 44, 45, 46, 47, 48, 49, 50, 51, 52, 53, 54, 55, 56, 57, 58, 59, 60, 61, 95, 96, 97, 76, 77, 78, 79, 80] (by decide +kernel) (by decide +kernel)
set_option maxRecDepth 20000 in
theorem gX6_ringsBehind_X5_closedBehind : GoodIn wsX6_ringsBehind (wsV RX6 132 RX5 yX5_closedBehind wsX5_closedBehind) := goodIn_app (goodIn_of _ (by decide +kernel)) ggX6_ringsBehind_X5_closedBehind
set_option maxRecDepth 20000 in
theorem ggX6_ringsBehind_X5_writeFirst : GoodIn wsX6_ringsBehind wsX5_writeFirst := goodIn_r _ [65, 33, 34, 66, 67, 68, 55, 69, 70, 40, 41, 42, 71, 72, 73, 74, 31, 75, 52, 53, 54, 56, 57, 58, 59, 60, 61, 47, 95, 96, 97, 76, 77, 78, 79, 80] (by decide +kernel) (by decide +kernel)
set_option maxRecDepth 20000 in
theorem gX6_ringsBehind_X5_writeFirst : GoodIn wsX6_ringsBehind (wsV RX6 128 RX5 yX5_writeFirst wsX5_writeFirst) := goodIn_app (goodIn_of _ (by decide +kernel)) ggX6_ringsBehind_X5_writeFirst
theorem dX6_ringsBehind_0 : decode cX6_ringsBehind 0 = .ok (.aload_n 0, 1) := by decide +kernel
theorem dX6_ringsBehind_1 : decode cX6_ringsBehind 1 = .ok (.invokevirtual 60, 3) := by decide +kernel
theorem dX6_ringsBehind_4 : decode cX6_ringsBehind 4 = .ok (.istore_n 2, 1) := by decide +kernel
theorem dX6_ringsBehind_5 : decode cX6_ringsBehind 5 = .ok (.aload_n 0, 1) := by decide +kernel
theorem dX6_ringsBehind_6 : decode cX6_ringsBehind 6 = .ok (.iload_n 1, 1) := by decide +kernel
theorem dX6_ringsBehind_7 : decode cX6_ringsBehind 7 = .ok (.invokevirtual 83, 3) := by decide +kernel
theorem dX6_ringsBehind_10 : decode cX6_ringsBehind 10 = .ok (.astore_n 3, 1) := by decide +kernel
theorem dX6_ringsBehind_11 : decode cX6_ringsBehind 11 = .ok (.aload_n 3, 1) := by decide +kernel
theorem dX6_ringsBehind_12 : decode cX6_ringsBehind 12 = .ok (.ifnull 15, 3) := by decide +kernel
theorem dX6_ringsBehind_15 : decode cX6_ringsBehind 15 = .ok (.aload_n 0, 1) := by decide +kernel
theorem dX6_ringsBehind_16 : decode cX6_ringsBehind 16 = .ok (.aload_n 3, 1) := by decide +kernel
theorem dX6_ringsBehind_17 : decode cX6_ringsBehind 17 = .ok (.getfield 87, 3) := by decide +kernel
theorem dX6_ringsBehind_20 : decode cX6_ringsBehind 20 = .ok (.iload_n 2, 1) := by decide +kernel
theorem dX6_ringsBehind_21 : decode cX6_ringsBehind 21 = .ok (.invokevirtual 119, 3) := by decide +kernel
theorem dX6_ringsBehind_24 : decode cX6_ringsBehind 24 = .ok (.ifCond .ne 7, 3) := by decide +kernel
theorem dX6_ringsBehind_27 : decode cX6_ringsBehind 27 = .ok (.ldc2_w 122, 3) := by decide +kernel
theorem dX6_ringsBehind_30 : decode cX6_ringsBehind 30 = .ok (.lreturn, 1) := by decide +kernel
theorem dX6_ringsBehind_31 : decode cX6_ringsBehind 31 = .ok (.aload_n 0, 1) := by decide +kernel
theorem dX6_ringsBehind_32 : decode cX6_ringsBehind 32 = .ok (.getfield 34, 3) := by decide +kernel
theorem dX6_ringsBehind_35 : decode cX6_ringsBehind 35 = .ok (.aload_n 3, 1) := by decide +kernel
theorem dX6_ringsBehind_36 : decode cX6_ringsBehind 36 = .ok (.aload_n 0, 1) := by decide +kernel
theorem dX6_ringsBehind_37 : decode cX6_ringsBehind 37 = .ok (.getfield 15, 3) := by decide +kernel
theorem dX6_ringsBehind_40 : decode cX6_ringsBehind 40 = .ok (.iload_n 2, 1) := by decide +kernel
theorem dX6_ringsBehind_41 : decode cX6_ringsBehind 41 = .ok (.invokevirtual 132, 3) := by decide +kernel
theorem dX6_ringsBehind_44 : decode cX6_ringsBehind 44 = .ok (.lstore 4, 2) := by decide +kernel
theorem dX6_ringsBehind_46 : decode cX6_ringsBehind 46 = .ok (.lload 4, 2) := by decide +kernel
theorem dX6_ringsBehind_48 : decode cX6_ringsBehind 48 = .ok (.lconst 0, 1) := by decide +kernel
theorem dX6_ringsBehind_49 : decode cX6_ringsBehind 49 = .ok (.lcmp, 1) := by decide +kernel
theorem dX6_ringsBehind_50 : decode cX6_ringsBehind 50 = .ok (.ifCond .le 25, 3) := by decide +kernel
theorem dX6_ringsBehind_53 : decode cX6_ringsBehind 53 = .ok (.aload_n 0, 1) := by decide +kernel
theorem dX6_ringsBehind_54 : decode cX6_ringsBehind 54 = .ok (.getfield 34, 3) := by decide +kernel
theorem dX6_ringsBehind_57 : decode cX6_ringsBehind 57 = .ok (.aload_n 0, 1) := by decide +kernel
theorem dX6_ringsBehind_58 : decode cX6_ringsBehind 58 = .ok (.getfield 15, 3) := by decide +kernel
theorem dX6_ringsBehind_61 : decode cX6_ringsBehind 61 = .ok (.iload_n 2, 1) := by decide +kernel
theorem dX6_ringsBehind_62 : decode cX6_ringsBehind 62 = .ok (.aload_n 0, 1) := by decide +kernel
theorem dX6_ringsBehind_63 : decode cX6_ringsBehind 63 = .ok (.getfield 19, 3) := by decide +kernel
theorem dX6_ringsBehind_66 : decode cX6_ringsBehind 66 = .ok (.invokevirtual 128, 3) := by decide +kernel
theorem dX6_ringsBehind_69 : decode cX6_ringsBehind 69 = .ok (.pop, 1) := by decide +kernel
theorem dX6_ringsBehind_70 : decode cX6_ringsBehind 70 = .ok (.aload_n 0, 1) := by decide +kernel
theorem dX6_ringsBehind_71 : decode cX6_ringsBehind 71 = .ok (.iload_n 2, 1) := by decide +kernel
theorem dX6_ringsBehind_72 : decode cX6_ringsBehind 72 = .ok (.putfield 106, 3) := by decide +kernel
theorem dX6_ringsBehind_75 : decode cX6_ringsBehind 75 = .ok (.lload 4, 2) := by decide +kernel
theorem dX6_ringsBehind_77 : decode cX6_ringsBehind 77 = .ok (.lreturn, 1) := by decide +kernel
set_option maxRecDepth 20000 in
theorem ggX6_missed_X6_ruleIn : GoodIn wsX6_missed wsX6_ruleIn := goodIn_r _ [8, 9, 10, 11, 7, 12, 53, 54, 55, 56, 57, 58, 59, 60, 61, 62, 63, 64, 65, 66] (by decide +kernel) (by decide +kernel)
set_option maxRecDepth 20000 in
theorem gX6_missed_X6_ruleIn : GoodIn wsX6_missed (wsV RX6 83 RX6 yX6_ruleIn wsX6_ruleIn) := goodIn_app (goodIn_of _ (by decide +kernel)) ggX6_missed_X6_ruleIn
set_option maxRecDepth 20000 in
theorem ggX6_missed_X2_missesSome : GoodIn wsX6_missed wsX2_missesSome := goodIn_r _ [17, 18, 19, 20, 21, 22, 23, 24, 16, 25, 26, 27, 28, 29, 30, 31, 32, 33, 34, 35, 36, 37, 38, 39, 40, 67, 68, 69, 70, 71, 72, 73, 74, 75, 76] (by decide +kernel) (by decide +kernel)
set_option maxRecDepth 20000 in
theorem gX6_missed_X2_missesSome : GoodIn wsX6_missed (wsV RX6 93 RX2 yX2_missesSome wsX2_missesSome) := goodIn_app (goodIn_of _ (by decide +kernel)) ggX6_missed_X2_missesSome
set_option maxRecDepth 20000 in
theorem ggX6_missed_X2_writeMissed : GoodIn wsX6_missed wsX2_writeMissed := goodIn_r _ [44, 18, 45, 46, 47, 48, 21, 49, 50, 51, 16, 52, 19, 72, 73, 74, 75, 76] (by decide +kernel) (by decide +kernel)
set_option maxRecDepth 20000 in
theorem gX6_missed_X2_writeMissed : GoodIn wsX6_missed (wsV RX6 135 RX2 yX2_writeMissed wsX2_writeMissed) := goodIn_app (goodIn_of _ (by decide +kernel)) ggX6_missed_X2_writeMissed
theorem dX6_missed_0 : decode cX6_missed 0 = .ok (.aload_n 0, 1) := by decide +kernel
theorem dX6_missed_1 : decode cX6_missed 1 = .ok (.iload_n 1, 1) := by decide +kernel
theorem dX6_missed_2 : decode cX6_missed 2 = .ok (.invokevirtual 83, 3) := by decide +kernel
theorem dX6_missed_5 : decode cX6_missed 5 = .ok (.astore_n 2, 1) := by decide +kernel
theorem dX6_missed_6 : decode cX6_missed 6 = .ok (.aload_n 2, 1) := by decide +kernel
theorem dX6_missed_7 : decode cX6_missed 7 = .ok (.ifnonnull 5, 3) := by decide +kernel
theorem dX6_missed_10 : decode cX6_missed 10 = .ok (.iconst (-1), 1) := by decide +kernel
theorem dX6_missed_11 : decode cX6_missed 11 = .ok (.ireturn, 1) := by decide +kernel
theorem dX6_missed_12 : decode cX6_missed 12 = .ok (.aload_n 0, 1) := by decide +kernel
theorem dX6_missed_13 : decode cX6_missed 13 = .ok (.getfield 41, 3) := by decide +kernel
theorem dX6_missed_16 : decode cX6_missed 16 = .ok (.aload_n 2, 1) := by decide +kernel
theorem dX6_missed_17 : decode cX6_missed 17 = .ok (.invokevirtual 93, 3) := by decide +kernel
theorem dX6_missed_20 : decode cX6_missed 20 = .ok (.ifCond .ne 5, 3) := by decide +kernel
theorem dX6_missed_23 : decode cX6_missed 23 = .ok (.iconst 0, 1) := by decide +kernel
theorem dX6_missed_24 : decode cX6_missed 24 = .ok (.ireturn, 1) := by decide +kernel
theorem dX6_missed_25 : decode cX6_missed 25 = .ok (.aload_n 0, 1) := by decide +kernel
theorem dX6_missed_26 : decode cX6_missed 26 = .ok (.aload_n 0, 1) := by decide +kernel
theorem dX6_missed_27 : decode cX6_missed 27 = .ok (.getfield 41, 3) := by decide +kernel
theorem dX6_missed_30 : decode cX6_missed 30 = .ok (.aload_n 0, 1) := by decide +kernel
theorem dX6_missed_31 : decode cX6_missed 31 = .ok (.getfield 19, 3) := by decide +kernel
theorem dX6_missed_34 : decode cX6_missed 34 = .ok (.invokevirtual 135, 3) := by decide +kernel
theorem dX6_missed_37 : decode cX6_missed 37 = .ok (.putfield 106, 3) := by decide +kernel
theorem dX6_missed_40 : decode cX6_missed 40 = .ok (.aload_n 0, 1) := by decide +kernel
theorem dX6_missed_41 : decode cX6_missed 41 = .ok (.getfield 106, 3) := by decide +kernel
theorem dX6_missed_44 : decode cX6_missed 44 = .ok (.ireturn, 1) := by decide +kernel
set_option maxRecDepth 20000 in
theorem ggX6_back_X6_ruleIn : GoodIn wsX6_back wsX6_ruleIn := goodIn_r _ [10, 1, 11, 12, 9, 13, 81, 82, 83, 84, 85, 86, 87, 88, 89, 90, 91, 92, 93, 94] (by decide +kernel) (by decide +kernel)
set_option maxRecDepth 20000 in
theorem gX6_back_X6_ruleIn : GoodIn wsX6_back (wsV RX6 83 RX6 yX6_ruleIn wsX6_ruleIn) := goodIn_app (goodIn_of _ (by decide +kernel)) ggX6_back_X6_ruleIn
set_option maxRecDepth 20000 in
theorem ggX6_back_X6_isSlot : GoodIn wsX6_back wsX6_isSlot := goodIn_r _ [13] (by decide +kernel) (by decide +kernel)
set_option maxRecDepth 20000 in
theorem gX6_back_X6_isSlot : GoodIn wsX6_back (va_wsS RX6 64 yX6_isSlot wsX6_isSlot) := goodIn_app (goodIn_of _ (by decide +kernel)) ggX6_back_X6_isSlot
set_option maxRecDepth 20000 in
theorem ggX6_back_X6_mostWidth : GoodIn wsX6_back wsX6_mostWidth := goodIn_r _ [16, 17] (by decide +kernel) (by decide +kernel)
set_option maxRecDepth 20000 in
theorem gX6_back_X6_mostWidth : GoodIn wsX6_back (va_wsS RX6 68 yX6_mostWidth wsX6_mostWidth) := goodIn_app (goodIn_of _ (by decide +kernel)) ggX6_back_X6_mostWidth
set_option maxRecDepth 20000 in
theorem ggX6_back_X6_turnsBack : GoodIn wsX6_back wsX6_turnsBack := goodIn_r _ [21, 22, 5, 23, 24, 25, 9, 26, 27, 28, 29, 30, 31, 32, 33, 4, 34, 35, 36, 37, 38, 39, 40, 41, 42, 43, 44, 45, 46, 47, 48, 49, 50, 76, 77, 78, 79, 80, 81, 82, 83, 84, 85, 86, 87, 88, 89, 90, 91, 92, 93, 94] (by decide +kernel) (by decide +kernel)
set_option maxRecDepth 20000 in
theorem gX6_back_X6_turnsBack : GoodIn wsX6_back (wsV RX6 139 RX6 yX6_turnsBack wsX6_turnsBack) := goodIn_app (goodIn_of _ (by decide +kernel)) ggX6_back_X6_turnsBack
set_option maxRecDepth 20000 in
theorem ggX6_back_X1_init : GoodIn wsX6_back wsX1_init := goodIn_r _ [53, 54, 55, 56, 57, 58, 37, 59, 39, 44, 45, 60, 50, 25, 9, 26, 61, 62, 29, 63, 64, 65, 66, 67, 68, 69, 70, 71, 36, 38, 72, 73, 74, 75, 76, 77, 78, 79, 80] (by decide +kernel) (by decide +kernel)
set_option maxRecDepth 20000 in
theorem gX6_back_X1_init : GoodIn wsX6_back (wsX1_init) := ggX6_back_X1_init
theorem dX6_back_0 : decode cX6_back 0 = .ok (.aload_n 0, 1) := by decide +kernel
theorem dX6_back_1 : decode cX6_back 1 = .ok (.iload_n 1, 1) := by decide +kernel
theorem dX6_back_2 : decode cX6_back 2 = .ok (.invokevirtual 83, 3) := by decide +kernel
theorem dX6_back_5 : decode cX6_back 5 = .ok (.astore_n 3, 1) := by decide +kernel
theorem dX6_back_6 : decode cX6_back 6 = .ok (.aload_n 3, 1) := by decide +kernel
theorem dX6_back_7 : decode cX6_back 7 = .ok (.ifnull 10, 3) := by decide +kernel
theorem dX6_back_10 : decode cX6_back 10 = .ok (.iload_n 2, 1) := by decide +kernel
theorem dX6_back_11 : decode cX6_back 11 = .ok (.invokestatic 64, 3) := by decide +kernel
theorem dX6_back_14 : decode cX6_back 14 = .ok (.ifCond .ne 5, 3) := by decide +kernel
theorem dX6_back_17 : decode cX6_back 17 = .ok (.iconst (-1), 1) := by decide +kernel
theorem dX6_back_18 : decode cX6_back 18 = .ok (.ireturn, 1) := by decide +kernel
theorem dX6_back_19 : decode cX6_back 19 = .ok (.iconst 1, 1) := by decide +kernel
theorem dX6_back_20 : decode cX6_back 20 = .ok (.istore 4, 2) := by decide +kernel
theorem dX6_back_22 : decode cX6_back 22 = .ok (.iload 4, 2) := by decide +kernel
theorem dX6_back_24 : decode cX6_back 24 = .ok (.aload_n 3, 1) := by decide +kernel
theorem dX6_back_25 : decode cX6_back 25 = .ok (.getfield 87, 3) := by decide +kernel
theorem dX6_back_28 : decode cX6_back 28 = .ok (.invokestatic 68, 3) := by decide +kernel
theorem dX6_back_31 : decode cX6_back 31 = .ok (.if_icmp .gt 76, 3) := by decide +kernel
theorem dX6_back_34 : decode cX6_back 34 = .ok (.iconst 0, 1) := by decide +kernel
theorem dX6_back_35 : decode cX6_back 35 = .ok (.istore 5, 2) := by decide +kernel
theorem dX6_back_37 : decode cX6_back 37 = .ok (.iload 5, 2) := by decide +kernel
theorem dX6_back_39 : decode cX6_back 39 = .ok (.aload_n 3, 1) := by decide +kernel
theorem dX6_back_40 : decode cX6_back 40 = .ok (.getfield 90, 3) := by decide +kernel
theorem dX6_back_43 : decode cX6_back 43 = .ok (.iload 4, 2) := by decide +kernel
theorem dX6_back_45 : decode cX6_back 45 = .ok (.iadd, 1) := by decide +kernel
theorem dX6_back_46 : decode cX6_back 46 = .ok (.iconst 2, 1) := by decide +kernel
theorem dX6_back_47 : decode cX6_back 47 = .ok (.isub, 1) := by decide +kernel
theorem dX6_back_48 : decode cX6_back 48 = .ok (.if_icmp .gt 53, 3) := by decide +kernel
theorem dX6_back_51 : decode cX6_back 51 = .ok (.aload_n 0, 1) := by decide +kernel
theorem dX6_back_52 : decode cX6_back 52 = .ok (.aload_n 3, 1) := by decide +kernel
theorem dX6_back_53 : decode cX6_back 53 = .ok (.iload 4, 2) := by decide +kernel
theorem dX6_back_55 : decode cX6_back 55 = .ok (.iload 5, 2) := by decide +kernel
theorem dX6_back_57 : decode cX6_back 57 = .ok (.invokevirtual 139, 3) := by decide +kernel
theorem dX6_back_60 : decode cX6_back 60 = .ok (.ifCond .eq 35, 3) := by decide +kernel
theorem dX6_back_63 : decode cX6_back 63 = .ok (.aload_n 0, 1) := by decide +kernel
theorem dX6_back_64 : decode cX6_back 64 = .ok (.getfield 11, 3) := by decide +kernel
theorem dX6_back_67 : decode cX6_back 67 = .ok (.iload_n 2, 1) := by decide +kernel
theorem dX6_back_68 : decode cX6_back 68 = .ok (.new 9, 3) := by decide +kernel
theorem dX6_back_71 : decode cX6_back 71 = .ok (.dup, 1) := by decide +kernel
theorem dX6_back_72 : decode cX6_back 72 = .ok (.aload_n 3, 1) := by decide +kernel
theorem dX6_back_73 : decode cX6_back 73 = .ok (.getfield 87, 3) := by decide +kernel
theorem dX6_back_76 : decode cX6_back 76 = .ok (.iload 4, 2) := by decide +kernel
theorem dX6_back_78 : decode cX6_back 78 = .ok (.aload_n 0, 1) := by decide +kernel
theorem dX6_back_79 : decode cX6_back 79 = .ok (.getfield 28, 3) := by decide +kernel
theorem dX6_back_82 : decode cX6_back 82 = .ok (.invokespecial 80, 3) := by decide +kernel
theorem dX6_back_85 : decode cX6_back 85 = .ok (.aastore, 1) := by decide +kernel
theorem dX6_back_86 : decode cX6_back 86 = .ok (.bipush 10, 2) := by decide +kernel
theorem dX6_back_88 : decode cX6_back 88 = .ok (.iload 4, 2) := by decide +kernel
theorem dX6_back_90 : decode cX6_back 90 = .ok (.imul, 1) := by decide +kernel
theorem dX6_back_91 : decode cX6_back 91 = .ok (.iload 5, 2) := by decide +kernel
theorem dX6_back_93 : decode cX6_back 93 = .ok (.iadd, 1) := by decide +kernel
theorem dX6_back_94 : decode cX6_back 94 = .ok (.ireturn, 1) := by decide +kernel
theorem dX6_back_95 : decode cX6_back 95 = .ok (.iinc 5 1, 3) := by decide +kernel
theorem dX6_back_98 : decode cX6_back 98 = .ok (.goto (-61), 3) := by decide +kernel
theorem dX6_back_101 : decode cX6_back 101 = .ok (.iinc 4 1, 3) := by decide +kernel
theorem dX6_back_104 : decode cX6_back 104 = .ok (.goto (-82), 3) := by decide +kernel
theorem dX6_back_107 : decode cX6_back 107 = .ok (.iconst 0, 1) := by decide +kernel
theorem dX6_back_108 : decode cX6_back 108 = .ok (.ireturn, 1) := by decide +kernel
set_option maxRecDepth 20000 in
theorem ggX6_height_X6_takeTape : GoodIn wsX6_height wsX6_takeTape := goodIn_r _ [11, 12, 76, 77, 78, 79, 80, 81, 82, 83, 84, 85, 86, 87, 88, 89] (by decide +kernel) (by decide +kernel)
set_option maxRecDepth 20000 in
theorem gX6_height_X6_takeTape : GoodIn wsX6_height (wsV RX6 60 RX6 yX6_takeTape wsX6_takeTape) := goodIn_app (goodIn_of _ (by decide +kernel)) ggX6_height_X6_takeTape
set_option maxRecDepth 20000 in
theorem ggX6_height_X6_ruleIn : GoodIn wsX6_height wsX6_ruleIn := goodIn_r _ [16, 17, 18, 19, 10, 20, 76, 77, 78, 79, 80, 81, 82, 83, 84, 85, 86, 87, 88, 89] (by decide +kernel) (by decide +kernel)
set_option maxRecDepth 20000 in
theorem gX6_height_X6_ruleIn : GoodIn wsX6_height (wsV RX6 83 RX6 yX6_ruleIn wsX6_ruleIn) := goodIn_app (goodIn_of _ (by decide +kernel)) ggX6_height_X6_ruleIn
set_option maxRecDepth 20000 in
theorem ggX6_height_X6_areFewStates : GoodIn wsX6_height wsX6_areFewStates := goodIn_r _ [24, 25, 26, 27, 10, 28, 5, 76, 77, 78, 79, 80, 81, 82, 83, 84, 85, 86, 87, 88, 89] (by decide +kernel) (by decide +kernel)
set_option maxRecDepth 20000 in
theorem gX6_height_X6_areFewStates : GoodIn wsX6_height (wsV RX6 119 RX6 yX6_areFewStates wsX6_areFewStates) := goodIn_app (goodIn_of _ (by decide +kernel)) ggX6_height_X6_areFewStates
set_option maxRecDepth 20000 in
theorem ggX6_height_X4_init : GoodIn wsX6_height wsX4_init := goodIn_r _ [31, 32, 33, 34, 35, 36, 37, 38, 39, 90, 91, 92, 93] (by decide +kernel) (by decide +kernel)
set_option maxRecDepth 20000 in
theorem gX6_height_X4_init : GoodIn wsX6_height (wsX4_init) := ggX6_height_X4_init
set_option maxRecDepth 20000 in
theorem ggX6_height_X4_climb : GoodIn wsX6_height wsX4_climb := goodIn_r _ [43, 38, 44, 36, 39, 45, 46, 47, 48, 4, 49, 50, 51, 52, 53, 54, 55, 56, 57, 58, 59, 60, 61, 62, 63, 64, 65, 66, 67, 68, 69, 70, 90, 91, 92, 93, 71, 72, 73, 74, 75] (by decide +kernel) (by decide +kernel)
set_option maxRecDepth 20000 in
theorem gX6_height_X4_climb : GoodIn wsX6_height (wsV RX6 150 RX4 yX4_climb wsX4_climb) := goodIn_app (goodIn_of _ (by decide +kernel)) ggX6_height_X4_climb
theorem dX6_height_0 : decode cX6_height 0 = .ok (.aload_n 0, 1) := by decide +kernel
theorem dX6_height_1 : decode cX6_height 1 = .ok (.invokevirtual 60, 3) := by decide +kernel
theorem dX6_height_4 : decode cX6_height 4 = .ok (.istore_n 2, 1) := by decide +kernel
theorem dX6_height_5 : decode cX6_height 5 = .ok (.aload_n 0, 1) := by decide +kernel
theorem dX6_height_6 : decode cX6_height 6 = .ok (.iload_n 1, 1) := by decide +kernel
theorem dX6_height_7 : decode cX6_height 7 = .ok (.invokevirtual 83, 3) := by decide +kernel
theorem dX6_height_10 : decode cX6_height 10 = .ok (.astore_n 3, 1) := by decide +kernel
theorem dX6_height_11 : decode cX6_height 11 = .ok (.aload_n 3, 1) := by decide +kernel
theorem dX6_height_12 : decode cX6_height 12 = .ok (.ifnull 15, 3) := by decide +kernel
theorem dX6_height_15 : decode cX6_height 15 = .ok (.aload_n 0, 1) := by decide +kernel
theorem dX6_height_16 : decode cX6_height 16 = .ok (.aload_n 3, 1) := by decide +kernel
theorem dX6_height_17 : decode cX6_height 17 = .ok (.getfield 87, 3) := by decide +kernel
theorem dX6_height_20 : decode cX6_height 20 = .ok (.iload_n 2, 1) := by decide +kernel
theorem dX6_height_21 : decode cX6_height 21 = .ok (.invokevirtual 119, 3) := by decide +kernel
theorem dX6_height_24 : decode cX6_height 24 = .ok (.ifCond .ne 5, 3) := by decide +kernel
theorem dX6_height_27 : decode cX6_height 27 = .ok (.iconst (-1), 1) := by decide +kernel
theorem dX6_height_28 : decode cX6_height 28 = .ok (.ireturn, 1) := by decide +kernel
theorem dX6_height_29 : decode cX6_height 29 = .ok (.aload_n 0, 1) := by decide +kernel
theorem dX6_height_30 : decode cX6_height 30 = .ok (.getfield 143, 3) := by decide +kernel
theorem dX6_height_33 : decode cX6_height 33 = .ok (.ifnonnull 14, 3) := by decide +kernel
theorem dX6_height_36 : decode cX6_height 36 = .ok (.aload_n 0, 1) := by decide +kernel
theorem dX6_height_37 : decode cX6_height 37 = .ok (.new 147, 3) := by decide +kernel
theorem dX6_height_40 : decode cX6_height 40 = .ok (.dup, 1) := by decide +kernel
theorem dX6_height_41 : decode cX6_height 41 = .ok (.invokespecial 149, 3) := by decide +kernel
theorem dX6_height_44 : decode cX6_height 44 = .ok (.putfield 143, 3) := by decide +kernel
theorem dX6_height_47 : decode cX6_height 47 = .ok (.aload_n 0, 1) := by decide +kernel
theorem dX6_height_48 : decode cX6_height 48 = .ok (.getfield 143, 3) := by decide +kernel
theorem dX6_height_51 : decode cX6_height 51 = .ok (.aload_n 3, 1) := by decide +kernel
theorem dX6_height_52 : decode cX6_height 52 = .ok (.aload_n 0, 1) := by decide +kernel
theorem dX6_height_53 : decode cX6_height 53 = .ok (.getfield 15, 3) := by decide +kernel
theorem dX6_height_56 : decode cX6_height 56 = .ok (.iload_n 2, 1) := by decide +kernel
theorem dX6_height_57 : decode cX6_height 57 = .ok (.invokevirtual 150, 3) := by decide +kernel
theorem dX6_height_60 : decode cX6_height 60 = .ok (.istore 4, 2) := by decide +kernel
theorem dX6_height_62 : decode cX6_height 62 = .ok (.iload 4, 2) := by decide +kernel
theorem dX6_height_64 : decode cX6_height 64 = .ok (.iconst (-1), 1) := by decide +kernel
theorem dX6_height_65 : decode cX6_height 65 = .ok (.if_icmp .eq 14, 3) := by decide +kernel
theorem dX6_height_68 : decode cX6_height 68 = .ok (.aload_n 0, 1) := by decide +kernel
theorem dX6_height_69 : decode cX6_height 69 = .ok (.aload_n 0, 1) := by decide +kernel
theorem dX6_height_70 : decode cX6_height 70 = .ok (.getfield 143, 3) := by decide +kernel
theorem dX6_height_73 : decode cX6_height 73 = .ok (.getfield 154, 3) := by decide +kernel
theorem dX6_height_76 : decode cX6_height 76 = .ok (.putfield 157, 3) := by decide +kernel
theorem dX6_height_79 : decode cX6_height 79 = .ok (.iload 4, 2) := by decide +kernel
theorem dX6_height_81 : decode cX6_height 81 = .ok (.ireturn, 1) := by decide +kernel
theorem dX6_round_0 : decode cX6_round 0 = .ok (.aload_n 0, 1) := by decide +kernel
theorem dX6_round_1 : decode cX6_round 1 = .ok (.getfield 157, 3) := by decide +kernel
theorem dX6_round_4 : decode cX6_round 4 = .ok (.ireturn, 1) := by decide +kernel
set_option maxRecDepth 20000 in
theorem ggX6_all_X6_ruleIn : GoodIn wsX6_all wsX6_ruleIn := goodIn_r _ [9, 10, 11, 12, 8, 13, 94, 95, 96, 97, 98, 99, 100, 101, 102, 103, 104, 105, 106, 107] (by decide +kernel) (by decide +kernel)
set_option maxRecDepth 20000 in
theorem gX6_all_X6_ruleIn : GoodIn wsX6_all (wsV RX6 83 RX6 yX6_ruleIn wsX6_ruleIn) := goodIn_app (goodIn_of _ (by decide +kernel)) ggX6_all_X6_ruleIn
set_option maxRecDepth 20000 in
theorem ggX6_all_X6_ringsOf : GoodIn wsX6_all wsX6_ringsOf := goodIn_r _ [16] (by decide +kernel) (by decide +kernel)
set_option maxRecDepth 20000 in
theorem gX6_all_X6_ringsOf : GoodIn wsX6_all (va_wsS RX6 158 yX6_ringsOf wsX6_ringsOf) := goodIn_app (goodIn_of _ (by decide +kernel)) ggX6_all_X6_ringsOf
set_option maxRecDepth 20000 in
theorem ggX6_all_X3_init : GoodIn wsX6_all wsX3_init := goodIn_r _ [19, 20, 21, 22, 23, 24, 25, 26, 27, 28, 29, 108, 109, 110, 111, 112, 113, 114, 115, 116, 117, 118, 119, 120] (by decide +kernel) (by decide +kernel)
set_option maxRecDepth 20000 in
theorem gX6_all_X3_init : GoodIn wsX6_all (wsX3_init) := ggX6_all_X3_init
set_option maxRecDepth 20000 in
theorem ggX6_all_X3_look : GoodIn wsX6_all wsX3_look := goodIn_r _ [33, 34, 35, 36, 37, 38, 39, 4, 40, 25, 28, 29, 24, 41, 42, 43, 44, 45, 46, 47, 48, 49, 50, 51, 52, 53, 54, 55, 56, 57, 58, 59, 60, 61, 62, 63, 64, 65, 66, 67, 68, 69, 26, 70, 71, 72, 73, 74, 75, 76, 27, 77, 78, 79, 80, 81, 82, 83, 84, 108, 109, 110, 111, 112, 113, 114, 115, 116, 117, 118, 119, 120, 89, 90, 91, 92, 93] (by decide +kernel) (by decide +kernel)
set_option maxRecDepth 20000 in
theorem gX6_all_X3_look : GoodIn wsX6_all (wsV RX6 168 RX3 yX3_look wsX3_look) := goodIn_app (goodIn_of _ (by decide +kernel)) ggX6_all_X3_look
set_option maxRecDepth 20000 in
theorem ggX6_all_X3_tell : GoodIn wsX6_all wsX3_tell := goodIn_r _ [88, 70, 36, 75, 84, 76, 108, 109, 110, 111, 112, 113, 114, 115, 116, 117, 118, 119, 120] (by decide +kernel) (by decide +kernel)
set_option maxRecDepth 20000 in
theorem gX6_all_X3_tell : GoodIn wsX6_all (wsV RX6 172 RX3 yX3_tell wsX3_tell) := goodIn_app (goodIn_of _ (by decide +kernel)) ggX6_all_X3_tell
theorem dX6_all_0 : decode cX6_all 0 = .ok (.aload_n 0, 1) := by decide +kernel
theorem dX6_all_1 : decode cX6_all 1 = .ok (.iload_n 1, 1) := by decide +kernel
theorem dX6_all_2 : decode cX6_all 2 = .ok (.invokevirtual 83, 3) := by decide +kernel
theorem dX6_all_5 : decode cX6_all 5 = .ok (.astore 4, 2) := by decide +kernel
theorem dX6_all_7 : decode cX6_all 7 = .ok (.aload 4, 2) := by decide +kernel
theorem dX6_all_9 : decode cX6_all 9 = .ok (.ifnull 12, 3) := by decide +kernel
theorem dX6_all_12 : decode cX6_all 12 = .ok (.iload_n 3, 1) := by decide +kernel
theorem dX6_all_13 : decode cX6_all 13 = .ok (.ifCond .lt 8, 3) := by decide +kernel
theorem dX6_all_16 : decode cX6_all 16 = .ok (.iload_n 3, 1) := by decide +kernel
theorem dX6_all_17 : decode cX6_all 17 = .ok (.iconst 4, 1) := by decide +kernel
theorem dX6_all_18 : decode cX6_all 18 = .ok (.if_icmp .le 5, 3) := by decide +kernel
theorem dX6_all_21 : decode cX6_all 21 = .ok (.iconst (-1), 1) := by decide +kernel
theorem dX6_all_22 : decode cX6_all 22 = .ok (.ireturn, 1) := by decide +kernel
theorem dX6_all_23 : decode cX6_all 23 = .ok (.aload 4, 2) := by decide +kernel
theorem dX6_all_25 : decode cX6_all 25 = .ok (.getfield 87, 3) := by decide +kernel
theorem dX6_all_28 : decode cX6_all 28 = .ok (.iload_n 2, 1) := by decide +kernel
theorem dX6_all_29 : decode cX6_all 29 = .ok (.invokestatic 158, 3) := by decide +kernel
theorem dX6_all_32 : decode cX6_all 32 = .ok (.istore 5, 2) := by decide +kernel
theorem dX6_all_34 : decode cX6_all 34 = .ok (.iload 5, 2) := by decide +kernel
theorem dX6_all_36 : decode cX6_all 36 = .ok (.iconst (-1), 1) := by decide +kernel
theorem dX6_all_37 : decode cX6_all 37 = .ok (.if_icmp .ne 5, 3) := by decide +kernel
theorem dX6_all_40 : decode cX6_all 40 = .ok (.iconst (-1), 1) := by decide +kernel
theorem dX6_all_41 : decode cX6_all 41 = .ok (.ireturn, 1) := by decide +kernel
theorem dX6_all_42 : decode cX6_all 42 = .ok (.aload_n 0, 1) := by decide +kernel
theorem dX6_all_43 : decode cX6_all 43 = .ok (.getfield 161, 3) := by decide +kernel
theorem dX6_all_46 : decode cX6_all 46 = .ok (.ifnonnull 14, 3) := by decide +kernel
theorem dX6_all_49 : decode cX6_all 49 = .ok (.aload_n 0, 1) := by decide +kernel
theorem dX6_all_50 : decode cX6_all 50 = .ok (.new 165, 3) := by decide +kernel
theorem dX6_all_53 : decode cX6_all 53 = .ok (.dup, 1) := by decide +kernel
theorem dX6_all_54 : decode cX6_all 54 = .ok (.invokespecial 167, 3) := by decide +kernel
theorem dX6_all_57 : decode cX6_all 57 = .ok (.putfield 161, 3) := by decide +kernel
theorem dX6_all_60 : decode cX6_all 60 = .ok (.aload_n 0, 1) := by decide +kernel
theorem dX6_all_61 : decode cX6_all 61 = .ok (.getfield 161, 3) := by decide +kernel
theorem dX6_all_64 : decode cX6_all 64 = .ok (.aload 4, 2) := by decide +kernel
theorem dX6_all_66 : decode cX6_all 66 = .ok (.iload_n 2, 1) := by decide +kernel
theorem dX6_all_67 : decode cX6_all 67 = .ok (.iload 5, 2) := by decide +kernel
theorem dX6_all_69 : decode cX6_all 69 = .ok (.invokevirtual 168, 3) := by decide +kernel
theorem dX6_all_72 : decode cX6_all 72 = .ok (.aload_n 0, 1) := by decide +kernel
theorem dX6_all_73 : decode cX6_all 73 = .ok (.getfield 161, 3) := by decide +kernel
theorem dX6_all_76 : decode cX6_all 76 = .ok (.iload_n 3, 1) := by decide +kernel
theorem dX6_all_77 : decode cX6_all 77 = .ok (.invokevirtual 172, 3) := by decide +kernel
theorem dX6_all_80 : decode cX6_all 80 = .ok (.ireturn, 1) := by decide +kernel
set_option maxRecDepth 20000 in
theorem ggX6_keeps_X6_takeTape : GoodIn wsX6_keeps wsX6_takeTape := goodIn_r _ [7, 8, 48, 49, 50, 51, 52, 53, 54, 55, 56, 57, 58, 59, 60, 61] (by decide +kernel) (by decide +kernel)
set_option maxRecDepth 20000 in
theorem gX6_keeps_X6_takeTape : GoodIn wsX6_keeps (wsV RX6 60 RX6 yX6_takeTape wsX6_takeTape) := goodIn_app (goodIn_of _ (by decide +kernel)) ggX6_keeps_X6_takeTape
set_option maxRecDepth 20000 in
theorem ggX6_keeps_X6_ruleIn : GoodIn wsX6_keeps wsX6_ruleIn := goodIn_r _ [12, 13, 14, 15, 6, 16, 48, 49, 50, 51, 52, 53, 54, 55, 56, 57, 58, 59, 60, 61] (by decide +kernel) (by decide +kernel)
set_option maxRecDepth 20000 in
theorem gX6_keeps_X6_ruleIn : GoodIn wsX6_keeps (wsV RX6 83 RX6 yX6_ruleIn wsX6_ruleIn) := goodIn_app (goodIn_of _ (by decide +kernel)) ggX6_keeps_X6_ruleIn
set_option maxRecDepth 20000 in
theorem ggX6_keeps_X1_holds : GoodIn wsX6_keeps wsX1_holds := goodIn_r _ [21, 22, 23, 24, 25, 26, 27, 20, 28, 29, 30, 31, 32, 33, 34, 35, 36, 37, 38, 39, 40, 41, 42, 43, 44, 45, 46, 47] (by decide +kernel) (by decide +kernel)
set_option maxRecDepth 20000 in
theorem gX6_keeps_X1_holds : GoodIn wsX6_keeps (wsV RX6 175 RX1 yX1_holds wsX1_holds) := goodIn_app (goodIn_of _ (by decide +kernel)) ggX6_keeps_X1_holds
theorem dX6_keeps_0 : decode cX6_keeps 0 = .ok (.aload_n 0, 1) := by decide +kernel
theorem dX6_keeps_1 : decode cX6_keeps 1 = .ok (.invokevirtual 60, 3) := by decide +kernel
theorem dX6_keeps_4 : decode cX6_keeps 4 = .ok (.istore_n 2, 1) := by decide +kernel
theorem dX6_keeps_5 : decode cX6_keeps 5 = .ok (.aload_n 0, 1) := by decide +kernel
theorem dX6_keeps_6 : decode cX6_keeps 6 = .ok (.iload_n 1, 1) := by decide +kernel
theorem dX6_keeps_7 : decode cX6_keeps 7 = .ok (.invokevirtual 83, 3) := by decide +kernel
theorem dX6_keeps_10 : decode cX6_keeps 10 = .ok (.astore_n 3, 1) := by decide +kernel
theorem dX6_keeps_11 : decode cX6_keeps 11 = .ok (.aload_n 3, 1) := by decide +kernel
theorem dX6_keeps_12 : decode cX6_keeps 12 = .ok (.ifnull 11, 3) := by decide +kernel
theorem dX6_keeps_15 : decode cX6_keeps 15 = .ok (.iload_n 2, 1) := by decide +kernel
theorem dX6_keeps_16 : decode cX6_keeps 16 = .ok (.aload_n 3, 1) := by decide +kernel
theorem dX6_keeps_17 : decode cX6_keeps 17 = .ok (.getfield 87, 3) := by decide +kernel
theorem dX6_keeps_20 : decode cX6_keeps 20 = .ok (.if_icmp .eq 5, 3) := by decide +kernel
theorem dX6_keeps_23 : decode cX6_keeps 23 = .ok (.iconst (-1), 1) := by decide +kernel
theorem dX6_keeps_24 : decode cX6_keeps 24 = .ok (.ireturn, 1) := by decide +kernel
theorem dX6_keeps_25 : decode cX6_keeps 25 = .ok (.iconst 0, 1) := by decide +kernel
theorem dX6_keeps_26 : decode cX6_keeps 26 = .ok (.istore 4, 2) := by decide +kernel
theorem dX6_keeps_28 : decode cX6_keeps 28 = .ok (.iload 4, 2) := by decide +kernel
theorem dX6_keeps_30 : decode cX6_keeps 30 = .ok (.iload_n 2, 1) := by decide +kernel
theorem dX6_keeps_31 : decode cX6_keeps 31 = .ok (.if_icmp .ge 24, 3) := by decide +kernel
theorem dX6_keeps_34 : decode cX6_keeps 34 = .ok (.aload_n 0, 1) := by decide +kernel
theorem dX6_keeps_35 : decode cX6_keeps 35 = .ok (.getfield 22, 3) := by decide +kernel
theorem dX6_keeps_38 : decode cX6_keeps 38 = .ok (.iload 4, 2) := by decide +kernel
theorem dX6_keeps_40 : decode cX6_keeps 40 = .ok (.aload_n 0, 1) := by decide +kernel
theorem dX6_keeps_41 : decode cX6_keeps 41 = .ok (.getfield 15, 3) := by decide +kernel
theorem dX6_keeps_44 : decode cX6_keeps 44 = .ok (.iload 4, 2) := by decide +kernel
theorem dX6_keeps_46 : decode cX6_keeps 46 = .ok (.iaload, 1) := by decide +kernel
theorem dX6_keeps_47 : decode cX6_keeps 47 = .ok (.i2b, 1) := by decide +kernel
theorem dX6_keeps_48 : decode cX6_keeps 48 = .ok (.iastore, 1) := by decide +kernel
theorem dX6_keeps_49 : decode cX6_keeps 49 = .ok (.iinc 4 1, 3) := by decide +kernel
theorem dX6_keeps_52 : decode cX6_keeps 52 = .ok (.goto (-24), 3) := by decide +kernel
theorem dX6_keeps_55 : decode cX6_keeps 55 = .ok (.aload_n 3, 1) := by decide +kernel
theorem dX6_keeps_56 : decode cX6_keeps 56 = .ok (.aload_n 0, 1) := by decide +kernel
theorem dX6_keeps_57 : decode cX6_keeps 57 = .ok (.getfield 22, 3) := by decide +kernel
theorem dX6_keeps_60 : decode cX6_keeps 60 = .ok (.invokevirtual 175, 3) := by decide +kernel
theorem dX6_keeps_63 : decode cX6_keeps 63 = .ok (.ifCond .eq 7, 3) := by decide +kernel
theorem dX6_keeps_66 : decode cX6_keeps 66 = .ok (.iconst 1, 1) := by decide +kernel
theorem dX6_keeps_67 : decode cX6_keeps 67 = .ok (.goto 4, 3) := by decide +kernel
theorem dX6_keeps_70 : decode cX6_keeps 70 = .ok (.iconst 0, 1) := by decide +kernel
theorem dX6_keeps_71 : decode cX6_keeps 71 = .ok (.ireturn, 1) := by decide +kernel
set_option maxRecDepth 20000 in
theorem ggX6_join_X6_ruleIn : GoodIn wsX6_join wsX6_ruleIn := goodIn_r _ [12, 4, 13, 14, 11, 15, 75, 76, 77, 78, 79, 80, 81, 82, 83, 84, 85, 86, 87, 88] (by decide +kernel) (by decide +kernel)
set_option maxRecDepth 20000 in
theorem gX6_join_X6_ruleIn : GoodIn wsX6_join (wsV RX6 83 RX6 yX6_ruleIn wsX6_ruleIn) := goodIn_app (goodIn_of _ (by decide +kernel)) ggX6_join_X6_ruleIn
set_option maxRecDepth 20000 in
theorem ggX6_join_X6_isSlot : GoodIn wsX6_join wsX6_isSlot := goodIn_r _ [15] (by decide +kernel) (by decide +kernel)
set_option maxRecDepth 20000 in
theorem gX6_join_X6_isSlot : GoodIn wsX6_join (va_wsS RX6 64 yX6_isSlot wsX6_isSlot) := goodIn_app (goodIn_of _ (by decide +kernel)) ggX6_join_X6_isSlot
set_option maxRecDepth 20000 in
theorem ggX6_join_X6_mostWidth : GoodIn wsX6_join wsX6_mostWidth := goodIn_r _ [18, 19] (by decide +kernel) (by decide +kernel)
set_option maxRecDepth 20000 in
theorem gX6_join_X6_mostWidth : GoodIn wsX6_join (va_wsS RX6 68 yX6_mostWidth wsX6_mostWidth) := goodIn_app (goodIn_of _ (by decide +kernel)) ggX6_join_X6_mostWidth
set_option maxRecDepth 20000 in
theorem ggX6_join_X6_power : GoodIn wsX6_join wsX6_power := goodIn_r _ [22] (by decide +kernel) (by decide +kernel)
set_option maxRecDepth 20000 in
theorem gX6_join_X6_power : GoodIn wsX6_join (va_wsS RX6 72 yX6_power wsX6_power) := goodIn_app (goodIn_of _ (by decide +kernel)) ggX6_join_X6_power
set_option maxRecDepth 20000 in
theorem ggX6_join_X1_spread : GoodIn wsX6_join wsX1_spread := goodIn_r _ [26, 27, 28, 29, 30, 31, 70, 71, 72, 73, 74] (by decide +kernel) (by decide +kernel)
set_option maxRecDepth 20000 in
theorem gX6_join_X1_spread : GoodIn wsX6_join (wsV RX6 179 RX1 yX1_spread wsX1_spread) := goodIn_app (goodIn_of _ (by decide +kernel)) ggX6_join_X1_spread
set_option maxRecDepth 20000 in
theorem ggX6_join_X1_grow : GoodIn wsX6_join wsX1_grow := goodIn_r _ [35, 36, 31, 37, 38, 39, 40, 7, 41, 42, 70, 71, 72, 73, 74] (by decide +kernel) (by decide +kernel)
set_option maxRecDepth 20000 in
theorem gX6_join_X1_grow : GoodIn wsX6_join (wsV RX6 109 RX1 yX1_grow wsX1_grow) := goodIn_app (goodIn_of _ (by decide +kernel)) ggX6_join_X1_grow
set_option maxRecDepth 20000 in
theorem ggX6_join_X1_tells : GoodIn wsX6_join wsX1_tells := goodIn_r _ [41, 42, 70, 71, 72, 73, 74] (by decide +kernel) (by decide +kernel)
set_option maxRecDepth 20000 in
theorem gX6_join_X1_tells : GoodIn wsX6_join (wsV RX6 103 RX1 yX1_tells wsX1_tells) := goodIn_app (goodIn_of _ (by decide +kernel)) ggX6_join_X1_tells
set_option maxRecDepth 20000 in
theorem ggX6_join_X1_init : GoodIn wsX6_join wsX1_init := goodIn_r _ [46, 47, 48, 49, 50, 51, 29, 52, 31, 36, 37, 53, 42, 21, 11, 22, 54, 55, 56, 57, 58, 59, 60, 61, 62, 63, 64, 65, 28, 30, 66, 67, 68, 69, 70, 71, 72, 73, 74] (by decide +kernel) (by decide +kernel)
set_option maxRecDepth 20000 in
theorem gX6_join_X1_init : GoodIn wsX6_join (wsX1_init) := ggX6_join_X1_init
theorem dX6_join_0 : decode cX6_join 0 = .ok (.aload_n 0, 1) := by decide +kernel
theorem dX6_join_1 : decode cX6_join 1 = .ok (.iload_n 1, 1) := by decide +kernel
theorem dX6_join_2 : decode cX6_join 2 = .ok (.invokevirtual 83, 3) := by decide +kernel
theorem dX6_join_5 : decode cX6_join 5 = .ok (.astore 4, 2) := by decide +kernel
theorem dX6_join_7 : decode cX6_join 7 = .ok (.aload_n 0, 1) := by decide +kernel
theorem dX6_join_8 : decode cX6_join 8 = .ok (.iload_n 2, 1) := by decide +kernel
theorem dX6_join_9 : decode cX6_join 9 = .ok (.invokevirtual 83, 3) := by decide +kernel
theorem dX6_join_12 : decode cX6_join 12 = .ok (.astore 5, 2) := by decide +kernel
theorem dX6_join_14 : decode cX6_join 14 = .ok (.aload 4, 2) := by decide +kernel
theorem dX6_join_16 : decode cX6_join 16 = .ok (.ifnull 28, 3) := by decide +kernel
theorem dX6_join_19 : decode cX6_join 19 = .ok (.aload 5, 2) := by decide +kernel
theorem dX6_join_21 : decode cX6_join 21 = .ok (.ifnull 23, 3) := by decide +kernel
theorem dX6_join_24 : decode cX6_join 24 = .ok (.iload_n 3, 1) := by decide +kernel
theorem dX6_join_25 : decode cX6_join 25 = .ok (.invokestatic 64, 3) := by decide +kernel
theorem dX6_join_28 : decode cX6_join 28 = .ok (.ifCond .eq 16, 3) := by decide +kernel
theorem dX6_join_31 : decode cX6_join 31 = .ok (.aload 4, 2) := by decide +kernel
theorem dX6_join_33 : decode cX6_join 33 = .ok (.getfield 87, 3) := by decide +kernel
theorem dX6_join_36 : decode cX6_join 36 = .ok (.aload 5, 2) := by decide +kernel
theorem dX6_join_38 : decode cX6_join 38 = .ok (.getfield 87, 3) := by decide +kernel
theorem dX6_join_41 : decode cX6_join 41 = .ok (.if_icmp .eq 5, 3) := by decide +kernel
theorem dX6_join_44 : decode cX6_join 44 = .ok (.iconst (-1), 1) := by decide +kernel
theorem dX6_join_45 : decode cX6_join 45 = .ok (.ireturn, 1) := by decide +kernel
theorem dX6_join_46 : decode cX6_join 46 = .ok (.aload 4, 2) := by decide +kernel
theorem dX6_join_48 : decode cX6_join 48 = .ok (.getfield 90, 3) := by decide +kernel
theorem dX6_join_51 : decode cX6_join 51 = .ok (.aload 5, 2) := by decide +kernel
theorem dX6_join_53 : decode cX6_join 53 = .ok (.getfield 90, 3) := by decide +kernel
theorem dX6_join_56 : decode cX6_join 56 = .ok (.iadd, 1) := by decide +kernel
theorem dX6_join_57 : decode cX6_join 57 = .ok (.iconst 1, 1) := by decide +kernel
theorem dX6_join_58 : decode cX6_join 58 = .ok (.isub, 1) := by decide +kernel
theorem dX6_join_59 : decode cX6_join 59 = .ok (.istore 6, 2) := by decide +kernel
theorem dX6_join_61 : decode cX6_join 61 = .ok (.iload 6, 2) := by decide +kernel
theorem dX6_join_63 : decode cX6_join 63 = .ok (.aload 4, 2) := by decide +kernel
theorem dX6_join_65 : decode cX6_join 65 = .ok (.getfield 87, 3) := by decide +kernel
theorem dX6_join_68 : decode cX6_join 68 = .ok (.invokestatic 68, 3) := by decide +kernel
theorem dX6_join_71 : decode cX6_join 71 = .ok (.if_icmp .le 5, 3) := by decide +kernel
theorem dX6_join_74 : decode cX6_join 74 = .ok (.iconst (-1), 1) := by decide +kernel
theorem dX6_join_75 : decode cX6_join 75 = .ok (.ireturn, 1) := by decide +kernel
theorem dX6_join_76 : decode cX6_join 76 = .ok (.aload 4, 2) := by decide +kernel
theorem dX6_join_78 : decode cX6_join 78 = .ok (.getfield 87, 3) := by decide +kernel
theorem dX6_join_81 : decode cX6_join 81 = .ok (.iload 6, 2) := by decide +kernel
theorem dX6_join_83 : decode cX6_join 83 = .ok (.invokestatic 72, 3) := by decide +kernel
theorem dX6_join_86 : decode cX6_join 86 = .ok (.istore 7, 2) := by decide +kernel
theorem dX6_join_88 : decode cX6_join 88 = .ok (.iconst 0, 1) := by decide +kernel
theorem dX6_join_89 : decode cX6_join 89 = .ok (.istore 8, 2) := by decide +kernel
theorem dX6_join_91 : decode cX6_join 91 = .ok (.iload 8, 2) := by decide +kernel
theorem dX6_join_93 : decode cX6_join 93 = .ok (.iload 7, 2) := by decide +kernel
theorem dX6_join_95 : decode cX6_join 95 = .ok (.if_icmp .ge 65, 3) := by decide +kernel
theorem dX6_join_98 : decode cX6_join 98 = .ok (.iload 8, 2) := by decide +kernel
theorem dX6_join_100 : decode cX6_join 100 = .ok (.aload_n 0, 1) := by decide +kernel
theorem dX6_join_101 : decode cX6_join 101 = .ok (.getfield 28, 3) := by decide +kernel
theorem dX6_join_104 : decode cX6_join 104 = .ok (.arraylength, 1) := by decide +kernel
theorem dX6_join_105 : decode cX6_join 105 = .ok (.if_icmp .ge 55, 3) := by decide +kernel
theorem dX6_join_108 : decode cX6_join 108 = .ok (.aload 4, 2) := by decide +kernel
theorem dX6_join_110 : decode cX6_join 110 = .ok (.iload 8, 2) := by decide +kernel
theorem dX6_join_112 : decode cX6_join 112 = .ok (.iload 6, 2) := by decide +kernel
theorem dX6_join_114 : decode cX6_join 114 = .ok (.aload_n 0, 1) := by decide +kernel
theorem dX6_join_115 : decode cX6_join 115 = .ok (.getfield 22, 3) := by decide +kernel
theorem dX6_join_118 : decode cX6_join 118 = .ok (.invokevirtual 179, 3) := by decide +kernel
theorem dX6_join_121 : decode cX6_join 121 = .ok (.aload_n 0, 1) := by decide +kernel
theorem dX6_join_122 : decode cX6_join 122 = .ok (.getfield 28, 3) := by decide +kernel
theorem dX6_join_125 : decode cX6_join 125 = .ok (.iload 8, 2) := by decide +kernel
theorem dX6_join_127 : decode cX6_join 127 = .ok (.aload 5, 2) := by decide +kernel
theorem dX6_join_129 : decode cX6_join 129 = .ok (.aload 4, 2) := by decide +kernel
theorem dX6_join_131 : decode cX6_join 131 = .ok (.aload_n 0, 1) := by decide +kernel
theorem dX6_join_132 : decode cX6_join 132 = .ok (.getfield 22, 3) := by decide +kernel
theorem dX6_join_135 : decode cX6_join 135 = .ok (.iload 6, 2) := by decide +kernel
theorem dX6_join_137 : decode cX6_join 137 = .ok (.aload 5, 2) := by decide +kernel
theorem dX6_join_139 : decode cX6_join 139 = .ok (.getfield 90, 3) := by decide +kernel
theorem dX6_join_142 : decode cX6_join 142 = .ok (.aload_n 0, 1) := by decide +kernel
theorem dX6_join_143 : decode cX6_join 143 = .ok (.getfield 25, 3) := by decide +kernel
theorem dX6_join_146 : decode cX6_join 146 = .ok (.invokevirtual 109, 3) := by decide +kernel
theorem dX6_join_149 : decode cX6_join 149 = .ok (.l2i, 1) := by decide +kernel
theorem dX6_join_150 : decode cX6_join 150 = .ok (.invokevirtual 103, 3) := by decide +kernel
theorem dX6_join_153 : decode cX6_join 153 = .ok (.iastore, 1) := by decide +kernel
theorem dX6_join_154 : decode cX6_join 154 = .ok (.iinc 8 1, 3) := by decide +kernel
theorem dX6_join_157 : decode cX6_join 157 = .ok (.goto (-66), 3) := by decide +kernel
theorem dX6_join_160 : decode cX6_join 160 = .ok (.aload_n 0, 1) := by decide +kernel
theorem dX6_join_161 : decode cX6_join 161 = .ok (.getfield 11, 3) := by decide +kernel
theorem dX6_join_164 : decode cX6_join 164 = .ok (.iload_n 3, 1) := by decide +kernel
theorem dX6_join_165 : decode cX6_join 165 = .ok (.new 9, 3) := by decide +kernel
theorem dX6_join_168 : decode cX6_join 168 = .ok (.dup, 1) := by decide +kernel
theorem dX6_join_169 : decode cX6_join 169 = .ok (.aload 4, 2) := by decide +kernel
theorem dX6_join_171 : decode cX6_join 171 = .ok (.getfield 87, 3) := by decide +kernel
theorem dX6_join_174 : decode cX6_join 174 = .ok (.iload 6, 2) := by decide +kernel
theorem dX6_join_176 : decode cX6_join 176 = .ok (.aload_n 0, 1) := by decide +kernel
theorem dX6_join_177 : decode cX6_join 177 = .ok (.getfield 28, 3) := by decide +kernel
theorem dX6_join_180 : decode cX6_join 180 = .ok (.invokespecial 80, 3) := by decide +kernel
theorem dX6_join_183 : decode cX6_join 183 = .ok (.aastore, 1) := by decide +kernel
theorem dX6_join_184 : decode cX6_join 184 = .ok (.iload 6, 2) := by decide +kernel
theorem dX6_join_186 : decode cX6_join 186 = .ok (.ireturn, 1) := by decide +kernel
set_option maxRecDepth 20000 in
theorem ggX6_mirror_X6_ruleIn : GoodIn wsX6_mirror wsX6_ruleIn := goodIn_r _ [10, 2, 11, 12, 9, 13, 62, 63, 64, 65, 66, 67, 68, 69, 70, 71, 72, 73, 74, 75] (by decide +kernel) (by decide +kernel)
set_option maxRecDepth 20000 in
theorem gX6_mirror_X6_ruleIn : GoodIn wsX6_mirror (wsV RX6 83 RX6 yX6_ruleIn wsX6_ruleIn) := goodIn_app (goodIn_of _ (by decide +kernel)) ggX6_mirror_X6_ruleIn
set_option maxRecDepth 20000 in
theorem ggX6_mirror_X6_isSlot : GoodIn wsX6_mirror wsX6_isSlot := goodIn_r _ [13] (by decide +kernel) (by decide +kernel)
set_option maxRecDepth 20000 in
theorem gX6_mirror_X6_isSlot : GoodIn wsX6_mirror (va_wsS RX6 64 yX6_isSlot wsX6_isSlot) := goodIn_app (goodIn_of _ (by decide +kernel)) ggX6_mirror_X6_isSlot
set_option maxRecDepth 20000 in
theorem ggX6_mirror_X1_backward : GoodIn wsX6_mirror wsX1_backward := goodIn_r _ [17, 18, 19, 57, 58, 59, 60, 61] (by decide +kernel) (by decide +kernel)
set_option maxRecDepth 20000 in
theorem gX6_mirror_X1_backward : GoodIn wsX6_mirror (wsV RX6 182 RX1 yX1_backward wsX1_backward) := goodIn_app (goodIn_of _ (by decide +kernel)) ggX6_mirror_X1_backward
set_option maxRecDepth 20000 in
theorem ggX6_mirror_X1_tells : GoodIn wsX6_mirror wsX1_tells := goodIn_r _ [23, 24, 57, 58, 59, 60, 61] (by decide +kernel) (by decide +kernel)
set_option maxRecDepth 20000 in
theorem gX6_mirror_X1_tells : GoodIn wsX6_mirror (wsV RX6 103 RX1 yX1_tells wsX1_tells) := goodIn_app (goodIn_of _ (by decide +kernel)) ggX6_mirror_X1_tells
set_option maxRecDepth 20000 in
theorem ggX6_mirror_X1_init : GoodIn wsX6_mirror wsX1_init := goodIn_r _ [27, 28, 29, 30, 31, 32, 33, 34, 19, 18, 35, 36, 24, 37, 9, 38, 39, 40, 41, 42, 43, 44, 45, 46, 47, 48, 49, 50, 51, 52, 53, 54, 55, 56, 57, 58, 59, 60, 61] (by decide +kernel) (by decide +kernel)
set_option maxRecDepth 20000 in
theorem gX6_mirror_X1_init : GoodIn wsX6_mirror (wsX1_init) := ggX6_mirror_X1_init
theorem dX6_mirror_0 : decode cX6_mirror 0 = .ok (.aload_n 0, 1) := by decide +kernel
theorem dX6_mirror_1 : decode cX6_mirror 1 = .ok (.iload_n 1, 1) := by decide +kernel
theorem dX6_mirror_2 : decode cX6_mirror 2 = .ok (.invokevirtual 83, 3) := by decide +kernel
theorem dX6_mirror_5 : decode cX6_mirror 5 = .ok (.astore_n 3, 1) := by decide +kernel
theorem dX6_mirror_6 : decode cX6_mirror 6 = .ok (.aload_n 3, 1) := by decide +kernel
theorem dX6_mirror_7 : decode cX6_mirror 7 = .ok (.ifnull 10, 3) := by decide +kernel
theorem dX6_mirror_10 : decode cX6_mirror 10 = .ok (.iload_n 2, 1) := by decide +kernel
theorem dX6_mirror_11 : decode cX6_mirror 11 = .ok (.invokestatic 64, 3) := by decide +kernel
theorem dX6_mirror_14 : decode cX6_mirror 14 = .ok (.ifCond .ne 5, 3) := by decide +kernel
theorem dX6_mirror_17 : decode cX6_mirror 17 = .ok (.iconst 0, 1) := by decide +kernel
theorem dX6_mirror_18 : decode cX6_mirror 18 = .ok (.ireturn, 1) := by decide +kernel
theorem dX6_mirror_19 : decode cX6_mirror 19 = .ok (.iconst 0, 1) := by decide +kernel
theorem dX6_mirror_20 : decode cX6_mirror 20 = .ok (.istore 4, 2) := by decide +kernel
theorem dX6_mirror_22 : decode cX6_mirror 22 = .ok (.iload 4, 2) := by decide +kernel
theorem dX6_mirror_24 : decode cX6_mirror 24 = .ok (.aload_n 3, 1) := by decide +kernel
theorem dX6_mirror_25 : decode cX6_mirror 25 = .ok (.getfield 100, 3) := by decide +kernel
theorem dX6_mirror_28 : decode cX6_mirror 28 = .ok (.if_icmp .ge 36, 3) := by decide +kernel
theorem dX6_mirror_31 : decode cX6_mirror 31 = .ok (.iload 4, 2) := by decide +kernel
theorem dX6_mirror_33 : decode cX6_mirror 33 = .ok (.aload_n 0, 1) := by decide +kernel
theorem dX6_mirror_34 : decode cX6_mirror 34 = .ok (.getfield 28, 3) := by decide +kernel
theorem dX6_mirror_37 : decode cX6_mirror 37 = .ok (.arraylength, 1) := by decide +kernel
theorem dX6_mirror_38 : decode cX6_mirror 38 = .ok (.if_icmp .ge 26, 3) := by decide +kernel
theorem dX6_mirror_41 : decode cX6_mirror 41 = .ok (.aload_n 0, 1) := by decide +kernel
theorem dX6_mirror_42 : decode cX6_mirror 42 = .ok (.getfield 28, 3) := by decide +kernel
theorem dX6_mirror_45 : decode cX6_mirror 45 = .ok (.iload 4, 2) := by decide +kernel
theorem dX6_mirror_47 : decode cX6_mirror 47 = .ok (.aload_n 3, 1) := by decide +kernel
theorem dX6_mirror_48 : decode cX6_mirror 48 = .ok (.aload_n 3, 1) := by decide +kernel
theorem dX6_mirror_49 : decode cX6_mirror 49 = .ok (.iload 4, 2) := by decide +kernel
theorem dX6_mirror_51 : decode cX6_mirror 51 = .ok (.invokevirtual 182, 3) := by decide +kernel
theorem dX6_mirror_54 : decode cX6_mirror 54 = .ok (.invokevirtual 103, 3) := by decide +kernel
theorem dX6_mirror_57 : decode cX6_mirror 57 = .ok (.iastore, 1) := by decide +kernel
theorem dX6_mirror_58 : decode cX6_mirror 58 = .ok (.iinc 4 1, 3) := by decide +kernel
theorem dX6_mirror_61 : decode cX6_mirror 61 = .ok (.goto (-39), 3) := by decide +kernel
theorem dX6_mirror_64 : decode cX6_mirror 64 = .ok (.aload_n 0, 1) := by decide +kernel
theorem dX6_mirror_65 : decode cX6_mirror 65 = .ok (.getfield 11, 3) := by decide +kernel
theorem dX6_mirror_68 : decode cX6_mirror 68 = .ok (.iload_n 2, 1) := by decide +kernel
theorem dX6_mirror_69 : decode cX6_mirror 69 = .ok (.new 9, 3) := by decide +kernel
theorem dX6_mirror_72 : decode cX6_mirror 72 = .ok (.dup, 1) := by decide +kernel
theorem dX6_mirror_73 : decode cX6_mirror 73 = .ok (.aload_n 3, 1) := by decide +kernel
theorem dX6_mirror_74 : decode cX6_mirror 74 = .ok (.getfield 87, 3) := by decide +kernel
theorem dX6_mirror_77 : decode cX6_mirror 77 = .ok (.aload_n 3, 1) := by decide +kernel
theorem dX6_mirror_78 : decode cX6_mirror 78 = .ok (.getfield 90, 3) := by decide +kernel
theorem dX6_mirror_81 : decode cX6_mirror 81 = .ok (.aload_n 0, 1) := by decide +kernel
theorem dX6_mirror_82 : decode cX6_mirror 82 = .ok (.getfield 28, 3) := by decide +kernel
theorem dX6_mirror_85 : decode cX6_mirror 85 = .ok (.invokespecial 80, 3) := by decide +kernel
theorem dX6_mirror_88 : decode cX6_mirror 88 = .ok (.aastore, 1) := by decide +kernel
theorem dX6_mirror_89 : decode cX6_mirror 89 = .ok (.iconst 1, 1) := by decide +kernel
theorem dX6_mirror_90 : decode cX6_mirror 90 = .ok (.ireturn, 1) := by decide +kernel
set_option maxRecDepth 20000 in
theorem ggX6_rename_X6_takeTape : GoodIn wsX6_rename wsX6_takeTape := goodIn_r _ [11, 12, 76, 77, 78, 79, 80, 81, 82, 83, 84, 85, 86, 87, 88, 89] (by decide +kernel) (by decide +kernel)
set_option maxRecDepth 20000 in
theorem gX6_rename_X6_takeTape : GoodIn wsX6_rename (wsV RX6 60 RX6 yX6_takeTape wsX6_takeTape) := goodIn_app (goodIn_of _ (by decide +kernel)) ggX6_rename_X6_takeTape
set_option maxRecDepth 20000 in
theorem ggX6_rename_X6_ruleIn : GoodIn wsX6_rename wsX6_ruleIn := goodIn_r _ [16, 3, 17, 18, 10, 19, 76, 77, 78, 79, 80, 81, 82, 83, 84, 85, 86, 87, 88, 89] (by decide +kernel) (by decide +kernel)
set_option maxRecDepth 20000 in
theorem gX6_rename_X6_ruleIn : GoodIn wsX6_rename (wsV RX6 83 RX6 yX6_ruleIn wsX6_ruleIn) := goodIn_app (goodIn_of _ (by decide +kernel)) ggX6_rename_X6_ruleIn
set_option maxRecDepth 20000 in
theorem ggX6_rename_X6_isSlot : GoodIn wsX6_rename wsX6_isSlot := goodIn_r _ [19] (by decide +kernel) (by decide +kernel)
set_option maxRecDepth 20000 in
theorem gX6_rename_X6_isSlot : GoodIn wsX6_rename (va_wsS RX6 64 yX6_isSlot wsX6_isSlot) := goodIn_app (goodIn_of _ (by decide +kernel)) ggX6_rename_X6_isSlot
set_option maxRecDepth 20000 in
theorem ggX6_rename_X6_isEachOnce : GoodIn wsX6_rename wsX6_isEachOnce := goodIn_r _ [23, 2, 76, 77, 78, 79, 80, 81, 82, 83, 84, 85, 86, 87, 88, 89] (by decide +kernel) (by decide +kernel)
set_option maxRecDepth 20000 in
theorem gX6_rename_X6_isEachOnce : GoodIn wsX6_rename (wsV RX6 185 RX6 yX6_isEachOnce wsX6_isEachOnce) := goodIn_app (goodIn_of _ (by decide +kernel)) ggX6_rename_X6_isEachOnce
set_option maxRecDepth 20000 in
theorem ggX6_rename_X1_translated : GoodIn wsX6_rename wsX1_translated := goodIn_r _ [27, 28, 29, 71, 72, 73, 74, 75] (by decide +kernel) (by decide +kernel)
set_option maxRecDepth 20000 in
theorem gX6_rename_X1_translated : GoodIn wsX6_rename (wsV RX6 188 RX1 yX1_translated wsX1_translated) := goodIn_app (goodIn_of _ (by decide +kernel)) ggX6_rename_X1_translated
set_option maxRecDepth 20000 in
theorem ggX6_rename_X1_tells : GoodIn wsX6_rename wsX1_tells := goodIn_r _ [33, 34, 71, 72, 73, 74, 75] (by decide +kernel) (by decide +kernel)
set_option maxRecDepth 20000 in
theorem gX6_rename_X1_tells : GoodIn wsX6_rename (wsV RX6 103 RX1 yX1_tells wsX1_tells) := goodIn_app (goodIn_of _ (by decide +kernel)) ggX6_rename_X1_tells
set_option maxRecDepth 20000 in
theorem ggX6_rename_X6_placeOnTape : GoodIn wsX6_rename wsX6_placeOnTape := goodIn_r _ [38, 2, 76, 77, 78, 79, 80, 81, 82, 83, 84, 85, 86, 87, 88, 89] (by decide +kernel) (by decide +kernel)
set_option maxRecDepth 20000 in
theorem gX6_rename_X6_placeOnTape : GoodIn wsX6_rename (wsV RX6 192 RX6 yX6_placeOnTape wsX6_placeOnTape) := goodIn_app (goodIn_of _ (by decide +kernel)) ggX6_rename_X6_placeOnTape
set_option maxRecDepth 20000 in
theorem ggX6_rename_X1_init : GoodIn wsX6_rename wsX1_init := goodIn_r _ [41, 42, 43, 44, 45, 46, 47, 48, 29, 28, 49, 50, 34, 51, 10, 52, 53, 54, 55, 56, 57, 58, 59, 60, 61, 62, 63, 64, 65, 66, 67, 68, 69, 70, 71, 72, 73, 74, 75] (by decide +kernel) (by decide +kernel)
set_option maxRecDepth 20000 in
theorem gX6_rename_X1_init : GoodIn wsX6_rename (wsX1_init) := ggX6_rename_X1_init
theorem dX6_rename_0 : decode cX6_rename 0 = .ok (.aload_n 0, 1) := by decide +kernel
theorem dX6_rename_1 : decode cX6_rename 1 = .ok (.invokevirtual 60, 3) := by decide +kernel
theorem dX6_rename_4 : decode cX6_rename 4 = .ok (.istore_n 3, 1) := by decide +kernel
theorem dX6_rename_5 : decode cX6_rename 5 = .ok (.aload_n 0, 1) := by decide +kernel
theorem dX6_rename_6 : decode cX6_rename 6 = .ok (.iload_n 1, 1) := by decide +kernel
theorem dX6_rename_7 : decode cX6_rename 7 = .ok (.invokevirtual 83, 3) := by decide +kernel
theorem dX6_rename_10 : decode cX6_rename 10 = .ok (.astore 4, 2) := by decide +kernel
theorem dX6_rename_12 : decode cX6_rename 12 = .ok (.aload 4, 2) := by decide +kernel
theorem dX6_rename_14 : decode cX6_rename 14 = .ok (.ifnull 27, 3) := by decide +kernel
theorem dX6_rename_17 : decode cX6_rename 17 = .ok (.iload_n 2, 1) := by decide +kernel
theorem dX6_rename_18 : decode cX6_rename 18 = .ok (.invokestatic 64, 3) := by decide +kernel
theorem dX6_rename_21 : decode cX6_rename 21 = .ok (.ifCond .eq 20, 3) := by decide +kernel
theorem dX6_rename_24 : decode cX6_rename 24 = .ok (.iload_n 3, 1) := by decide +kernel
theorem dX6_rename_25 : decode cX6_rename 25 = .ok (.aload 4, 2) := by decide +kernel
theorem dX6_rename_27 : decode cX6_rename 27 = .ok (.getfield 87, 3) := by decide +kernel
theorem dX6_rename_30 : decode cX6_rename 30 = .ok (.if_icmp .ne 11, 3) := by decide +kernel
theorem dX6_rename_33 : decode cX6_rename 33 = .ok (.aload_n 0, 1) := by decide +kernel
theorem dX6_rename_34 : decode cX6_rename 34 = .ok (.iload_n 3, 1) := by decide +kernel
theorem dX6_rename_35 : decode cX6_rename 35 = .ok (.invokevirtual 185, 3) := by decide +kernel
theorem dX6_rename_38 : decode cX6_rename 38 = .ok (.ifCond .ne 5, 3) := by decide +kernel
theorem dX6_rename_41 : decode cX6_rename 41 = .ok (.iconst 0, 1) := by decide +kernel
theorem dX6_rename_42 : decode cX6_rename 42 = .ok (.ireturn, 1) := by decide +kernel
theorem dX6_rename_43 : decode cX6_rename 43 = .ok (.iconst 0, 1) := by decide +kernel
theorem dX6_rename_44 : decode cX6_rename 44 = .ok (.istore 5, 2) := by decide +kernel
theorem dX6_rename_46 : decode cX6_rename 46 = .ok (.iload 5, 2) := by decide +kernel
theorem dX6_rename_48 : decode cX6_rename 48 = .ok (.aload 4, 2) := by decide +kernel
theorem dX6_rename_50 : decode cX6_rename 50 = .ok (.getfield 100, 3) := by decide +kernel
theorem dX6_rename_53 : decode cX6_rename 53 = .ok (.if_icmp .ge 47, 3) := by decide +kernel
theorem dX6_rename_56 : decode cX6_rename 56 = .ok (.iload 5, 2) := by decide +kernel
theorem dX6_rename_58 : decode cX6_rename 58 = .ok (.aload_n 0, 1) := by decide +kernel
theorem dX6_rename_59 : decode cX6_rename 59 = .ok (.getfield 28, 3) := by decide +kernel
theorem dX6_rename_62 : decode cX6_rename 62 = .ok (.arraylength, 1) := by decide +kernel
theorem dX6_rename_63 : decode cX6_rename 63 = .ok (.if_icmp .ge 37, 3) := by decide +kernel
theorem dX6_rename_66 : decode cX6_rename 66 = .ok (.aload_n 0, 1) := by decide +kernel
theorem dX6_rename_67 : decode cX6_rename 67 = .ok (.getfield 28, 3) := by decide +kernel
theorem dX6_rename_70 : decode cX6_rename 70 = .ok (.iload 5, 2) := by decide +kernel
theorem dX6_rename_72 : decode cX6_rename 72 = .ok (.aload_n 0, 1) := by decide +kernel
theorem dX6_rename_73 : decode cX6_rename 73 = .ok (.aload 4, 2) := by decide +kernel
theorem dX6_rename_75 : decode cX6_rename 75 = .ok (.aload 4, 2) := by decide +kernel
theorem dX6_rename_77 : decode cX6_rename 77 = .ok (.iload 5, 2) := by decide +kernel
theorem dX6_rename_79 : decode cX6_rename 79 = .ok (.aload_n 0, 1) := by decide +kernel
theorem dX6_rename_80 : decode cX6_rename 80 = .ok (.getfield 15, 3) := by decide +kernel
theorem dX6_rename_83 : decode cX6_rename 83 = .ok (.invokevirtual 188, 3) := by decide +kernel
theorem dX6_rename_86 : decode cX6_rename 86 = .ok (.invokevirtual 103, 3) := by decide +kernel
theorem dX6_rename_89 : decode cX6_rename 89 = .ok (.iload_n 3, 1) := by decide +kernel
theorem dX6_rename_90 : decode cX6_rename 90 = .ok (.invokevirtual 192, 3) := by decide +kernel
theorem dX6_rename_93 : decode cX6_rename 93 = .ok (.iastore, 1) := by decide +kernel
theorem dX6_rename_94 : decode cX6_rename 94 = .ok (.iinc 5 1, 3) := by decide +kernel
theorem dX6_rename_97 : decode cX6_rename 97 = .ok (.goto (-51), 3) := by decide +kernel
theorem dX6_rename_100 : decode cX6_rename 100 = .ok (.aload_n 0, 1) := by decide +kernel
theorem dX6_rename_101 : decode cX6_rename 101 = .ok (.getfield 11, 3) := by decide +kernel
theorem dX6_rename_104 : decode cX6_rename 104 = .ok (.iload_n 2, 1) := by decide +kernel
theorem dX6_rename_105 : decode cX6_rename 105 = .ok (.new 9, 3) := by decide +kernel
theorem dX6_rename_108 : decode cX6_rename 108 = .ok (.dup, 1) := by decide +kernel
theorem dX6_rename_109 : decode cX6_rename 109 = .ok (.aload 4, 2) := by decide +kernel
theorem dX6_rename_111 : decode cX6_rename 111 = .ok (.getfield 87, 3) := by decide +kernel
theorem dX6_rename_114 : decode cX6_rename 114 = .ok (.aload 4, 2) := by decide +kernel
theorem dX6_rename_116 : decode cX6_rename 116 = .ok (.getfield 90, 3) := by decide +kernel
theorem dX6_rename_119 : decode cX6_rename 119 = .ok (.aload_n 0, 1) := by decide +kernel
theorem dX6_rename_120 : decode cX6_rename 120 = .ok (.getfield 28, 3) := by decide +kernel
theorem dX6_rename_123 : decode cX6_rename 123 = .ok (.invokespecial 80, 3) := by decide +kernel
theorem dX6_rename_126 : decode cX6_rename 126 = .ok (.aastore, 1) := by decide +kernel
theorem dX6_rename_127 : decode cX6_rename 127 = .ok (.iconst 1, 1) := by decide +kernel
theorem dX6_rename_128 : decode cX6_rename 128 = .ok (.ireturn, 1) := by decide +kernel
set_option maxRecDepth 20000 in
theorem ggX6_trim_X6_ruleIn : GoodIn wsX6_trim wsX6_ruleIn := goodIn_r _ [6, 1, 7, 8, 5, 9, 73, 74, 75, 76, 77, 78, 79, 80, 81, 82, 83, 84, 85, 86] (by decide +kernel) (by decide +kernel)
set_option maxRecDepth 20000 in
theorem gX6_trim_X6_ruleIn : GoodIn wsX6_trim (wsV RX6 83 RX6 yX6_ruleIn wsX6_ruleIn) := goodIn_app (goodIn_of _ (by decide +kernel)) ggX6_trim_X6_ruleIn
set_option maxRecDepth 20000 in
theorem ggX6_trim_X6_isSlot : GoodIn wsX6_trim wsX6_isSlot := goodIn_r _ [9] (by decide +kernel) (by decide +kernel)
set_option maxRecDepth 20000 in
theorem gX6_trim_X6_isSlot : GoodIn wsX6_trim (va_wsS RX6 64 yX6_isSlot wsX6_isSlot) := goodIn_app (goodIn_of _ (by decide +kernel)) ggX6_trim_X6_isSlot
set_option maxRecDepth 20000 in
theorem ggX6_trim_X1_idlesAhead : GoodIn wsX6_trim wsX1_idlesAhead := goodIn_r _ [14, 15, 16, 17, 18, 19, 20, 13, 21, 22, 68, 69, 70, 71, 72] (by decide +kernel) (by decide +kernel)
set_option maxRecDepth 20000 in
theorem gX6_trim_X1_idlesAhead : GoodIn wsX6_trim (wsV RX6 195 RX1 yX1_idlesAhead wsX1_idlesAhead) := goodIn_app (goodIn_of _ (by decide +kernel)) ggX6_trim_X1_idlesAhead
set_option maxRecDepth 20000 in
theorem ggX6_trim_X1_withoutAhead : GoodIn wsX6_trim wsX1_withoutAhead := goodIn_r _ [26, 27, 28, 13, 29, 15, 22, 30, 31, 32, 33, 34, 35, 36, 37, 38, 39, 16, 17, 40, 5, 41, 42, 43, 44, 45, 46, 47, 48, 49, 50, 51, 52, 53, 54, 55, 56, 57, 58, 59, 68, 69, 70, 71, 72] (by decide +kernel) (by decide +kernel)
set_option maxRecDepth 20000 in
theorem gX6_trim_X1_withoutAhead : GoodIn wsX6_trim (wsV RX6 199 RX1 yX1_withoutAhead wsX1_withoutAhead) := goodIn_app (goodIn_of _ (by decide +kernel)) ggX6_trim_X1_withoutAhead
set_option maxRecDepth 20000 in
theorem ggX6_trim_X1_idlesBehind : GoodIn wsX6_trim wsX1_idlesBehind := goodIn_r _ [63, 15, 17, 29, 18, 19, 20, 13, 21, 22, 68, 69, 70, 71, 72] (by decide +kernel) (by decide +kernel)
set_option maxRecDepth 20000 in
theorem gX6_trim_X1_idlesBehind : GoodIn wsX6_trim (wsV RX6 203 RX1 yX1_idlesBehind wsX1_idlesBehind) := goodIn_app (goodIn_of _ (by decide +kernel)) ggX6_trim_X1_idlesBehind
set_option maxRecDepth 20000 in
theorem ggX6_trim_X1_withoutBehind : GoodIn wsX6_trim wsX1_withoutBehind := goodIn_r _ [67, 16, 52, 29, 27, 28, 13, 15, 18, 19, 20, 21, 22, 30, 31, 32, 33, 34, 35, 36, 37, 38, 39, 17, 40, 5, 41, 42, 43, 44, 45, 46, 47, 48, 49, 50, 51, 53, 54, 55, 56, 57, 58, 59, 68, 69, 70, 71, 72] (by decide +kernel) (by decide +kernel)
set_option maxRecDepth 20000 in
theorem gX6_trim_X1_withoutBehind : GoodIn wsX6_trim (wsV RX6 206 RX1 yX1_withoutBehind wsX1_withoutBehind) := goodIn_app (goodIn_of _ (by decide +kernel)) ggX6_trim_X1_withoutBehind
theorem dX6_trim_0 : decode cX6_trim 0 = .ok (.aload_n 0, 1) := by decide +kernel
theorem dX6_trim_1 : decode cX6_trim 1 = .ok (.iload_n 1, 1) := by decide +kernel
theorem dX6_trim_2 : decode cX6_trim 2 = .ok (.invokevirtual 83, 3) := by decide +kernel
theorem dX6_trim_5 : decode cX6_trim 5 = .ok (.astore_n 3, 1) := by decide +kernel
theorem dX6_trim_6 : decode cX6_trim 6 = .ok (.aload_n 3, 1) := by decide +kernel
theorem dX6_trim_7 : decode cX6_trim 7 = .ok (.ifnull 10, 3) := by decide +kernel
theorem dX6_trim_10 : decode cX6_trim 10 = .ok (.iload_n 2, 1) := by decide +kernel
theorem dX6_trim_11 : decode cX6_trim 11 = .ok (.invokestatic 64, 3) := by decide +kernel
theorem dX6_trim_14 : decode cX6_trim 14 = .ok (.ifCond .ne 5, 3) := by decide +kernel
theorem dX6_trim_17 : decode cX6_trim 17 = .ok (.iconst (-1), 1) := by decide +kernel
theorem dX6_trim_18 : decode cX6_trim 18 = .ok (.ireturn, 1) := by decide +kernel
theorem dX6_trim_19 : decode cX6_trim 19 = .ok (.iconst 0, 1) := by decide +kernel
theorem dX6_trim_20 : decode cX6_trim 20 = .ok (.istore 4, 2) := by decide +kernel
theorem dX6_trim_22 : decode cX6_trim 22 = .ok (.aload_n 3, 1) := by decide +kernel
theorem dX6_trim_23 : decode cX6_trim 23 = .ok (.getfield 90, 3) := by decide +kernel
theorem dX6_trim_26 : decode cX6_trim 26 = .ok (.istore 5, 2) := by decide +kernel
theorem dX6_trim_28 : decode cX6_trim 28 = .ok (.iload 5, 2) := by decide +kernel
theorem dX6_trim_30 : decode cX6_trim 30 = .ok (.iconst 1, 1) := by decide +kernel
theorem dX6_trim_31 : decode cX6_trim 31 = .ok (.if_icmp .le 24, 3) := by decide +kernel
theorem dX6_trim_34 : decode cX6_trim 34 = .ok (.aload_n 3, 1) := by decide +kernel
theorem dX6_trim_35 : decode cX6_trim 35 = .ok (.invokevirtual 195, 3) := by decide +kernel
theorem dX6_trim_38 : decode cX6_trim 38 = .ok (.ifCond .eq 17, 3) := by decide +kernel
theorem dX6_trim_41 : decode cX6_trim 41 = .ok (.aload_n 3, 1) := by decide +kernel
theorem dX6_trim_42 : decode cX6_trim 42 = .ok (.invokevirtual 199, 3) := by decide +kernel
theorem dX6_trim_45 : decode cX6_trim 45 = .ok (.astore_n 3, 1) := by decide +kernel
theorem dX6_trim_46 : decode cX6_trim 46 = .ok (.iinc 4 1, 3) := by decide +kernel
theorem dX6_trim_49 : decode cX6_trim 49 = .ok (.iinc 5 (-1), 3) := by decide +kernel
theorem dX6_trim_52 : decode cX6_trim 52 = .ok (.goto (-24), 3) := by decide +kernel
theorem dX6_trim_55 : decode cX6_trim 55 = .ok (.aload_n 3, 1) := by decide +kernel
theorem dX6_trim_56 : decode cX6_trim 56 = .ok (.getfield 90, 3) := by decide +kernel
theorem dX6_trim_59 : decode cX6_trim 59 = .ok (.istore 5, 2) := by decide +kernel
theorem dX6_trim_61 : decode cX6_trim 61 = .ok (.iload 5, 2) := by decide +kernel
theorem dX6_trim_63 : decode cX6_trim 63 = .ok (.iconst 1, 1) := by decide +kernel
theorem dX6_trim_64 : decode cX6_trim 64 = .ok (.if_icmp .le 21, 3) := by decide +kernel
theorem dX6_trim_67 : decode cX6_trim 67 = .ok (.aload_n 3, 1) := by decide +kernel
theorem dX6_trim_68 : decode cX6_trim 68 = .ok (.invokevirtual 203, 3) := by decide +kernel
theorem dX6_trim_71 : decode cX6_trim 71 = .ok (.ifCond .eq 14, 3) := by decide +kernel
theorem dX6_trim_74 : decode cX6_trim 74 = .ok (.aload_n 3, 1) := by decide +kernel
theorem dX6_trim_75 : decode cX6_trim 75 = .ok (.invokevirtual 206, 3) := by decide +kernel
theorem dX6_trim_78 : decode cX6_trim 78 = .ok (.astore_n 3, 1) := by decide +kernel
theorem dX6_trim_79 : decode cX6_trim 79 = .ok (.iinc 5 (-1), 3) := by decide +kernel
theorem dX6_trim_82 : decode cX6_trim 82 = .ok (.goto (-21), 3) := by decide +kernel
theorem dX6_trim_85 : decode cX6_trim 85 = .ok (.aload_n 0, 1) := by decide +kernel
theorem dX6_trim_86 : decode cX6_trim 86 = .ok (.getfield 11, 3) := by decide +kernel
theorem dX6_trim_89 : decode cX6_trim 89 = .ok (.iload_n 2, 1) := by decide +kernel
theorem dX6_trim_90 : decode cX6_trim 90 = .ok (.aload_n 3, 1) := by decide +kernel
theorem dX6_trim_91 : decode cX6_trim 91 = .ok (.aastore, 1) := by decide +kernel
theorem dX6_trim_92 : decode cX6_trim 92 = .ok (.iload 4, 2) := by decide +kernel
theorem dX6_trim_94 : decode cX6_trim 94 = .ok (.ireturn, 1) := by decide +kernel
theorem dX6_octet_0 : decode cX6_octet 0 = .ok (.iload_n 1, 1) := by decide +kernel
theorem dX6_octet_1 : decode cX6_octet 1 = .ok (.ifCond .lt 20, 3) := by decide +kernel
theorem dX6_octet_4 : decode cX6_octet 4 = .ok (.iload_n 1, 1) := by decide +kernel
theorem dX6_octet_5 : decode cX6_octet 5 = .ok (.aload_n 0, 1) := by decide +kernel
theorem dX6_octet_6 : decode cX6_octet 6 = .ok (.getfield 106, 3) := by decide +kernel
theorem dX6_octet_9 : decode cX6_octet 9 = .ok (.if_icmp .ge 12, 3) := by decide +kernel
theorem dX6_octet_12 : decode cX6_octet 12 = .ok (.iload_n 1, 1) := by decide +kernel
theorem dX6_octet_13 : decode cX6_octet 13 = .ok (.aload_n 0, 1) := by decide +kernel
theorem dX6_octet_14 : decode cX6_octet 14 = .ok (.getfield 19, 3) := by decide +kernel
theorem dX6_octet_17 : decode cX6_octet 17 = .ok (.arraylength, 1) := by decide +kernel
theorem dX6_octet_18 : decode cX6_octet 18 = .ok (.if_icmp .lt 13, 3) := by decide +kernel
theorem dX6_octet_21 : decode cX6_octet 21 = .ok (.new 209, 3) := by decide +kernel
theorem dX6_octet_24 : decode cX6_octet 24 = .ok (.dup, 1) := by decide +kernel
theorem dX6_octet_25 : decode cX6_octet 25 = .ok (.ldc 211, 2) := by decide +kernel
theorem dX6_octet_27 : decode cX6_octet 27 = .ok (.invokespecial 213, 3) := by decide +kernel
theorem dX6_octet_30 : decode cX6_octet 30 = .ok (.athrow, 1) := by decide +kernel
theorem dX6_octet_31 : decode cX6_octet 31 = .ok (.aload_n 0, 1) := by decide +kernel
theorem dX6_octet_32 : decode cX6_octet 32 = .ok (.getfield 19, 3) := by decide +kernel
theorem dX6_octet_35 : decode cX6_octet 35 = .ok (.iload_n 1, 1) := by decide +kernel
theorem dX6_octet_36 : decode cX6_octet 36 = .ok (.iaload, 1) := by decide +kernel
theorem dX6_octet_37 : decode cX6_octet 37 = .ok (.ireturn, 1) := by decide +kernel
set_option maxRecDepth 20000 in
theorem ggX6_count_X6_fullSlots : GoodIn wsX6_count wsX6_fullSlots := goodIn_r _ [7, 8, 9, 10, 11, 12, 13, 14, 15, 16, 17, 18, 19, 20, 21, 22] (by decide +kernel) (by decide +kernel)
set_option maxRecDepth 20000 in
theorem gX6_count_X6_fullSlots : GoodIn wsX6_count (wsV RX6 216 RX6 yX6_fullSlots wsX6_fullSlots) := goodIn_app (goodIn_of _ (by decide +kernel)) ggX6_count_X6_fullSlots
theorem dX6_count_0 : decode cX6_count 0 = .ok (.iload_n 1, 1) := by decide +kernel
theorem dX6_count_1 : decode cX6_count 1 = .ok (.tableswitch 42 0 2 #[27, 32, 37], 27) := by decide +kernel
theorem dX6_count_28 : decode cX6_count 28 = .ok (.aload_n 0, 1) := by decide +kernel
theorem dX6_count_29 : decode cX6_count 29 = .ok (.invokevirtual 216, 3) := by decide +kernel
theorem dX6_count_32 : decode cX6_count 32 = .ok (.ireturn, 1) := by decide +kernel
theorem dX6_count_33 : decode cX6_count 33 = .ok (.aload_n 0, 1) := by decide +kernel
theorem dX6_count_34 : decode cX6_count 34 = .ok (.getfield 52, 3) := by decide +kernel
theorem dX6_count_37 : decode cX6_count 37 = .ok (.ireturn, 1) := by decide +kernel
theorem dX6_count_38 : decode cX6_count 38 = .ok (.aload_n 0, 1) := by decide +kernel
theorem dX6_count_39 : decode cX6_count 39 = .ok (.getfield 106, 3) := by decide +kernel
theorem dX6_count_42 : decode cX6_count 42 = .ok (.ireturn, 1) := by decide +kernel
theorem dX6_count_43 : decode cX6_count 43 = .ok (.iconst (-1), 1) := by decide +kernel
theorem dX6_count_44 : decode cX6_count 44 = .ok (.ireturn, 1) := by decide +kernel
theorem dX6_putBytes_0 : decode cX6_putBytes 0 = .ok (.bipush 24, 2) := by decide +kernel
theorem dX6_putBytes_2 : decode cX6_putBytes 2 = .ok (.istore_n 2, 1) := by decide +kernel
theorem dX6_putBytes_3 : decode cX6_putBytes 3 = .ok (.iload_n 2, 1) := by decide +kernel
theorem dX6_putBytes_4 : decode cX6_putBytes 4 = .ok (.ifCond .lt 44, 3) := by decide +kernel
theorem dX6_putBytes_7 : decode cX6_putBytes 7 = .ok (.aload_n 0, 1) := by decide +kernel
theorem dX6_putBytes_8 : decode cX6_putBytes 8 = .ok (.getfield 52, 3) := by decide +kernel
theorem dX6_putBytes_11 : decode cX6_putBytes 11 = .ok (.bipush 100, 2) := by decide +kernel
theorem dX6_putBytes_13 : decode cX6_putBytes 13 = .ok (.if_icmp .ge 35, 3) := by decide +kernel
theorem dX6_putBytes_16 : decode cX6_putBytes 16 = .ok (.aload_n 0, 1) := by decide +kernel
theorem dX6_putBytes_17 : decode cX6_putBytes 17 = .ok (.getfield 15, 3) := by decide +kernel
theorem dX6_putBytes_20 : decode cX6_putBytes 20 = .ok (.aload_n 0, 1) := by decide +kernel
theorem dX6_putBytes_21 : decode cX6_putBytes 21 = .ok (.getfield 52, 3) := by decide +kernel
theorem dX6_putBytes_24 : decode cX6_putBytes 24 = .ok (.iload_n 1, 1) := by decide +kernel
theorem dX6_putBytes_25 : decode cX6_putBytes 25 = .ok (.iload_n 2, 1) := by decide +kernel
theorem dX6_putBytes_26 : decode cX6_putBytes 26 = .ok (.iushr, 1) := by decide +kernel
theorem dX6_putBytes_27 : decode cX6_putBytes 27 = .ok (.sipush 255, 3) := by decide +kernel
theorem dX6_putBytes_30 : decode cX6_putBytes 30 = .ok (.iand, 1) := by decide +kernel
theorem dX6_putBytes_31 : decode cX6_putBytes 31 = .ok (.iastore, 1) := by decide +kernel
theorem dX6_putBytes_32 : decode cX6_putBytes 32 = .ok (.aload_n 0, 1) := by decide +kernel
theorem dX6_putBytes_33 : decode cX6_putBytes 33 = .ok (.dup, 1) := by decide +kernel
theorem dX6_putBytes_34 : decode cX6_putBytes 34 = .ok (.getfield 52, 3) := by decide +kernel
theorem dX6_putBytes_37 : decode cX6_putBytes 37 = .ok (.iconst 1, 1) := by decide +kernel
theorem dX6_putBytes_38 : decode cX6_putBytes 38 = .ok (.iadd, 1) := by decide +kernel
theorem dX6_putBytes_39 : decode cX6_putBytes 39 = .ok (.putfield 52, 3) := by decide +kernel
theorem dX6_putBytes_42 : decode cX6_putBytes 42 = .ok (.iinc 2 (-8), 3) := by decide +kernel
theorem dX6_putBytes_45 : decode cX6_putBytes 45 = .ok (.goto (-42), 3) := by decide +kernel
theorem dX6_putBytes_48 : decode cX6_putBytes 48 = .ok (.return_, 1) := by decide +kernel
theorem dX6_takeTape_0 : decode cX6_takeTape 0 = .ok (.aload_n 0, 1) := by decide +kernel
theorem dX6_takeTape_1 : decode cX6_takeTape 1 = .ok (.getfield 52, 3) := by decide +kernel
theorem dX6_takeTape_4 : decode cX6_takeTape 4 = .ok (.istore_n 1, 1) := by decide +kernel
theorem dX6_takeTape_5 : decode cX6_takeTape 5 = .ok (.aload_n 0, 1) := by decide +kernel
theorem dX6_takeTape_6 : decode cX6_takeTape 6 = .ok (.iconst 0, 1) := by decide +kernel
theorem dX6_takeTape_7 : decode cX6_takeTape 7 = .ok (.putfield 52, 3) := by decide +kernel
theorem dX6_takeTape_10 : decode cX6_takeTape 10 = .ok (.iload_n 1, 1) := by decide +kernel
theorem dX6_takeTape_11 : decode cX6_takeTape 11 = .ok (.ireturn, 1) := by decide +kernel
theorem dX6_areStates_0 : decode cX6_areStates 0 = .ok (.iconst 0, 1) := by decide +kernel
theorem dX6_areStates_1 : decode cX6_areStates 1 = .ok (.istore_n 3, 1) := by decide +kernel
theorem dX6_areStates_2 : decode cX6_areStates 2 = .ok (.iload_n 3, 1) := by decide +kernel
theorem dX6_areStates_3 : decode cX6_areStates 3 = .ok (.iload_n 2, 1) := by decide +kernel
theorem dX6_areStates_4 : decode cX6_areStates 4 = .ok (.if_icmp .ge 27, 3) := by decide +kernel
theorem dX6_areStates_7 : decode cX6_areStates 7 = .ok (.iload_n 3, 1) := by decide +kernel
theorem dX6_areStates_8 : decode cX6_areStates 8 = .ok (.bipush 100, 2) := by decide +kernel
theorem dX6_areStates_10 : decode cX6_areStates 10 = .ok (.if_icmp .ge 21, 3) := by decide +kernel
theorem dX6_areStates_13 : decode cX6_areStates 13 = .ok (.aload_n 0, 1) := by decide +kernel
theorem dX6_areStates_14 : decode cX6_areStates 14 = .ok (.getfield 15, 3) := by decide +kernel
theorem dX6_areStates_17 : decode cX6_areStates 17 = .ok (.iload_n 3, 1) := by decide +kernel
theorem dX6_areStates_18 : decode cX6_areStates 18 = .ok (.iaload, 1) := by decide +kernel
theorem dX6_areStates_19 : decode cX6_areStates 19 = .ok (.iload_n 1, 1) := by decide +kernel
theorem dX6_areStates_20 : decode cX6_areStates 20 = .ok (.if_icmp .lt 5, 3) := by decide +kernel
theorem dX6_areStates_23 : decode cX6_areStates 23 = .ok (.iconst 0, 1) := by decide +kernel
theorem dX6_areStates_24 : decode cX6_areStates 24 = .ok (.ireturn, 1) := by decide +kernel
theorem dX6_areStates_25 : decode cX6_areStates 25 = .ok (.iinc 3 1, 3) := by decide +kernel
theorem dX6_areStates_28 : decode cX6_areStates 28 = .ok (.goto (-26), 3) := by decide +kernel
theorem dX6_areStates_31 : decode cX6_areStates 31 = .ok (.iconst 1, 1) := by decide +kernel
theorem dX6_areStates_32 : decode cX6_areStates 32 = .ok (.ireturn, 1) := by decide +kernel
set_option maxRecDepth 20000 in
theorem ggX6_areFewStates_X6_areStates : GoodIn wsX6_areFewStates wsX6_areStates := goodIn_r _ [5, 6, 7, 8, 9, 10, 11, 12, 13, 14, 15, 16, 17, 18, 19, 20] (by decide +kernel) (by decide +kernel)
set_option maxRecDepth 20000 in
theorem gX6_areFewStates_X6_areStates : GoodIn wsX6_areFewStates (wsV RX6 76 RX6 yX6_areStates wsX6_areStates) := goodIn_app (goodIn_of _ (by decide +kernel)) ggX6_areFewStates_X6_areStates
theorem dX6_areFewStates_0 : decode cX6_areFewStates 0 = .ok (.iload_n 2, 1) := by decide +kernel
theorem dX6_areFewStates_1 : decode cX6_areFewStates 1 = .ok (.iconst 1, 1) := by decide +kernel
theorem dX6_areFewStates_2 : decode cX6_areFewStates 2 = .ok (.if_icmp .lt 22, 3) := by decide +kernel
theorem dX6_areFewStates_5 : decode cX6_areFewStates 5 = .ok (.iload_n 2, 1) := by decide +kernel
theorem dX6_areFewStates_6 : decode cX6_areFewStates 6 = .ok (.bipush 20, 2) := by decide +kernel
theorem dX6_areFewStates_8 : decode cX6_areFewStates 8 = .ok (.if_icmp .gt 16, 3) := by decide +kernel
theorem dX6_areFewStates_11 : decode cX6_areFewStates 11 = .ok (.aload_n 0, 1) := by decide +kernel
theorem dX6_areFewStates_12 : decode cX6_areFewStates 12 = .ok (.iload_n 1, 1) := by decide +kernel
theorem dX6_areFewStates_13 : decode cX6_areFewStates 13 = .ok (.iload_n 2, 1) := by decide +kernel
theorem dX6_areFewStates_14 : decode cX6_areFewStates 14 = .ok (.invokevirtual 76, 3) := by decide +kernel
theorem dX6_areFewStates_17 : decode cX6_areFewStates 17 = .ok (.ifCond .eq 7, 3) := by decide +kernel
theorem dX6_areFewStates_20 : decode cX6_areFewStates 20 = .ok (.iconst 1, 1) := by decide +kernel
theorem dX6_areFewStates_21 : decode cX6_areFewStates 21 = .ok (.goto 4, 3) := by decide +kernel
theorem dX6_areFewStates_24 : decode cX6_areFewStates 24 = .ok (.iconst 0, 1) := by decide +kernel
theorem dX6_areFewStates_25 : decode cX6_areFewStates 25 = .ok (.ireturn, 1) := by decide +kernel
theorem dX6_isEachOnce_0 : decode cX6_isEachOnce 0 = .ok (.iconst 0, 1) := by decide +kernel
theorem dX6_isEachOnce_1 : decode cX6_isEachOnce 1 = .ok (.istore_n 2, 1) := by decide +kernel
theorem dX6_isEachOnce_2 : decode cX6_isEachOnce 2 = .ok (.iconst 0, 1) := by decide +kernel
theorem dX6_isEachOnce_3 : decode cX6_isEachOnce 3 = .ok (.istore_n 3, 1) := by decide +kernel
theorem dX6_isEachOnce_4 : decode cX6_isEachOnce 4 = .ok (.iload_n 3, 1) := by decide +kernel
theorem dX6_isEachOnce_5 : decode cX6_isEachOnce 5 = .ok (.iload_n 1, 1) := by decide +kernel
theorem dX6_isEachOnce_6 : decode cX6_isEachOnce 6 = .ok (.if_icmp .ge 35, 3) := by decide +kernel
theorem dX6_isEachOnce_9 : decode cX6_isEachOnce 9 = .ok (.iload_n 3, 1) := by decide +kernel
theorem dX6_isEachOnce_10 : decode cX6_isEachOnce 10 = .ok (.iconst 4, 1) := by decide +kernel
theorem dX6_isEachOnce_11 : decode cX6_isEachOnce 11 = .ok (.if_icmp .ge 30, 3) := by decide +kernel
theorem dX6_isEachOnce_14 : decode cX6_isEachOnce 14 = .ok (.aload_n 0, 1) := by decide +kernel
theorem dX6_isEachOnce_15 : decode cX6_isEachOnce 15 = .ok (.getfield 15, 3) := by decide +kernel
theorem dX6_isEachOnce_18 : decode cX6_isEachOnce 18 = .ok (.iload_n 3, 1) := by decide +kernel
theorem dX6_isEachOnce_19 : decode cX6_isEachOnce 19 = .ok (.iaload, 1) := by decide +kernel
theorem dX6_isEachOnce_20 : decode cX6_isEachOnce 20 = .ok (.iload_n 1, 1) := by decide +kernel
theorem dX6_isEachOnce_21 : decode cX6_isEachOnce 21 = .ok (.if_icmp .ge 14, 3) := by decide +kernel
theorem dX6_isEachOnce_24 : decode cX6_isEachOnce 24 = .ok (.iload_n 2, 1) := by decide +kernel
theorem dX6_isEachOnce_25 : decode cX6_isEachOnce 25 = .ok (.iconst 1, 1) := by decide +kernel
theorem dX6_isEachOnce_26 : decode cX6_isEachOnce 26 = .ok (.aload_n 0, 1) := by decide +kernel
theorem dX6_isEachOnce_27 : decode cX6_isEachOnce 27 = .ok (.getfield 15, 3) := by decide +kernel
theorem dX6_isEachOnce_30 : decode cX6_isEachOnce 30 = .ok (.iload_n 3, 1) := by decide +kernel
theorem dX6_isEachOnce_31 : decode cX6_isEachOnce 31 = .ok (.iaload, 1) := by decide +kernel
theorem dX6_isEachOnce_32 : decode cX6_isEachOnce 32 = .ok (.ishl, 1) := by decide +kernel
theorem dX6_isEachOnce_33 : decode cX6_isEachOnce 33 = .ok (.ior, 1) := by decide +kernel
theorem dX6_isEachOnce_34 : decode cX6_isEachOnce 34 = .ok (.istore_n 2, 1) := by decide +kernel
theorem dX6_isEachOnce_35 : decode cX6_isEachOnce 35 = .ok (.iinc 3 1, 3) := by decide +kernel
theorem dX6_isEachOnce_38 : decode cX6_isEachOnce 38 = .ok (.goto (-34), 3) := by decide +kernel
theorem dX6_isEachOnce_41 : decode cX6_isEachOnce 41 = .ok (.iload_n 2, 1) := by decide +kernel
theorem dX6_isEachOnce_42 : decode cX6_isEachOnce 42 = .ok (.iconst 1, 1) := by decide +kernel
theorem dX6_isEachOnce_43 : decode cX6_isEachOnce 43 = .ok (.iload_n 1, 1) := by decide +kernel
theorem dX6_isEachOnce_44 : decode cX6_isEachOnce 44 = .ok (.ishl, 1) := by decide +kernel
theorem dX6_isEachOnce_45 : decode cX6_isEachOnce 45 = .ok (.iconst 1, 1) := by decide +kernel
theorem dX6_isEachOnce_46 : decode cX6_isEachOnce 46 = .ok (.isub, 1) := by decide +kernel
theorem dX6_isEachOnce_47 : decode cX6_isEachOnce 47 = .ok (.if_icmp .ne 7, 3) := by decide +kernel
theorem dX6_isEachOnce_50 : decode cX6_isEachOnce 50 = .ok (.iconst 1, 1) := by decide +kernel
theorem dX6_isEachOnce_51 : decode cX6_isEachOnce 51 = .ok (.goto 4, 3) := by decide +kernel
theorem dX6_isEachOnce_54 : decode cX6_isEachOnce 54 = .ok (.iconst 0, 1) := by decide +kernel
theorem dX6_isEachOnce_55 : decode cX6_isEachOnce 55 = .ok (.ireturn, 1) := by decide +kernel
theorem dX6_placeOnTape_0 : decode cX6_placeOnTape 0 = .ok (.iconst 0, 1) := by decide +kernel
theorem dX6_placeOnTape_1 : decode cX6_placeOnTape 1 = .ok (.istore_n 3, 1) := by decide +kernel
theorem dX6_placeOnTape_2 : decode cX6_placeOnTape 2 = .ok (.iconst 0, 1) := by decide +kernel
theorem dX6_placeOnTape_3 : decode cX6_placeOnTape 3 = .ok (.istore 4, 2) := by decide +kernel
theorem dX6_placeOnTape_5 : decode cX6_placeOnTape 5 = .ok (.iload 4, 2) := by decide +kernel
theorem dX6_placeOnTape_7 : decode cX6_placeOnTape 7 = .ok (.iload_n 2, 1) := by decide +kernel
theorem dX6_placeOnTape_8 : decode cX6_placeOnTape 8 = .ok (.if_icmp .ge 33, 3) := by decide +kernel
theorem dX6_placeOnTape_11 : decode cX6_placeOnTape 11 = .ok (.iload 4, 2) := by decide +kernel
theorem dX6_placeOnTape_13 : decode cX6_placeOnTape 13 = .ok (.aload_n 0, 1) := by decide +kernel
theorem dX6_placeOnTape_14 : decode cX6_placeOnTape 14 = .ok (.getfield 15, 3) := by decide +kernel
theorem dX6_placeOnTape_17 : decode cX6_placeOnTape 17 = .ok (.arraylength, 1) := by decide +kernel
theorem dX6_placeOnTape_18 : decode cX6_placeOnTape 18 = .ok (.if_icmp .ge 23, 3) := by decide +kernel
theorem dX6_placeOnTape_21 : decode cX6_placeOnTape 21 = .ok (.aload_n 0, 1) := by decide +kernel
theorem dX6_placeOnTape_22 : decode cX6_placeOnTape 22 = .ok (.getfield 15, 3) := by decide +kernel
theorem dX6_placeOnTape_25 : decode cX6_placeOnTape 25 = .ok (.iload 4, 2) := by decide +kernel
theorem dX6_placeOnTape_27 : decode cX6_placeOnTape 27 = .ok (.iaload, 1) := by decide +kernel
theorem dX6_placeOnTape_28 : decode cX6_placeOnTape 28 = .ok (.iload_n 1, 1) := by decide +kernel
theorem dX6_placeOnTape_29 : decode cX6_placeOnTape 29 = .ok (.if_icmp .ne 6, 3) := by decide +kernel
theorem dX6_placeOnTape_32 : decode cX6_placeOnTape 32 = .ok (.iload 4, 2) := by decide +kernel
theorem dX6_placeOnTape_34 : decode cX6_placeOnTape 34 = .ok (.istore_n 3, 1) := by decide +kernel
theorem dX6_placeOnTape_35 : decode cX6_placeOnTape 35 = .ok (.iinc 4 1, 3) := by decide +kernel
theorem dX6_placeOnTape_38 : decode cX6_placeOnTape 38 = .ok (.goto (-33), 3) := by decide +kernel
theorem dX6_placeOnTape_41 : decode cX6_placeOnTape 41 = .ok (.iload_n 3, 1) := by decide +kernel
theorem dX6_placeOnTape_42 : decode cX6_placeOnTape 42 = .ok (.ireturn, 1) := by decide +kernel
theorem dX6_fullSlots_0 : decode cX6_fullSlots 0 = .ok (.iconst 0, 1) := by decide +kernel
theorem dX6_fullSlots_1 : decode cX6_fullSlots 1 = .ok (.istore_n 1, 1) := by decide +kernel
theorem dX6_fullSlots_2 : decode cX6_fullSlots 2 = .ok (.iconst 0, 1) := by decide +kernel
theorem dX6_fullSlots_3 : decode cX6_fullSlots 3 = .ok (.istore_n 2, 1) := by decide +kernel
theorem dX6_fullSlots_4 : decode cX6_fullSlots 4 = .ok (.iload_n 2, 1) := by decide +kernel
theorem dX6_fullSlots_5 : decode cX6_fullSlots 5 = .ok (.bipush 6, 2) := by decide +kernel
theorem dX6_fullSlots_7 : decode cX6_fullSlots 7 = .ok (.if_icmp .ge 21, 3) := by decide +kernel
theorem dX6_fullSlots_10 : decode cX6_fullSlots 10 = .ok (.aload_n 0, 1) := by decide +kernel
theorem dX6_fullSlots_11 : decode cX6_fullSlots 11 = .ok (.getfield 11, 3) := by decide +kernel
theorem dX6_fullSlots_14 : decode cX6_fullSlots 14 = .ok (.iload_n 2, 1) := by decide +kernel
theorem dX6_fullSlots_15 : decode cX6_fullSlots 15 = .ok (.aaload, 1) := by decide +kernel
theorem dX6_fullSlots_16 : decode cX6_fullSlots 16 = .ok (.ifnull 6, 3) := by decide +kernel
theorem dX6_fullSlots_19 : decode cX6_fullSlots 19 = .ok (.iinc 1 1, 3) := by decide +kernel
theorem dX6_fullSlots_22 : decode cX6_fullSlots 22 = .ok (.iinc 2 1, 3) := by decide +kernel
theorem dX6_fullSlots_25 : decode cX6_fullSlots 25 = .ok (.goto (-21), 3) := by decide +kernel
theorem dX6_fullSlots_28 : decode cX6_fullSlots 28 = .ok (.iload_n 1, 1) := by decide +kernel
theorem dX6_fullSlots_29 : decode cX6_fullSlots 29 = .ok (.ireturn, 1) := by decide +kernel
set_option maxRecDepth 20000 in
theorem ggX6_ruleIn_X6_isSlot : GoodIn wsX6_ruleIn wsX6_isSlot := goodIn_r _ [5] (by decide +kernel) (by decide +kernel)
set_option maxRecDepth 20000 in
theorem gX6_ruleIn_X6_isSlot : GoodIn wsX6_ruleIn (va_wsS RX6 64 yX6_isSlot wsX6_isSlot) := goodIn_app (goodIn_of _ (by decide +kernel)) ggX6_ruleIn_X6_isSlot
theorem dX6_ruleIn_0 : decode cX6_ruleIn 0 = .ok (.iload_n 1, 1) := by decide +kernel
theorem dX6_ruleIn_1 : decode cX6_ruleIn 1 = .ok (.invokestatic 64, 3) := by decide +kernel
theorem dX6_ruleIn_4 : decode cX6_ruleIn 4 = .ok (.ifCond .eq 12, 3) := by decide +kernel
theorem dX6_ruleIn_7 : decode cX6_ruleIn 7 = .ok (.aload_n 0, 1) := by decide +kernel
theorem dX6_ruleIn_8 : decode cX6_ruleIn 8 = .ok (.getfield 11, 3) := by decide +kernel
theorem dX6_ruleIn_11 : decode cX6_ruleIn 11 = .ok (.iload_n 1, 1) := by decide +kernel
theorem dX6_ruleIn_12 : decode cX6_ruleIn 12 = .ok (.aaload, 1) := by decide +kernel
theorem dX6_ruleIn_13 : decode cX6_ruleIn 13 = .ok (.goto 4, 3) := by decide +kernel
theorem dX6_ruleIn_16 : decode cX6_ruleIn 16 = .ok (.aconst_null, 1) := by decide +kernel
theorem dX6_ruleIn_17 : decode cX6_ruleIn 17 = .ok (.areturn, 1) := by decide +kernel
set_option maxRecDepth 20000 in
theorem ggX6_turnsBack_X6_power : GoodIn wsX6_turnsBack wsX6_power := goodIn_r _ [7] (by decide +kernel) (by decide +kernel)
set_option maxRecDepth 20000 in
theorem gX6_turnsBack_X6_power : GoodIn wsX6_turnsBack (va_wsS RX6 72 yX6_power wsX6_power) := goodIn_app (goodIn_of _ (by decide +kernel)) ggX6_turnsBack_X6_power
set_option maxRecDepth 20000 in
theorem ggX6_turnsBack_J7_fill_53178 : GoodIn wsX6_turnsBack wsJ7_fill_53178 := goodIn_r _ [11] (by decide +kernel) (by decide +kernel)
set_option maxRecDepth 20000 in
theorem gX6_turnsBack_J7_fill_53178 : GoodIn wsX6_turnsBack (va_wsS RX6 219 yJ7_fill_53178 wsJ7_fill_53178) := goodIn_app (goodIn_of _ (by decide +kernel)) ggX6_turnsBack_J7_fill_53178
set_option maxRecDepth 20000 in
theorem ggX6_turnsBack_X1_spread : GoodIn wsX6_turnsBack wsX1_spread := goodIn_r _ [16, 17, 18, 19, 20, 21, 33, 34, 35, 36, 37] (by decide +kernel) (by decide +kernel)
set_option maxRecDepth 20000 in
theorem gX6_turnsBack_X1_spread : GoodIn wsX6_turnsBack (wsV RX6 179 RX1 yX1_spread wsX1_spread) := goodIn_app (goodIn_of _ (by decide +kernel)) ggX6_turnsBack_X1_spread
set_option maxRecDepth 20000 in
theorem ggX6_turnsBack_X1_grow : GoodIn wsX6_turnsBack wsX1_grow := goodIn_r _ [25, 26, 21, 27, 28, 29, 30, 15, 31, 32, 33, 34, 35, 36, 37] (by decide +kernel) (by decide +kernel)
set_option maxRecDepth 20000 in
theorem gX6_turnsBack_X1_grow : GoodIn wsX6_turnsBack (wsV RX6 109 RX1 yX1_grow wsX1_grow) := goodIn_app (goodIn_of _ (by decide +kernel)) ggX6_turnsBack_X1_grow
theorem dX6_turnsBack_0 : decode cX6_turnsBack 0 = .ok (.aload_n 1, 1) := by decide +kernel
theorem dX6_turnsBack_1 : decode cX6_turnsBack 1 = .ok (.getfield 90, 3) := by decide +kernel
theorem dX6_turnsBack_4 : decode cX6_turnsBack 4 = .ok (.iload_n 2, 1) := by decide +kernel
theorem dX6_turnsBack_5 : decode cX6_turnsBack 5 = .ok (.iadd, 1) := by decide +kernel
theorem dX6_turnsBack_6 : decode cX6_turnsBack 6 = .ok (.iconst 1, 1) := by decide +kernel
theorem dX6_turnsBack_7 : decode cX6_turnsBack 7 = .ok (.isub, 1) := by decide +kernel
theorem dX6_turnsBack_8 : decode cX6_turnsBack 8 = .ok (.istore 4, 2) := by decide +kernel
theorem dX6_turnsBack_10 : decode cX6_turnsBack 10 = .ok (.aload_n 1, 1) := by decide +kernel
theorem dX6_turnsBack_11 : decode cX6_turnsBack 11 = .ok (.getfield 87, 3) := by decide +kernel
theorem dX6_turnsBack_14 : decode cX6_turnsBack 14 = .ok (.iload 4, 2) := by decide +kernel
theorem dX6_turnsBack_16 : decode cX6_turnsBack 16 = .ok (.invokestatic 72, 3) := by decide +kernel
theorem dX6_turnsBack_19 : decode cX6_turnsBack 19 = .ok (.istore 5, 2) := by decide +kernel
theorem dX6_turnsBack_21 : decode cX6_turnsBack 21 = .ok (.iload_n 3, 1) := by decide +kernel
theorem dX6_turnsBack_22 : decode cX6_turnsBack 22 = .ok (.ifCond .lt 19, 3) := by decide +kernel
theorem dX6_turnsBack_25 : decode cX6_turnsBack 25 = .ok (.iload_n 3, 1) := by decide +kernel
theorem dX6_turnsBack_26 : decode cX6_turnsBack 26 = .ok (.iload 4, 2) := by decide +kernel
theorem dX6_turnsBack_28 : decode cX6_turnsBack 28 = .ok (.if_icmp .ge 13, 3) := by decide +kernel
theorem dX6_turnsBack_31 : decode cX6_turnsBack 31 = .ok (.iload 4, 2) := by decide +kernel
theorem dX6_turnsBack_33 : decode cX6_turnsBack 33 = .ok (.aload_n 0, 1) := by decide +kernel
theorem dX6_turnsBack_34 : decode cX6_turnsBack 34 = .ok (.getfield 22, 3) := by decide +kernel
theorem dX6_turnsBack_37 : decode cX6_turnsBack 37 = .ok (.arraylength, 1) := by decide +kernel
theorem dX6_turnsBack_38 : decode cX6_turnsBack 38 = .ok (.if_icmp .le 5, 3) := by decide +kernel
theorem dX6_turnsBack_41 : decode cX6_turnsBack 41 = .ok (.iconst 0, 1) := by decide +kernel
theorem dX6_turnsBack_42 : decode cX6_turnsBack 42 = .ok (.ireturn, 1) := by decide +kernel
theorem dX6_turnsBack_43 : decode cX6_turnsBack 43 = .ok (.aload_n 0, 1) := by decide +kernel
theorem dX6_turnsBack_44 : decode cX6_turnsBack 44 = .ok (.getfield 28, 3) := by decide +kernel
theorem dX6_turnsBack_47 : decode cX6_turnsBack 47 = .ok (.iconst (-1), 1) := by decide +kernel
theorem dX6_turnsBack_48 : decode cX6_turnsBack 48 = .ok (.invokestatic 219, 3) := by decide +kernel
theorem dX6_turnsBack_51 : decode cX6_turnsBack 51 = .ok (.iconst 0, 1) := by decide +kernel
theorem dX6_turnsBack_52 : decode cX6_turnsBack 52 = .ok (.istore 6, 2) := by decide +kernel
theorem dX6_turnsBack_54 : decode cX6_turnsBack 54 = .ok (.iload 6, 2) := by decide +kernel
theorem dX6_turnsBack_56 : decode cX6_turnsBack 56 = .ok (.iload 5, 2) := by decide +kernel
theorem dX6_turnsBack_58 : decode cX6_turnsBack 58 = .ok (.if_icmp .ge 98, 3) := by decide +kernel
theorem dX6_turnsBack_61 : decode cX6_turnsBack 61 = .ok (.aload_n 1, 1) := by decide +kernel
theorem dX6_turnsBack_62 : decode cX6_turnsBack 62 = .ok (.iload 6, 2) := by decide +kernel
theorem dX6_turnsBack_64 : decode cX6_turnsBack 64 = .ok (.iload 4, 2) := by decide +kernel
theorem dX6_turnsBack_66 : decode cX6_turnsBack 66 = .ok (.aload_n 0, 1) := by decide +kernel
theorem dX6_turnsBack_67 : decode cX6_turnsBack 67 = .ok (.getfield 22, 3) := by decide +kernel
theorem dX6_turnsBack_70 : decode cX6_turnsBack 70 = .ok (.invokevirtual 179, 3) := by decide +kernel
theorem dX6_turnsBack_73 : decode cX6_turnsBack 73 = .ok (.aload_n 1, 1) := by decide +kernel
theorem dX6_turnsBack_74 : decode cX6_turnsBack 74 = .ok (.aload_n 0, 1) := by decide +kernel
theorem dX6_turnsBack_75 : decode cX6_turnsBack 75 = .ok (.getfield 22, 3) := by decide +kernel
theorem dX6_turnsBack_78 : decode cX6_turnsBack 78 = .ok (.iload 4, 2) := by decide +kernel
theorem dX6_turnsBack_80 : decode cX6_turnsBack 80 = .ok (.iload_n 2, 1) := by decide +kernel
theorem dX6_turnsBack_81 : decode cX6_turnsBack 81 = .ok (.aload_n 0, 1) := by decide +kernel
theorem dX6_turnsBack_82 : decode cX6_turnsBack 82 = .ok (.getfield 25, 3) := by decide +kernel
theorem dX6_turnsBack_85 : decode cX6_turnsBack 85 = .ok (.invokevirtual 109, 3) := by decide +kernel
theorem dX6_turnsBack_88 : decode cX6_turnsBack 88 = .ok (.l2i, 1) := by decide +kernel
theorem dX6_turnsBack_89 : decode cX6_turnsBack 89 = .ok (.istore 7, 2) := by decide +kernel
theorem dX6_turnsBack_91 : decode cX6_turnsBack 91 = .ok (.iload 7, 2) := by decide +kernel
theorem dX6_turnsBack_93 : decode cX6_turnsBack 93 = .ok (.ifCond .lt 13, 3) := by decide +kernel
theorem dX6_turnsBack_96 : decode cX6_turnsBack 96 = .ok (.iload 7, 2) := by decide +kernel
theorem dX6_turnsBack_98 : decode cX6_turnsBack 98 = .ok (.aload_n 0, 1) := by decide +kernel
theorem dX6_turnsBack_99 : decode cX6_turnsBack 99 = .ok (.getfield 28, 3) := by decide +kernel
theorem dX6_turnsBack_102 : decode cX6_turnsBack 102 = .ok (.arraylength, 1) := by decide +kernel
theorem dX6_turnsBack_103 : decode cX6_turnsBack 103 = .ok (.if_icmp .lt 5, 3) := by decide +kernel
theorem dX6_turnsBack_106 : decode cX6_turnsBack 106 = .ok (.iconst 0, 1) := by decide +kernel
theorem dX6_turnsBack_107 : decode cX6_turnsBack 107 = .ok (.ireturn, 1) := by decide +kernel
theorem dX6_turnsBack_108 : decode cX6_turnsBack 108 = .ok (.aload_n 0, 1) := by decide +kernel
theorem dX6_turnsBack_109 : decode cX6_turnsBack 109 = .ok (.getfield 28, 3) := by decide +kernel
theorem dX6_turnsBack_112 : decode cX6_turnsBack 112 = .ok (.iload 7, 2) := by decide +kernel
theorem dX6_turnsBack_114 : decode cX6_turnsBack 114 = .ok (.iaload, 1) := by decide +kernel
theorem dX6_turnsBack_115 : decode cX6_turnsBack 115 = .ok (.iconst (-1), 1) := by decide +kernel
theorem dX6_turnsBack_116 : decode cX6_turnsBack 116 = .ok (.if_icmp .ne 16, 3) := by decide +kernel
theorem dX6_turnsBack_119 : decode cX6_turnsBack 119 = .ok (.aload_n 0, 1) := by decide +kernel
theorem dX6_turnsBack_120 : decode cX6_turnsBack 120 = .ok (.getfield 28, 3) := by decide +kernel
theorem dX6_turnsBack_123 : decode cX6_turnsBack 123 = .ok (.iload 7, 2) := by decide +kernel
theorem dX6_turnsBack_125 : decode cX6_turnsBack 125 = .ok (.aload_n 0, 1) := by decide +kernel
theorem dX6_turnsBack_126 : decode cX6_turnsBack 126 = .ok (.getfield 22, 3) := by decide +kernel
theorem dX6_turnsBack_129 : decode cX6_turnsBack 129 = .ok (.iload_n 3, 1) := by decide +kernel
theorem dX6_turnsBack_130 : decode cX6_turnsBack 130 = .ok (.iaload, 1) := by decide +kernel
theorem dX6_turnsBack_131 : decode cX6_turnsBack 131 = .ok (.iastore, 1) := by decide +kernel
theorem dX6_turnsBack_132 : decode cX6_turnsBack 132 = .ok (.aload_n 0, 1) := by decide +kernel
theorem dX6_turnsBack_133 : decode cX6_turnsBack 133 = .ok (.getfield 28, 3) := by decide +kernel
theorem dX6_turnsBack_136 : decode cX6_turnsBack 136 = .ok (.iload 7, 2) := by decide +kernel
theorem dX6_turnsBack_138 : decode cX6_turnsBack 138 = .ok (.iaload, 1) := by decide +kernel
theorem dX6_turnsBack_139 : decode cX6_turnsBack 139 = .ok (.aload_n 0, 1) := by decide +kernel
theorem dX6_turnsBack_140 : decode cX6_turnsBack 140 = .ok (.getfield 22, 3) := by decide +kernel
theorem dX6_turnsBack_143 : decode cX6_turnsBack 143 = .ok (.iload_n 3, 1) := by decide +kernel
theorem dX6_turnsBack_144 : decode cX6_turnsBack 144 = .ok (.iaload, 1) := by decide +kernel
theorem dX6_turnsBack_145 : decode cX6_turnsBack 145 = .ok (.if_icmp .eq 5, 3) := by decide +kernel
theorem dX6_turnsBack_148 : decode cX6_turnsBack 148 = .ok (.iconst 0, 1) := by decide +kernel
theorem dX6_turnsBack_149 : decode cX6_turnsBack 149 = .ok (.ireturn, 1) := by decide +kernel
theorem dX6_turnsBack_150 : decode cX6_turnsBack 150 = .ok (.iinc 6 1, 3) := by decide +kernel
theorem dX6_turnsBack_153 : decode cX6_turnsBack 153 = .ok (.goto (-99), 3) := by decide +kernel
theorem dX6_turnsBack_156 : decode cX6_turnsBack 156 = .ok (.iconst 1, 1) := by decide +kernel
theorem dX6_turnsBack_157 : decode cX6_turnsBack 157 = .ok (.ireturn, 1) := by decide +kernel
theorem dX6_isSlot_0 : decode cX6_isSlot 0 = .ok (.iload_n 0, 1) := by decide +kernel
theorem dX6_isSlot_1 : decode cX6_isSlot 1 = .ok (.ifCond .lt 13, 3) := by decide +kernel
theorem dX6_isSlot_4 : decode cX6_isSlot 4 = .ok (.iload_n 0, 1) := by decide +kernel
theorem dX6_isSlot_5 : decode cX6_isSlot 5 = .ok (.bipush 6, 2) := by decide +kernel
theorem dX6_isSlot_7 : decode cX6_isSlot 7 = .ok (.if_icmp .ge 7, 3) := by decide +kernel
theorem dX6_isSlot_10 : decode cX6_isSlot 10 = .ok (.iconst 1, 1) := by decide +kernel
theorem dX6_isSlot_11 : decode cX6_isSlot 11 = .ok (.goto 4, 3) := by decide +kernel
theorem dX6_isSlot_14 : decode cX6_isSlot 14 = .ok (.iconst 0, 1) := by decide +kernel
theorem dX6_isSlot_15 : decode cX6_isSlot 15 = .ok (.ireturn, 1) := by decide +kernel
theorem dX6_mostWidth_0 : decode cX6_mostWidth 0 = .ok (.iload_n 0, 1) := by decide +kernel
theorem dX6_mostWidth_1 : decode cX6_mostWidth 1 = .ok (.ifCond .lt 19, 3) := by decide +kernel
theorem dX6_mostWidth_4 : decode cX6_mostWidth 4 = .ok (.iload_n 0, 1) := by decide +kernel
theorem dX6_mostWidth_5 : decode cX6_mostWidth 5 = .ok (.getstatic 225, 3) := by decide +kernel
theorem dX6_mostWidth_8 : decode cX6_mostWidth 8 = .ok (.arraylength, 1) := by decide +kernel
theorem dX6_mostWidth_9 : decode cX6_mostWidth 9 = .ok (.if_icmp .ge 11, 3) := by decide +kernel
theorem dX6_mostWidth_12 : decode cX6_mostWidth 12 = .ok (.getstatic 225, 3) := by decide +kernel
theorem dX6_mostWidth_15 : decode cX6_mostWidth 15 = .ok (.iload_n 0, 1) := by decide +kernel
theorem dX6_mostWidth_16 : decode cX6_mostWidth 16 = .ok (.iaload, 1) := by decide +kernel
theorem dX6_mostWidth_17 : decode cX6_mostWidth 17 = .ok (.goto 4, 3) := by decide +kernel
theorem dX6_mostWidth_20 : decode cX6_mostWidth 20 = .ok (.iconst 0, 1) := by decide +kernel
theorem dX6_mostWidth_21 : decode cX6_mostWidth 21 = .ok (.ireturn, 1) := by decide +kernel
theorem dX6_power_0 : decode cX6_power 0 = .ok (.iconst 1, 1) := by decide +kernel
theorem dX6_power_1 : decode cX6_power 1 = .ok (.istore_n 2, 1) := by decide +kernel
theorem dX6_power_2 : decode cX6_power 2 = .ok (.iconst 0, 1) := by decide +kernel
theorem dX6_power_3 : decode cX6_power 3 = .ok (.istore_n 3, 1) := by decide +kernel
theorem dX6_power_4 : decode cX6_power 4 = .ok (.iload_n 3, 1) := by decide +kernel
theorem dX6_power_5 : decode cX6_power 5 = .ok (.iload_n 1, 1) := by decide +kernel
theorem dX6_power_6 : decode cX6_power 6 = .ok (.if_icmp .ge 13, 3) := by decide +kernel
theorem dX6_power_9 : decode cX6_power 9 = .ok (.iload_n 2, 1) := by decide +kernel
theorem dX6_power_10 : decode cX6_power 10 = .ok (.iload_n 0, 1) := by decide +kernel
theorem dX6_power_11 : decode cX6_power 11 = .ok (.imul, 1) := by decide +kernel
theorem dX6_power_12 : decode cX6_power 12 = .ok (.istore_n 2, 1) := by decide +kernel
theorem dX6_power_13 : decode cX6_power 13 = .ok (.iinc 3 1, 3) := by decide +kernel
theorem dX6_power_16 : decode cX6_power 16 = .ok (.goto (-12), 3) := by decide +kernel
theorem dX6_power_19 : decode cX6_power 19 = .ok (.iload_n 2, 1) := by decide +kernel
theorem dX6_power_20 : decode cX6_power 20 = .ok (.ireturn, 1) := by decide +kernel
theorem dX6_ringsOf_0 : decode cX6_ringsOf 0 = .ok (.iload_n 1, 1) := by decide +kernel
theorem dX6_ringsOf_1 : decode cX6_ringsOf 1 = .ok (.iconst 1, 1) := by decide +kernel
theorem dX6_ringsOf_2 : decode cX6_ringsOf 2 = .ok (.if_icmp .ge 5, 3) := by decide +kernel
theorem dX6_ringsOf_5 : decode cX6_ringsOf 5 = .ok (.iconst (-1), 1) := by decide +kernel
theorem dX6_ringsOf_6 : decode cX6_ringsOf 6 = .ok (.ireturn, 1) := by decide +kernel
theorem dX6_ringsOf_7 : decode cX6_ringsOf 7 = .ok (.iconst 1, 1) := by decide +kernel
theorem dX6_ringsOf_8 : decode cX6_ringsOf 8 = .ok (.istore_n 2, 1) := by decide +kernel
theorem dX6_ringsOf_9 : decode cX6_ringsOf 9 = .ok (.iconst 0, 1) := by decide +kernel
theorem dX6_ringsOf_10 : decode cX6_ringsOf 10 = .ok (.istore_n 3, 1) := by decide +kernel
theorem dX6_ringsOf_11 : decode cX6_ringsOf 11 = .ok (.iload_n 3, 1) := by decide +kernel
theorem dX6_ringsOf_12 : decode cX6_ringsOf 12 = .ok (.iload_n 1, 1) := by decide +kernel
theorem dX6_ringsOf_13 : decode cX6_ringsOf 13 = .ok (.if_icmp .ge 20, 3) := by decide +kernel
theorem dX6_ringsOf_16 : decode cX6_ringsOf 16 = .ok (.iload_n 2, 1) := by decide +kernel
theorem dX6_ringsOf_17 : decode cX6_ringsOf 17 = .ok (.sipush 4096, 3) := by decide +kernel
theorem dX6_ringsOf_20 : decode cX6_ringsOf 20 = .ok (.if_icmp .gt 13, 3) := by decide +kernel
theorem dX6_ringsOf_23 : decode cX6_ringsOf 23 = .ok (.iload_n 2, 1) := by decide +kernel
theorem dX6_ringsOf_24 : decode cX6_ringsOf 24 = .ok (.iload_n 0, 1) := by decide +kernel
theorem dX6_ringsOf_25 : decode cX6_ringsOf 25 = .ok (.imul, 1) := by decide +kernel
theorem dX6_ringsOf_26 : decode cX6_ringsOf 26 = .ok (.istore_n 2, 1) := by decide +kernel
theorem dX6_ringsOf_27 : decode cX6_ringsOf 27 = .ok (.iinc 3 1, 3) := by decide +kernel
theorem dX6_ringsOf_30 : decode cX6_ringsOf 30 = .ok (.goto (-19), 3) := by decide +kernel
theorem dX6_ringsOf_33 : decode cX6_ringsOf 33 = .ok (.iload_n 2, 1) := by decide +kernel
theorem dX6_ringsOf_34 : decode cX6_ringsOf 34 = .ok (.sipush 4096, 3) := by decide +kernel
theorem dX6_ringsOf_37 : decode cX6_ringsOf 37 = .ok (.if_icmp .gt 7, 3) := by decide +kernel
theorem dX6_ringsOf_40 : decode cX6_ringsOf 40 = .ok (.iload_n 2, 1) := by decide +kernel
theorem dX6_ringsOf_41 : decode cX6_ringsOf 41 = .ok (.goto 4, 3) := by decide +kernel
theorem dX6_ringsOf_44 : decode cX6_ringsOf 44 = .ok (.iconst (-1), 1) := by decide +kernel
theorem dX6_ringsOf_45 : decode cX6_ringsOf 45 = .ok (.ireturn, 1) := by decide +kernel
theorem dJ9_max_7cf53_0 : decode cJ9_max_7cf53 0 = .ok (.iload_n 0, 1) := by decide +kernel
theorem dJ9_max_7cf53_1 : decode cJ9_max_7cf53 1 = .ok (.iload_n 1, 1) := by decide +kernel
theorem dJ9_max_7cf53_2 : decode cJ9_max_7cf53 2 = .ok (.if_icmp .lt 7, 3) := by decide +kernel
theorem dJ9_max_7cf53_5 : decode cJ9_max_7cf53 5 = .ok (.iload_n 0, 1) := by decide +kernel
theorem dJ9_max_7cf53_6 : decode cJ9_max_7cf53 6 = .ok (.goto 4, 3) := by decide +kernel
theorem dJ9_max_7cf53_9 : decode cJ9_max_7cf53 9 = .ok (.iload_n 1, 1) := by decide +kernel
theorem dJ9_max_7cf53_10 : decode cJ9_max_7cf53 10 = .ok (.ireturn, 1) := by decide +kernel
theorem dJ9_min_7cf53_0 : decode cJ9_min_7cf53 0 = .ok (.iload_n 0, 1) := by decide +kernel
theorem dJ9_min_7cf53_1 : decode cJ9_min_7cf53 1 = .ok (.iload_n 1, 1) := by decide +kernel
theorem dJ9_min_7cf53_2 : decode cJ9_min_7cf53 2 = .ok (.if_icmp .gt 7, 3) := by decide +kernel
theorem dJ9_min_7cf53_5 : decode cJ9_min_7cf53 5 = .ok (.iload_n 0, 1) := by decide +kernel
theorem dJ9_min_7cf53_6 : decode cJ9_min_7cf53 6 = .ok (.goto 4, 3) := by decide +kernel
theorem dJ9_min_7cf53_9 : decode cJ9_min_7cf53 9 = .ok (.iload_n 1, 1) := by decide +kernel
theorem dJ9_min_7cf53_10 : decode cJ9_min_7cf53 10 = .ok (.ireturn, 1) := by decide +kernel
theorem dJ7_fill_53178_0 : decode cJ7_fill_53178 0 = .ok (.iconst 0, 1) := by decide +kernel
theorem dJ7_fill_53178_1 : decode cJ7_fill_53178 1 = .ok (.istore_n 2, 1) := by decide +kernel
theorem dJ7_fill_53178_2 : decode cJ7_fill_53178 2 = .ok (.aload_n 0, 1) := by decide +kernel
theorem dJ7_fill_53178_3 : decode cJ7_fill_53178 3 = .ok (.arraylength, 1) := by decide +kernel
theorem dJ7_fill_53178_4 : decode cJ7_fill_53178 4 = .ok (.istore_n 3, 1) := by decide +kernel
theorem dJ7_fill_53178_5 : decode cJ7_fill_53178 5 = .ok (.iload_n 2, 1) := by decide +kernel
theorem dJ7_fill_53178_6 : decode cJ7_fill_53178 6 = .ok (.iload_n 3, 1) := by decide +kernel
theorem dJ7_fill_53178_7 : decode cJ7_fill_53178 7 = .ok (.if_icmp .ge 13, 3) := by decide +kernel
theorem dJ7_fill_53178_10 : decode cJ7_fill_53178 10 = .ok (.aload_n 0, 1) := by decide +kernel
theorem dJ7_fill_53178_11 : decode cJ7_fill_53178 11 = .ok (.iload_n 2, 1) := by decide +kernel
theorem dJ7_fill_53178_12 : decode cJ7_fill_53178 12 = .ok (.iload_n 1, 1) := by decide +kernel
theorem dJ7_fill_53178_13 : decode cJ7_fill_53178 13 = .ok (.iastore, 1) := by decide +kernel
theorem dJ7_fill_53178_14 : decode cJ7_fill_53178 14 = .ok (.iinc 2 1, 3) := by decide +kernel
theorem dJ7_fill_53178_17 : decode cJ7_fill_53178 17 = .ok (.goto (-12), 3) := by decide +kernel
theorem dJ7_fill_53178_20 : decode cJ7_fill_53178 20 = .ok (.return_, 1) := by decide +kernel
theorem dJ7_copyOf_59c91_0 : decode cJ7_copyOf_59c91 0 = .ok (.iload_n 1, 1) := by decide +kernel
theorem dJ7_copyOf_59c91_1 : decode cJ7_copyOf_59c91 1 = .ok (.aload_n 0, 1) := by decide +kernel
theorem dJ7_copyOf_59c91_2 : decode cJ7_copyOf_59c91 2 = .ok (.arraylength, 1) := by decide +kernel
theorem dJ7_copyOf_59c91_3 : decode cJ7_copyOf_59c91 3 = .ok (.if_icmp .ne 11, 3) := by decide +kernel
theorem dJ7_copyOf_59c91_6 : decode cJ7_copyOf_59c91 6 = .ok (.aload_n 0, 1) := by decide +kernel
theorem dJ7_copyOf_59c91_7 : decode cJ7_copyOf_59c91 7 = .ok (.invokevirtual 316, 3) := by decide +kernel
theorem dJ7_copyOf_59c91_10 : decode cJ7_copyOf_59c91 10 = .ok (.checkcast 317, 3) := by decide +kernel
theorem dJ7_copyOf_59c91_13 : decode cJ7_copyOf_59c91 13 = .ok (.areturn, 1) := by decide +kernel
theorem dJ7_copyOf_59c91_14 : decode cJ7_copyOf_59c91 14 = .ok (.iload_n 1, 1) := by decide +kernel
theorem dJ7_copyOf_59c91_15 : decode cJ7_copyOf_59c91 15 = .ok (.newarray .int, 2) := by decide +kernel
theorem dJ7_copyOf_59c91_17 : decode cJ7_copyOf_59c91 17 = .ok (.astore_n 2, 1) := by decide +kernel
theorem dJ7_copyOf_59c91_18 : decode cJ7_copyOf_59c91 18 = .ok (.aload_n 0, 1) := by decide +kernel
theorem dJ7_copyOf_59c91_19 : decode cJ7_copyOf_59c91 19 = .ok (.iconst 0, 1) := by decide +kernel
theorem dJ7_copyOf_59c91_20 : decode cJ7_copyOf_59c91 20 = .ok (.aload_n 2, 1) := by decide +kernel
theorem dJ7_copyOf_59c91_21 : decode cJ7_copyOf_59c91 21 = .ok (.iconst 0, 1) := by decide +kernel
theorem dJ7_copyOf_59c91_22 : decode cJ7_copyOf_59c91 22 = .ok (.aload_n 0, 1) := by decide +kernel
theorem dJ7_copyOf_59c91_23 : decode cJ7_copyOf_59c91 23 = .ok (.arraylength, 1) := by decide +kernel
theorem dJ7_copyOf_59c91_24 : decode cJ7_copyOf_59c91 24 = .ok (.iload_n 1, 1) := by decide +kernel
theorem dJ7_copyOf_59c91_25 : decode cJ7_copyOf_59c91 25 = .ok (.invokestatic 304, 3) := by decide +kernel
theorem dJ7_copyOf_59c91_28 : decode cJ7_copyOf_59c91 28 = .ok (.invokestatic 150, 3) := by decide +kernel
theorem dJ7_copyOf_59c91_31 : decode cJ7_copyOf_59c91 31 = .ok (.aload_n 2, 1) := by decide +kernel
theorem dJ7_copyOf_59c91_32 : decode cJ7_copyOf_59c91 32 = .ok (.areturn, 1) := by decide +kernel
