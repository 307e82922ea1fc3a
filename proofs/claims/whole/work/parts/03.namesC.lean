theorem dX0_init_0 : decode cX0_init 0 = .ok (.aload_n 0, 1) := by decide +kernel
theorem dX0_init_1 : decode cX0_init 1 = .ok (.invokespecial 3, 3) := by decide +kernel
theorem dX0_init_4 : decode cX0_init 4 = .ok (.aload_n 0, 1) := by decide +kernel
theorem dX0_init_5 : decode cX0_init 5 = .ok (.bipush 7, 2) := by decide +kernel
theorem dX0_init_7 : decode cX0_init 7 = .ok (.newarray .int, 2) := by decide +kernel
theorem dX0_init_9 : decode cX0_init 9 = .ok (.putfield 9, 3) := by decide +kernel
theorem dX0_init_12 : decode cX0_init 12 = .ok (.aload_n 0, 1) := by decide +kernel
theorem dX0_init_13 : decode cX0_init 13 = .ok (.bipush 7, 2) := by decide +kernel
theorem dX0_init_15 : decode cX0_init 15 = .ok (.newarray .int, 2) := by decide +kernel
theorem dX0_init_17 : decode cX0_init 17 = .ok (.putfield 15, 3) := by decide +kernel
theorem dX0_init_20 : decode cX0_init 20 = .ok (.aload_n 0, 1) := by decide +kernel
theorem dX0_init_21 : decode cX0_init 21 = .ok (.bipush 7, 2) := by decide +kernel
theorem dX0_init_23 : decode cX0_init 23 = .ok (.newarray .int, 2) := by decide +kernel
theorem dX0_init_25 : decode cX0_init 25 = .ok (.putfield 18, 3) := by decide +kernel
theorem dX0_init_28 : decode cX0_init 28 = .ok (.return_, 1) := by decide +kernel
set_option maxRecDepth 20000 in
theorem ggX0_comesOff_X3_worthTo : GoodIn wsX0_comesOff wsX3_worthTo := goodIn_r _ [5, 6, 7, 8, 9] (by decide +kernel) (by decide +kernel)
set_option maxRecDepth 20000 in
theorem gX0_comesOff_X3_worthTo_n21 : GoodIn wsX0_comesOff (wsX3_worthTo) := ggX0_comesOff_X3_worthTo
theorem dX0_comesOff_0 : decode cX0_comesOff 0 = .ok (.aload_n 0, 1) := by decide +kernel
theorem dX0_comesOff_1 : decode cX0_comesOff 1 = .ok (.getfield 9, 3) := by decide +kernel
theorem dX0_comesOff_4 : decode cX0_comesOff 4 = .ok (.iload_n 1, 1) := by decide +kernel
theorem dX0_comesOff_5 : decode cX0_comesOff 5 = .ok (.iaload, 1) := by decide +kernel
theorem dX0_comesOff_6 : decode cX0_comesOff 6 = .ok (.iload_n 2, 1) := by decide +kernel
theorem dX0_comesOff_7 : decode cX0_comesOff 7 = .ok (.invokestatic 21, 3) := by decide +kernel
theorem dX0_comesOff_10 : decode cX0_comesOff 10 = .ok (.iconst 5, 1) := by decide +kernel
theorem dX0_comesOff_11 : decode cX0_comesOff 11 = .ok (.aload_n 0, 1) := by decide +kernel
theorem dX0_comesOff_12 : decode cX0_comesOff 12 = .ok (.getfield 18, 3) := by decide +kernel
theorem dX0_comesOff_15 : decode cX0_comesOff 15 = .ok (.iload_n 1, 1) := by decide +kernel
theorem dX0_comesOff_16 : decode cX0_comesOff 16 = .ok (.iaload, 1) := by decide +kernel
theorem dX0_comesOff_17 : decode cX0_comesOff 17 = .ok (.imul, 1) := by decide +kernel
theorem dX0_comesOff_18 : decode cX0_comesOff 18 = .ok (.if_icmp .lt 7, 3) := by decide +kernel
theorem dX0_comesOff_21 : decode cX0_comesOff 21 = .ok (.iconst 1, 1) := by decide +kernel
theorem dX0_comesOff_22 : decode cX0_comesOff 22 = .ok (.goto 4, 3) := by decide +kernel
theorem dX0_comesOff_25 : decode cX0_comesOff 25 = .ok (.iconst 0, 1) := by decide +kernel
theorem dX0_comesOff_26 : decode cX0_comesOff 26 = .ok (.ireturn, 1) := by decide +kernel
theorem dX0_jarBehind_0 : decode cX0_jarBehind 0 = .ok (.bipush 99, 2) := by decide +kernel
theorem dX0_jarBehind_2 : decode cX0_jarBehind 2 = .ok (.iload_n 2, 1) := by decide +kernel
theorem dX0_jarBehind_3 : decode cX0_jarBehind 3 = .ok (.iload_n 3, 1) := by decide +kernel
theorem dX0_jarBehind_4 : decode cX0_jarBehind 4 = .ok (.aload_n 0, 1) := by decide +kernel
theorem dX0_jarBehind_5 : decode cX0_jarBehind 5 = .ok (.getfield 15, 3) := by decide +kernel
theorem dX0_jarBehind_8 : decode cX0_jarBehind 8 = .ok (.iload_n 1, 1) := by decide +kernel
theorem dX0_jarBehind_9 : decode cX0_jarBehind 9 = .ok (.iaload, 1) := by decide +kernel
theorem dX0_jarBehind_10 : decode cX0_jarBehind 10 = .ok (.imul, 1) := by decide +kernel
theorem dX0_jarBehind_11 : decode cX0_jarBehind 11 = .ok (.iadd, 1) := by decide +kernel
theorem dX0_jarBehind_12 : decode cX0_jarBehind 12 = .ok (.invokestatic 25, 3) := by decide +kernel
theorem dX0_jarBehind_15 : decode cX0_jarBehind 15 = .ok (.ireturn, 1) := by decide +kernel
set_option maxRecDepth 20000 in
theorem ggX0_leastMore_X0_comesOff : GoodIn wsX0_leastMore wsX0_comesOff := goodIn_r _ [5, 6, 7, 8, 9, 10, 11, 12, 13, 14, 15, 16, 17, 18] (by decide +kernel) (by decide +kernel)
set_option maxRecDepth 20000 in
theorem gX0_leastMore_X0_comesOff : GoodIn wsX0_leastMore (wsV RX0 30 RX0 yX0_comesOff wsX0_comesOff) := goodIn_app (goodIn_of _ (by decide +kernel)) ggX0_leastMore_X0_comesOff
theorem dX0_leastMore_0 : decode cX0_leastMore 0 = .ok (.iload_n 2, 1) := by decide +kernel
theorem dX0_leastMore_1 : decode cX0_leastMore 1 = .ok (.istore_n 3, 1) := by decide +kernel
theorem dX0_leastMore_2 : decode cX0_leastMore 2 = .ok (.iload_n 3, 1) := by decide +kernel
theorem dX0_leastMore_3 : decode cX0_leastMore 3 = .ok (.bipush 99, 2) := by decide +kernel
theorem dX0_leastMore_5 : decode cX0_leastMore 5 = .ok (.if_icmp .gt 22, 3) := by decide +kernel
theorem dX0_leastMore_8 : decode cX0_leastMore 8 = .ok (.aload_n 0, 1) := by decide +kernel
theorem dX0_leastMore_9 : decode cX0_leastMore 9 = .ok (.iload_n 1, 1) := by decide +kernel
theorem dX0_leastMore_10 : decode cX0_leastMore 10 = .ok (.iload_n 3, 1) := by decide +kernel
theorem dX0_leastMore_11 : decode cX0_leastMore 11 = .ok (.invokevirtual 30, 3) := by decide +kernel
theorem dX0_leastMore_14 : decode cX0_leastMore 14 = .ok (.ifCond .eq 7, 3) := by decide +kernel
theorem dX0_leastMore_17 : decode cX0_leastMore 17 = .ok (.iload_n 3, 1) := by decide +kernel
theorem dX0_leastMore_18 : decode cX0_leastMore 18 = .ok (.iload_n 2, 1) := by decide +kernel
theorem dX0_leastMore_19 : decode cX0_leastMore 19 = .ok (.isub, 1) := by decide +kernel
theorem dX0_leastMore_20 : decode cX0_leastMore 20 = .ok (.ireturn, 1) := by decide +kernel
theorem dX0_leastMore_21 : decode cX0_leastMore 21 = .ok (.iinc 3 1, 3) := by decide +kernel
theorem dX0_leastMore_24 : decode cX0_leastMore 24 = .ok (.goto (-22), 3) := by decide +kernel
theorem dX0_leastMore_27 : decode cX0_leastMore 27 = .ok (.bipush (-9), 2) := by decide +kernel
theorem dX0_leastMore_29 : decode cX0_leastMore 29 = .ok (.ireturn, 1) := by decide +kernel
set_option maxRecDepth 20000 in
theorem ggX0_ofKind_X3_isA : GoodIn wsX0_ofKind wsX3_isA := goodIn_r _ [5] (by decide +kernel) (by decide +kernel)
set_option maxRecDepth 20000 in
theorem gX0_ofKind_X3_isA_n38 : GoodIn wsX0_ofKind (wsX3_isA) := ggX0_ofKind_X3_isA
theorem dX0_ofKind_0 : decode cX0_ofKind 0 = .ok (.iconst 0, 1) := by decide +kernel
theorem dX0_ofKind_1 : decode cX0_ofKind 1 = .ok (.istore_n 2, 1) := by decide +kernel
theorem dX0_ofKind_2 : decode cX0_ofKind 2 = .ok (.iconst 0, 1) := by decide +kernel
theorem dX0_ofKind_3 : decode cX0_ofKind 3 = .ok (.istore_n 3, 1) := by decide +kernel
theorem dX0_ofKind_4 : decode cX0_ofKind 4 = .ok (.iload_n 3, 1) := by decide +kernel
theorem dX0_ofKind_5 : decode cX0_ofKind 5 = .ok (.aload_n 0, 1) := by decide +kernel
theorem dX0_ofKind_6 : decode cX0_ofKind 6 = .ok (.getfield 34, 3) := by decide +kernel
theorem dX0_ofKind_9 : decode cX0_ofKind 9 = .ok (.if_icmp .ge 25, 3) := by decide +kernel
theorem dX0_ofKind_12 : decode cX0_ofKind 12 = .ok (.aload_n 0, 1) := by decide +kernel
theorem dX0_ofKind_13 : decode cX0_ofKind 13 = .ok (.getfield 9, 3) := by decide +kernel
theorem dX0_ofKind_16 : decode cX0_ofKind 16 = .ok (.iload_n 3, 1) := by decide +kernel
theorem dX0_ofKind_17 : decode cX0_ofKind 17 = .ok (.iaload, 1) := by decide +kernel
theorem dX0_ofKind_18 : decode cX0_ofKind 18 = .ok (.iload_n 1, 1) := by decide +kernel
theorem dX0_ofKind_19 : decode cX0_ofKind 19 = .ok (.invokestatic 38, 3) := by decide +kernel
theorem dX0_ofKind_22 : decode cX0_ofKind 22 = .ok (.ifCond .eq 6, 3) := by decide +kernel
theorem dX0_ofKind_25 : decode cX0_ofKind 25 = .ok (.iinc 2 1, 3) := by decide +kernel
theorem dX0_ofKind_28 : decode cX0_ofKind 28 = .ok (.iinc 3 1, 3) := by decide +kernel
theorem dX0_ofKind_31 : decode cX0_ofKind 31 = .ok (.goto (-27), 3) := by decide +kernel
theorem dX0_ofKind_34 : decode cX0_ofKind 34 = .ok (.iload_n 2, 1) := by decide +kernel
theorem dX0_ofKind_35 : decode cX0_ofKind 35 = .ok (.ireturn, 1) := by decide +kernel
theorem dX1_init_0 : decode cX1_init 0 = .ok (.aload_n 0, 1) := by decide +kernel
theorem dX1_init_1 : decode cX1_init 1 = .ok (.invokespecial 3, 3) := by decide +kernel
theorem dX1_init_4 : decode cX1_init 4 = .ok (.aload_n 0, 1) := by decide +kernel
theorem dX1_init_5 : decode cX1_init 5 = .ok (.bipush 7, 2) := by decide +kernel
theorem dX1_init_7 : decode cX1_init 7 = .ok (.newarray .int, 2) := by decide +kernel
theorem dX1_init_9 : decode cX1_init 9 = .ok (.putfield 9, 3) := by decide +kernel
theorem dX1_init_12 : decode cX1_init 12 = .ok (.return_, 1) := by decide +kernel
theorem dX1_become_0 : decode cX1_become 0 = .ok (.aload_n 1, 1) := by decide +kernel
theorem dX1_become_1 : decode cX1_become 1 = .ok (.getfield 9, 3) := by decide +kernel
theorem dX1_become_4 : decode cX1_become 4 = .ok (.iconst 0, 1) := by decide +kernel
theorem dX1_become_5 : decode cX1_become 5 = .ok (.aload_n 0, 1) := by decide +kernel
theorem dX1_become_6 : decode cX1_become 6 = .ok (.getfield 9, 3) := by decide +kernel
theorem dX1_become_9 : decode cX1_become 9 = .ok (.iconst 0, 1) := by decide +kernel
theorem dX1_become_10 : decode cX1_become 10 = .ok (.bipush 7, 2) := by decide +kernel
theorem dX1_become_12 : decode cX1_become 12 = .ok (.invokestatic 15, 3) := by decide +kernel
theorem dX1_become_15 : decode cX1_become 15 = .ok (.aload_n 0, 1) := by decide +kernel
theorem dX1_become_16 : decode cX1_become 16 = .ok (.aload_n 1, 1) := by decide +kernel
theorem dX1_become_17 : decode cX1_become 17 = .ok (.getfield 21, 3) := by decide +kernel
theorem dX1_become_20 : decode cX1_become 20 = .ok (.putfield 21, 3) := by decide +kernel
theorem dX1_become_23 : decode cX1_become 23 = .ok (.aload_n 0, 1) := by decide +kernel
theorem dX1_become_24 : decode cX1_become 24 = .ok (.aload_n 1, 1) := by decide +kernel
theorem dX1_become_25 : decode cX1_become 25 = .ok (.getfield 25, 3) := by decide +kernel
theorem dX1_become_28 : decode cX1_become 28 = .ok (.putfield 25, 3) := by decide +kernel
theorem dX1_become_31 : decode cX1_become 31 = .ok (.return_, 1) := by decide +kernel
set_option maxRecDepth 20000 in
theorem ggX1_passDays_X0_jarBehind : GoodIn wsX1_passDays wsX0_jarBehind := goodIn_r _ [8, 9, 10, 11, 12, 13, 14, 15, 16, 17] (by decide +kernel) (by decide +kernel)
set_option maxRecDepth 20000 in
theorem gX1_passDays_X0_jarBehind : GoodIn wsX1_passDays (wsV RX1 33 RX0 yX0_jarBehind wsX0_jarBehind) := goodIn_app (goodIn_of _ (by decide +kernel)) ggX1_passDays_X0_jarBehind
theorem dX1_passDays_0 : decode cX1_passDays 0 = .ok (.iconst 0, 1) := by decide +kernel
theorem dX1_passDays_1 : decode cX1_passDays 1 = .ok (.istore_n 3, 1) := by decide +kernel
theorem dX1_passDays_2 : decode cX1_passDays 2 = .ok (.iload_n 3, 1) := by decide +kernel
theorem dX1_passDays_3 : decode cX1_passDays 3 = .ok (.aload_n 1, 1) := by decide +kernel
theorem dX1_passDays_4 : decode cX1_passDays 4 = .ok (.getfield 28, 3) := by decide +kernel
theorem dX1_passDays_7 : decode cX1_passDays 7 = .ok (.if_icmp .ge 27, 3) := by decide +kernel
theorem dX1_passDays_10 : decode cX1_passDays 10 = .ok (.aload_n 0, 1) := by decide +kernel
theorem dX1_passDays_11 : decode cX1_passDays 11 = .ok (.getfield 9, 3) := by decide +kernel
theorem dX1_passDays_14 : decode cX1_passDays 14 = .ok (.iload_n 3, 1) := by decide +kernel
theorem dX1_passDays_15 : decode cX1_passDays 15 = .ok (.aload_n 1, 1) := by decide +kernel
theorem dX1_passDays_16 : decode cX1_passDays 16 = .ok (.iload_n 3, 1) := by decide +kernel
theorem dX1_passDays_17 : decode cX1_passDays 17 = .ok (.aload_n 0, 1) := by decide +kernel
theorem dX1_passDays_18 : decode cX1_passDays 18 = .ok (.getfield 9, 3) := by decide +kernel
theorem dX1_passDays_21 : decode cX1_passDays 21 = .ok (.iload_n 3, 1) := by decide +kernel
theorem dX1_passDays_22 : decode cX1_passDays 22 = .ok (.iaload, 1) := by decide +kernel
theorem dX1_passDays_23 : decode cX1_passDays 23 = .ok (.iload_n 2, 1) := by decide +kernel
theorem dX1_passDays_24 : decode cX1_passDays 24 = .ok (.invokevirtual 33, 3) := by decide +kernel
theorem dX1_passDays_27 : decode cX1_passDays 27 = .ok (.iastore, 1) := by decide +kernel
theorem dX1_passDays_28 : decode cX1_passDays 28 = .ok (.iinc 3 1, 3) := by decide +kernel
theorem dX1_passDays_31 : decode cX1_passDays 31 = .ok (.goto (-29), 3) := by decide +kernel
theorem dX1_passDays_34 : decode cX1_passDays 34 = .ok (.aload_n 0, 1) := by decide +kernel
theorem dX1_passDays_35 : decode cX1_passDays 35 = .ok (.dup, 1) := by decide +kernel
theorem dX1_passDays_36 : decode cX1_passDays 36 = .ok (.getfield 21, 3) := by decide +kernel
theorem dX1_passDays_39 : decode cX1_passDays 39 = .ok (.iload_n 2, 1) := by decide +kernel
theorem dX1_passDays_40 : decode cX1_passDays 40 = .ok (.iadd, 1) := by decide +kernel
theorem dX1_passDays_41 : decode cX1_passDays 41 = .ok (.putfield 21, 3) := by decide +kernel
theorem dX1_passDays_44 : decode cX1_passDays 44 = .ok (.return_, 1) := by decide +kernel
set_option maxRecDepth 20000 in
theorem ggX1_shareOut_X1_brought : GoodIn wsX1_shareOut wsX1_brought := goodIn_r _ [8, 1, 9, 10, 11, 7, 12, 13, 3, 14, 15, 16, 17, 18, 19, 20, 21, 29, 30, 31, 32, 33, 34, 35] (by decide +kernel) (by decide +kernel)
set_option maxRecDepth 20000 in
theorem gX1_shareOut_X1_brought : GoodIn wsX1_shareOut (wsV RX1 37 RX1 yX1_brought wsX1_brought) := goodIn_app (goodIn_of _ (by decide +kernel)) ggX1_shareOut_X1_brought
set_option maxRecDepth 20000 in
theorem ggX1_shareOut_X1_bringsOf : GoodIn wsX1_shareOut wsX1_bringsOf := goodIn_r _ [12, 13, 3, 14, 15, 16, 17, 18, 19, 20, 21, 29, 30, 31, 32, 33, 34, 35] (by decide +kernel) (by decide +kernel)
set_option maxRecDepth 20000 in
theorem gX1_shareOut_X1_bringsOf : GoodIn wsX1_shareOut (wsV RX1 41 RX1 yX1_bringsOf wsX1_bringsOf) := goodIn_app (goodIn_of _ (by decide +kernel)) ggX1_shareOut_X1_bringsOf
set_option maxRecDepth 20000 in
theorem ggX1_shareOut_X1_receive : GoodIn wsX1_shareOut wsX1_receive := goodIn_r _ [25, 3, 26, 27, 20, 28, 2, 33, 34, 35] (by decide +kernel) (by decide +kernel)
set_option maxRecDepth 20000 in
theorem gX1_shareOut_X1_receive : GoodIn wsX1_shareOut (wsV RX1 45 RX1 yX1_receive wsX1_receive) := goodIn_app (goodIn_of _ (by decide +kernel)) ggX1_shareOut_X1_receive
theorem dX1_shareOut_0 : decode cX1_shareOut 0 = .ok (.aload_n 1, 1) := by decide +kernel
theorem dX1_shareOut_1 : decode cX1_shareOut 1 = .ok (.getfield 28, 3) := by decide +kernel
theorem dX1_shareOut_4 : decode cX1_shareOut 4 = .ok (.ifCond .ne 5, 3) := by decide +kernel
theorem dX1_shareOut_7 : decode cX1_shareOut 7 = .ok (.iconst 0, 1) := by decide +kernel
theorem dX1_shareOut_8 : decode cX1_shareOut 8 = .ok (.ireturn, 1) := by decide +kernel
theorem dX1_shareOut_9 : decode cX1_shareOut 9 = .ok (.aload_n 0, 1) := by decide +kernel
theorem dX1_shareOut_10 : decode cX1_shareOut 10 = .ok (.getfield 25, 3) := by decide +kernel
theorem dX1_shareOut_13 : decode cX1_shareOut 13 = .ok (.aload_n 0, 1) := by decide +kernel
theorem dX1_shareOut_14 : decode cX1_shareOut 14 = .ok (.aload_n 1, 1) := by decide +kernel
theorem dX1_shareOut_15 : decode cX1_shareOut 15 = .ok (.invokevirtual 37, 3) := by decide +kernel
theorem dX1_shareOut_18 : decode cX1_shareOut 18 = .ok (.iadd, 1) := by decide +kernel
theorem dX1_shareOut_19 : decode cX1_shareOut 19 = .ok (.istore_n 2, 1) := by decide +kernel
theorem dX1_shareOut_20 : decode cX1_shareOut 20 = .ok (.iload_n 2, 1) := by decide +kernel
theorem dX1_shareOut_21 : decode cX1_shareOut 21 = .ok (.aload_n 1, 1) := by decide +kernel
theorem dX1_shareOut_22 : decode cX1_shareOut 22 = .ok (.getfield 28, 3) := by decide +kernel
theorem dX1_shareOut_25 : decode cX1_shareOut 25 = .ok (.idiv, 1) := by decide +kernel
theorem dX1_shareOut_26 : decode cX1_shareOut 26 = .ok (.istore_n 3, 1) := by decide +kernel
theorem dX1_shareOut_27 : decode cX1_shareOut 27 = .ok (.aload_n 0, 1) := by decide +kernel
theorem dX1_shareOut_28 : decode cX1_shareOut 28 = .ok (.iload_n 2, 1) := by decide +kernel
theorem dX1_shareOut_29 : decode cX1_shareOut 29 = .ok (.aload_n 1, 1) := by decide +kernel
theorem dX1_shareOut_30 : decode cX1_shareOut 30 = .ok (.getfield 28, 3) := by decide +kernel
theorem dX1_shareOut_33 : decode cX1_shareOut 33 = .ok (.irem, 1) := by decide +kernel
theorem dX1_shareOut_34 : decode cX1_shareOut 34 = .ok (.putfield 25, 3) := by decide +kernel
theorem dX1_shareOut_37 : decode cX1_shareOut 37 = .ok (.iconst 0, 1) := by decide +kernel
theorem dX1_shareOut_38 : decode cX1_shareOut 38 = .ok (.istore 4, 2) := by decide +kernel
theorem dX1_shareOut_40 : decode cX1_shareOut 40 = .ok (.iload 4, 2) := by decide +kernel
theorem dX1_shareOut_42 : decode cX1_shareOut 42 = .ok (.aload_n 1, 1) := by decide +kernel
theorem dX1_shareOut_43 : decode cX1_shareOut 43 = .ok (.getfield 28, 3) := by decide +kernel
theorem dX1_shareOut_46 : decode cX1_shareOut 46 = .ok (.if_icmp .ge 33, 3) := by decide +kernel
theorem dX1_shareOut_49 : decode cX1_shareOut 49 = .ok (.aload_n 0, 1) := by decide +kernel
theorem dX1_shareOut_50 : decode cX1_shareOut 50 = .ok (.getfield 9, 3) := by decide +kernel
theorem dX1_shareOut_53 : decode cX1_shareOut 53 = .ok (.iload 4, 2) := by decide +kernel
theorem dX1_shareOut_55 : decode cX1_shareOut 55 = .ok (.dup2, 1) := by decide +kernel
theorem dX1_shareOut_56 : decode cX1_shareOut 56 = .ok (.iaload, 1) := by decide +kernel
theorem dX1_shareOut_57 : decode cX1_shareOut 57 = .ok (.aload_n 0, 1) := by decide +kernel
theorem dX1_shareOut_58 : decode cX1_shareOut 58 = .ok (.aload_n 1, 1) := by decide +kernel
theorem dX1_shareOut_59 : decode cX1_shareOut 59 = .ok (.iload 4, 2) := by decide +kernel
theorem dX1_shareOut_61 : decode cX1_shareOut 61 = .ok (.invokevirtual 41, 3) := by decide +kernel
theorem dX1_shareOut_64 : decode cX1_shareOut 64 = .ok (.isub, 1) := by decide +kernel
theorem dX1_shareOut_65 : decode cX1_shareOut 65 = .ok (.iastore, 1) := by decide +kernel
theorem dX1_shareOut_66 : decode cX1_shareOut 66 = .ok (.aload_n 0, 1) := by decide +kernel
theorem dX1_shareOut_67 : decode cX1_shareOut 67 = .ok (.iload 4, 2) := by decide +kernel
theorem dX1_shareOut_69 : decode cX1_shareOut 69 = .ok (.iload_n 3, 1) := by decide +kernel
theorem dX1_shareOut_70 : decode cX1_shareOut 70 = .ok (.invokevirtual 45, 3) := by decide +kernel
theorem dX1_shareOut_73 : decode cX1_shareOut 73 = .ok (.iinc 4 1, 3) := by decide +kernel
theorem dX1_shareOut_76 : decode cX1_shareOut 76 = .ok (.goto (-36), 3) := by decide +kernel
theorem dX1_shareOut_79 : decode cX1_shareOut 79 = .ok (.iload_n 3, 1) := by decide +kernel
theorem dX1_shareOut_80 : decode cX1_shareOut 80 = .ok (.ireturn, 1) := by decide +kernel
set_option maxRecDepth 20000 in
theorem ggX1_pass_X1_receive : GoodIn wsX1_pass wsX1_receive := goodIn_r _ [6, 1, 7, 8, 9, 10, 11, 12, 13, 14] (by decide +kernel) (by decide +kernel)
set_option maxRecDepth 20000 in
theorem gX1_pass_X1_receive : GoodIn wsX1_pass (wsV RX1 45 RX1 yX1_receive wsX1_receive) := goodIn_app (goodIn_of _ (by decide +kernel)) ggX1_pass_X1_receive
theorem dX1_pass_0 : decode cX1_pass 0 = .ok (.aload_n 0, 1) := by decide +kernel
theorem dX1_pass_1 : decode cX1_pass 1 = .ok (.getfield 9, 3) := by decide +kernel
theorem dX1_pass_4 : decode cX1_pass 4 = .ok (.iload_n 1, 1) := by decide +kernel
theorem dX1_pass_5 : decode cX1_pass 5 = .ok (.dup2, 1) := by decide +kernel
theorem dX1_pass_6 : decode cX1_pass 6 = .ok (.iaload, 1) := by decide +kernel
theorem dX1_pass_7 : decode cX1_pass 7 = .ok (.iload_n 3, 1) := by decide +kernel
theorem dX1_pass_8 : decode cX1_pass 8 = .ok (.isub, 1) := by decide +kernel
theorem dX1_pass_9 : decode cX1_pass 9 = .ok (.iastore, 1) := by decide +kernel
theorem dX1_pass_10 : decode cX1_pass 10 = .ok (.aload_n 0, 1) := by decide +kernel
theorem dX1_pass_11 : decode cX1_pass 11 = .ok (.iload_n 2, 1) := by decide +kernel
theorem dX1_pass_12 : decode cX1_pass 12 = .ok (.iload_n 3, 1) := by decide +kernel
theorem dX1_pass_13 : decode cX1_pass 13 = .ok (.invokevirtual 45, 3) := by decide +kernel
theorem dX1_pass_16 : decode cX1_pass 16 = .ok (.return_, 1) := by decide +kernel
theorem dX1_receive_0 : decode cX1_receive 0 = .ok (.iload_n 2, 1) := by decide +kernel
theorem dX1_receive_1 : decode cX1_receive 1 = .ok (.bipush 99, 2) := by decide +kernel
theorem dX1_receive_3 : decode cX1_receive 3 = .ok (.aload_n 0, 1) := by decide +kernel
theorem dX1_receive_4 : decode cX1_receive 4 = .ok (.getfield 9, 3) := by decide +kernel
theorem dX1_receive_7 : decode cX1_receive 7 = .ok (.iload_n 1, 1) := by decide +kernel
theorem dX1_receive_8 : decode cX1_receive 8 = .ok (.iaload, 1) := by decide +kernel
theorem dX1_receive_9 : decode cX1_receive 9 = .ok (.isub, 1) := by decide +kernel
theorem dX1_receive_10 : decode cX1_receive 10 = .ok (.invokestatic 49, 3) := by decide +kernel
theorem dX1_receive_13 : decode cX1_receive 13 = .ok (.istore_n 3, 1) := by decide +kernel
theorem dX1_receive_14 : decode cX1_receive 14 = .ok (.aload_n 0, 1) := by decide +kernel
theorem dX1_receive_15 : decode cX1_receive 15 = .ok (.getfield 9, 3) := by decide +kernel
theorem dX1_receive_18 : decode cX1_receive 18 = .ok (.iload_n 1, 1) := by decide +kernel
theorem dX1_receive_19 : decode cX1_receive 19 = .ok (.dup2, 1) := by decide +kernel
theorem dX1_receive_20 : decode cX1_receive 20 = .ok (.iaload, 1) := by decide +kernel
theorem dX1_receive_21 : decode cX1_receive 21 = .ok (.iload_n 3, 1) := by decide +kernel
theorem dX1_receive_22 : decode cX1_receive 22 = .ok (.iadd, 1) := by decide +kernel
theorem dX1_receive_23 : decode cX1_receive 23 = .ok (.iastore, 1) := by decide +kernel
theorem dX1_receive_24 : decode cX1_receive 24 = .ok (.aload_n 0, 1) := by decide +kernel
theorem dX1_receive_25 : decode cX1_receive 25 = .ok (.dup, 1) := by decide +kernel
theorem dX1_receive_26 : decode cX1_receive 26 = .ok (.getfield 25, 3) := by decide +kernel
theorem dX1_receive_29 : decode cX1_receive 29 = .ok (.iload_n 2, 1) := by decide +kernel
theorem dX1_receive_30 : decode cX1_receive 30 = .ok (.iload_n 3, 1) := by decide +kernel
theorem dX1_receive_31 : decode cX1_receive 31 = .ok (.isub, 1) := by decide +kernel
theorem dX1_receive_32 : decode cX1_receive 32 = .ok (.iadd, 1) := by decide +kernel
theorem dX1_receive_33 : decode cX1_receive 33 = .ok (.putfield 25, 3) := by decide +kernel
theorem dX1_receive_36 : decode cX1_receive 36 = .ok (.return_, 1) := by decide +kernel
theorem dX1_toQuay_0 : decode cX1_toQuay 0 = .ok (.aload_n 0, 1) := by decide +kernel
theorem dX1_toQuay_1 : decode cX1_toQuay 1 = .ok (.getfield 9, 3) := by decide +kernel
theorem dX1_toQuay_4 : decode cX1_toQuay 4 = .ok (.iload_n 1, 1) := by decide +kernel
theorem dX1_toQuay_5 : decode cX1_toQuay 5 = .ok (.dup2, 1) := by decide +kernel
theorem dX1_toQuay_6 : decode cX1_toQuay 6 = .ok (.iaload, 1) := by decide +kernel
theorem dX1_toQuay_7 : decode cX1_toQuay 7 = .ok (.iload_n 2, 1) := by decide +kernel
theorem dX1_toQuay_8 : decode cX1_toQuay 8 = .ok (.isub, 1) := by decide +kernel
theorem dX1_toQuay_9 : decode cX1_toQuay 9 = .ok (.iastore, 1) := by decide +kernel
theorem dX1_toQuay_10 : decode cX1_toQuay 10 = .ok (.aload_n 0, 1) := by decide +kernel
theorem dX1_toQuay_11 : decode cX1_toQuay 11 = .ok (.dup, 1) := by decide +kernel
theorem dX1_toQuay_12 : decode cX1_toQuay 12 = .ok (.getfield 25, 3) := by decide +kernel
theorem dX1_toQuay_15 : decode cX1_toQuay 15 = .ok (.iload_n 2, 1) := by decide +kernel
theorem dX1_toQuay_16 : decode cX1_toQuay 16 = .ok (.iadd, 1) := by decide +kernel
theorem dX1_toQuay_17 : decode cX1_toQuay 17 = .ok (.putfield 25, 3) := by decide +kernel
theorem dX1_toQuay_20 : decode cX1_toQuay 20 = .ok (.return_, 1) := by decide +kernel
set_option maxRecDepth 20000 in
theorem ggX1_bringsOf_X3_broughtBy : GoodIn wsX1_bringsOf wsX3_broughtBy := goodIn_r _ [6, 7, 8, 9, 10] (by decide +kernel) (by decide +kernel)
set_option maxRecDepth 20000 in
theorem gX1_bringsOf_X3_broughtBy_n58 : GoodIn wsX1_bringsOf (wsX3_broughtBy) := ggX1_bringsOf_X3_broughtBy
theorem dX1_bringsOf_0 : decode cX1_bringsOf 0 = .ok (.aload_n 1, 1) := by decide +kernel
theorem dX1_bringsOf_1 : decode cX1_bringsOf 1 = .ok (.getfield 55, 3) := by decide +kernel
theorem dX1_bringsOf_4 : decode cX1_bringsOf 4 = .ok (.iload_n 2, 1) := by decide +kernel
theorem dX1_bringsOf_5 : decode cX1_bringsOf 5 = .ok (.iaload, 1) := by decide +kernel
theorem dX1_bringsOf_6 : decode cX1_bringsOf 6 = .ok (.aload_n 0, 1) := by decide +kernel
theorem dX1_bringsOf_7 : decode cX1_bringsOf 7 = .ok (.getfield 9, 3) := by decide +kernel
theorem dX1_bringsOf_10 : decode cX1_bringsOf 10 = .ok (.iload_n 2, 1) := by decide +kernel
theorem dX1_bringsOf_11 : decode cX1_bringsOf 11 = .ok (.iaload, 1) := by decide +kernel
theorem dX1_bringsOf_12 : decode cX1_bringsOf 12 = .ok (.aload_n 0, 1) := by decide +kernel
theorem dX1_bringsOf_13 : decode cX1_bringsOf 13 = .ok (.getfield 21, 3) := by decide +kernel
theorem dX1_bringsOf_16 : decode cX1_bringsOf 16 = .ok (.invokestatic 58, 3) := by decide +kernel
theorem dX1_bringsOf_19 : decode cX1_bringsOf 19 = .ok (.ireturn, 1) := by decide +kernel
set_option maxRecDepth 20000 in
theorem ggX1_brought_X1_bringsOf : GoodIn wsX1_brought wsX1_bringsOf := goodIn_r _ [6, 7, 8, 9, 10, 11, 12, 13, 14, 15, 16, 17, 18, 19, 20, 21, 22, 23] (by decide +kernel) (by decide +kernel)
set_option maxRecDepth 20000 in
theorem gX1_brought_X1_bringsOf : GoodIn wsX1_brought (wsV RX1 41 RX1 yX1_bringsOf wsX1_bringsOf) := goodIn_app (goodIn_of _ (by decide +kernel)) ggX1_brought_X1_bringsOf
theorem dX1_brought_0 : decode cX1_brought 0 = .ok (.iconst 0, 1) := by decide +kernel
theorem dX1_brought_1 : decode cX1_brought 1 = .ok (.istore_n 2, 1) := by decide +kernel
theorem dX1_brought_2 : decode cX1_brought 2 = .ok (.iconst 0, 1) := by decide +kernel
theorem dX1_brought_3 : decode cX1_brought 3 = .ok (.istore_n 3, 1) := by decide +kernel
theorem dX1_brought_4 : decode cX1_brought 4 = .ok (.iload_n 3, 1) := by decide +kernel
theorem dX1_brought_5 : decode cX1_brought 5 = .ok (.aload_n 1, 1) := by decide +kernel
theorem dX1_brought_6 : decode cX1_brought 6 = .ok (.getfield 28, 3) := by decide +kernel
theorem dX1_brought_9 : decode cX1_brought 9 = .ok (.if_icmp .ge 18, 3) := by decide +kernel
theorem dX1_brought_12 : decode cX1_brought 12 = .ok (.iload_n 2, 1) := by decide +kernel
theorem dX1_brought_13 : decode cX1_brought 13 = .ok (.aload_n 0, 1) := by decide +kernel
theorem dX1_brought_14 : decode cX1_brought 14 = .ok (.aload_n 1, 1) := by decide +kernel
theorem dX1_brought_15 : decode cX1_brought 15 = .ok (.iload_n 3, 1) := by decide +kernel
theorem dX1_brought_16 : decode cX1_brought 16 = .ok (.invokevirtual 41, 3) := by decide +kernel
theorem dX1_brought_19 : decode cX1_brought 19 = .ok (.iadd, 1) := by decide +kernel
theorem dX1_brought_20 : decode cX1_brought 20 = .ok (.istore_n 2, 1) := by decide +kernel
theorem dX1_brought_21 : decode cX1_brought 21 = .ok (.iinc 3 1, 3) := by decide +kernel
theorem dX1_brought_24 : decode cX1_brought 24 = .ok (.goto (-20), 3) := by decide +kernel
theorem dX1_brought_27 : decode cX1_brought 27 = .ok (.iload_n 2, 1) := by decide +kernel
theorem dX1_brought_28 : decode cX1_brought 28 = .ok (.ireturn, 1) := by decide +kernel
theorem dX1_inJars_0 : decode cX1_inJars 0 = .ok (.iconst 0, 1) := by decide +kernel
theorem dX1_inJars_1 : decode cX1_inJars 1 = .ok (.istore_n 2, 1) := by decide +kernel
theorem dX1_inJars_2 : decode cX1_inJars 2 = .ok (.iconst 0, 1) := by decide +kernel
theorem dX1_inJars_3 : decode cX1_inJars 3 = .ok (.istore_n 3, 1) := by decide +kernel
theorem dX1_inJars_4 : decode cX1_inJars 4 = .ok (.iload_n 3, 1) := by decide +kernel
theorem dX1_inJars_5 : decode cX1_inJars 5 = .ok (.aload_n 1, 1) := by decide +kernel
theorem dX1_inJars_6 : decode cX1_inJars 6 = .ok (.getfield 28, 3) := by decide +kernel
theorem dX1_inJars_9 : decode cX1_inJars 9 = .ok (.if_icmp .ge 18, 3) := by decide +kernel
theorem dX1_inJars_12 : decode cX1_inJars 12 = .ok (.iload_n 2, 1) := by decide +kernel
theorem dX1_inJars_13 : decode cX1_inJars 13 = .ok (.aload_n 0, 1) := by decide +kernel
theorem dX1_inJars_14 : decode cX1_inJars 14 = .ok (.getfield 9, 3) := by decide +kernel
theorem dX1_inJars_17 : decode cX1_inJars 17 = .ok (.iload_n 3, 1) := by decide +kernel
theorem dX1_inJars_18 : decode cX1_inJars 18 = .ok (.iaload, 1) := by decide +kernel
theorem dX1_inJars_19 : decode cX1_inJars 19 = .ok (.iadd, 1) := by decide +kernel
theorem dX1_inJars_20 : decode cX1_inJars 20 = .ok (.istore_n 2, 1) := by decide +kernel
theorem dX1_inJars_21 : decode cX1_inJars 21 = .ok (.iinc 3 1, 3) := by decide +kernel
theorem dX1_inJars_24 : decode cX1_inJars 24 = .ok (.goto (-20), 3) := by decide +kernel
theorem dX1_inJars_27 : decode cX1_inJars 27 = .ok (.iload_n 2, 1) := by decide +kernel
theorem dX1_inJars_28 : decode cX1_inJars 28 = .ok (.ireturn, 1) := by decide +kernel
set_option maxRecDepth 20000 in
theorem ggX1_worksOff_X0_comesOff : GoodIn wsX1_worksOff wsX0_comesOff := goodIn_r _ [7, 8, 9, 10, 11, 12, 13, 14, 15, 16, 17, 18, 19, 20] (by decide +kernel) (by decide +kernel)
set_option maxRecDepth 20000 in
theorem gX1_worksOff_X0_comesOff : GoodIn wsX1_worksOff (wsV RX1 61 RX0 yX0_comesOff wsX0_comesOff) := goodIn_app (goodIn_of _ (by decide +kernel)) ggX1_worksOff_X0_comesOff
theorem dX1_worksOff_0 : decode cX1_worksOff 0 = .ok (.iconst 0, 1) := by decide +kernel
theorem dX1_worksOff_1 : decode cX1_worksOff 1 = .ok (.istore_n 2, 1) := by decide +kernel
theorem dX1_worksOff_2 : decode cX1_worksOff 2 = .ok (.iconst 0, 1) := by decide +kernel
theorem dX1_worksOff_3 : decode cX1_worksOff 3 = .ok (.istore_n 3, 1) := by decide +kernel
theorem dX1_worksOff_4 : decode cX1_worksOff 4 = .ok (.iload_n 3, 1) := by decide +kernel
theorem dX1_worksOff_5 : decode cX1_worksOff 5 = .ok (.aload_n 1, 1) := by decide +kernel
theorem dX1_worksOff_6 : decode cX1_worksOff 6 = .ok (.getfield 28, 3) := by decide +kernel
theorem dX1_worksOff_9 : decode cX1_worksOff 9 = .ok (.if_icmp .ge 29, 3) := by decide +kernel
theorem dX1_worksOff_12 : decode cX1_worksOff 12 = .ok (.aload_n 1, 1) := by decide +kernel
theorem dX1_worksOff_13 : decode cX1_worksOff 13 = .ok (.iload_n 3, 1) := by decide +kernel
theorem dX1_worksOff_14 : decode cX1_worksOff 14 = .ok (.aload_n 0, 1) := by decide +kernel
theorem dX1_worksOff_15 : decode cX1_worksOff 15 = .ok (.getfield 9, 3) := by decide +kernel
theorem dX1_worksOff_18 : decode cX1_worksOff 18 = .ok (.iload_n 3, 1) := by decide +kernel
theorem dX1_worksOff_19 : decode cX1_worksOff 19 = .ok (.iaload, 1) := by decide +kernel
theorem dX1_worksOff_20 : decode cX1_worksOff 20 = .ok (.invokevirtual 61, 3) := by decide +kernel
theorem dX1_worksOff_23 : decode cX1_worksOff 23 = .ok (.ifCond .eq 9, 3) := by decide +kernel
theorem dX1_worksOff_26 : decode cX1_worksOff 26 = .ok (.iload_n 2, 1) := by decide +kernel
theorem dX1_worksOff_27 : decode cX1_worksOff 27 = .ok (.iconst 1, 1) := by decide +kernel
theorem dX1_worksOff_28 : decode cX1_worksOff 28 = .ok (.iload_n 3, 1) := by decide +kernel
theorem dX1_worksOff_29 : decode cX1_worksOff 29 = .ok (.ishl, 1) := by decide +kernel
theorem dX1_worksOff_30 : decode cX1_worksOff 30 = .ok (.ior, 1) := by decide +kernel
theorem dX1_worksOff_31 : decode cX1_worksOff 31 = .ok (.istore_n 2, 1) := by decide +kernel
theorem dX1_worksOff_32 : decode cX1_worksOff 32 = .ok (.iinc 3 1, 3) := by decide +kernel
theorem dX1_worksOff_35 : decode cX1_worksOff 35 = .ok (.goto (-31), 3) := by decide +kernel
theorem dX1_worksOff_38 : decode cX1_worksOff 38 = .ok (.iload_n 2, 1) := by decide +kernel
theorem dX1_worksOff_39 : decode cX1_worksOff 39 = .ok (.ireturn, 1) := by decide +kernel
set_option maxRecDepth 20000 in
theorem ggX2_init_X1_init : GoodIn wsX2_init wsX1_init := goodIn_r _ [9, 10, 2, 3, 11, 12, 15, 16, 17] (by decide +kernel) (by decide +kernel)
set_option maxRecDepth 20000 in
theorem gX2_init_X1_init_n17 : GoodIn wsX2_init (wsX1_init) := ggX2_init_X1_init
theorem dX2_init_0 : decode cX2_init 0 = .ok (.aload_n 0, 1) := by decide +kernel
theorem dX2_init_1 : decode cX2_init 1 = .ok (.invokespecial 3, 3) := by decide +kernel
theorem dX2_init_4 : decode cX2_init 4 = .ok (.aload_n 0, 1) := by decide +kernel
theorem dX2_init_5 : decode cX2_init 5 = .ok (.bipush 41, 2) := by decide +kernel
theorem dX2_init_7 : decode cX2_init 7 = .ok (.anewarray 9, 3) := by decide +kernel
theorem dX2_init_10 : decode cX2_init 10 = .ok (.putfield 11, 3) := by decide +kernel
theorem dX2_init_13 : decode cX2_init 13 = .ok (.iconst 0, 1) := by decide +kernel
theorem dX2_init_14 : decode cX2_init 14 = .ok (.istore_n 1, 1) := by decide +kernel
theorem dX2_init_15 : decode cX2_init 15 = .ok (.iload_n 1, 1) := by decide +kernel
theorem dX2_init_16 : decode cX2_init 16 = .ok (.bipush 40, 2) := by decide +kernel
theorem dX2_init_18 : decode cX2_init 18 = .ok (.if_icmp .gt 22, 3) := by decide +kernel
theorem dX2_init_21 : decode cX2_init 21 = .ok (.aload_n 0, 1) := by decide +kernel
theorem dX2_init_22 : decode cX2_init 22 = .ok (.getfield 11, 3) := by decide +kernel
theorem dX2_init_25 : decode cX2_init 25 = .ok (.iload_n 1, 1) := by decide +kernel
theorem dX2_init_26 : decode cX2_init 26 = .ok (.new 9, 3) := by decide +kernel
theorem dX2_init_29 : decode cX2_init 29 = .ok (.dup, 1) := by decide +kernel
theorem dX2_init_30 : decode cX2_init 30 = .ok (.invokespecial 17, 3) := by decide +kernel
theorem dX2_init_33 : decode cX2_init 33 = .ok (.aastore, 1) := by decide +kernel
theorem dX2_init_34 : decode cX2_init 34 = .ok (.iinc 1 1, 3) := by decide +kernel
theorem dX2_init_37 : decode cX2_init 37 = .ok (.goto (-22), 3) := by decide +kernel
theorem dX2_init_40 : decode cX2_init 40 = .ok (.return_, 1) := by decide +kernel
theorem dX2_now_0 : decode cX2_now 0 = .ok (.aload_n 0, 1) := by decide +kernel
theorem dX2_now_1 : decode cX2_now 1 = .ok (.getfield 11, 3) := by decide +kernel
theorem dX2_now_4 : decode cX2_now 4 = .ok (.aload_n 0, 1) := by decide +kernel
theorem dX2_now_5 : decode cX2_now 5 = .ok (.getfield 18, 3) := by decide +kernel
theorem dX2_now_8 : decode cX2_now 8 = .ok (.aaload, 1) := by decide +kernel
theorem dX2_now_9 : decode cX2_now 9 = .ok (.areturn, 1) := by decide +kernel
theorem dX2_isFull_0 : decode cX2_isFull 0 = .ok (.aload_n 0, 1) := by decide +kernel
theorem dX2_isFull_1 : decode cX2_isFull 1 = .ok (.getfield 18, 3) := by decide +kernel
theorem dX2_isFull_4 : decode cX2_isFull 4 = .ok (.bipush 40, 2) := by decide +kernel
theorem dX2_isFull_6 : decode cX2_isFull 6 = .ok (.if_icmp .lt 7, 3) := by decide +kernel
theorem dX2_isFull_9 : decode cX2_isFull 9 = .ok (.iconst 1, 1) := by decide +kernel
theorem dX2_isFull_10 : decode cX2_isFull 10 = .ok (.goto 4, 3) := by decide +kernel
theorem dX2_isFull_13 : decode cX2_isFull 13 = .ok (.iconst 0, 1) := by decide +kernel
theorem dX2_isFull_14 : decode cX2_isFull 14 = .ok (.ireturn, 1) := by decide +kernel
set_option maxRecDepth 20000 in
theorem ggX2_next_X1_become : GoodIn wsX2_next wsX1_become := goodIn_r _ [7, 8, 9, 10, 11, 12, 13, 14, 17, 18, 19] (by decide +kernel) (by decide +kernel)
set_option maxRecDepth 20000 in
theorem gX2_next_X1_become : GoodIn wsX2_next (wsV RX2 22 RX1 yX1_become wsX1_become) := goodIn_app (goodIn_of _ (by decide +kernel)) ggX2_next_X1_become
theorem dX2_next_0 : decode cX2_next 0 = .ok (.aload_n 0, 1) := by decide +kernel
theorem dX2_next_1 : decode cX2_next 1 = .ok (.getfield 11, 3) := by decide +kernel
theorem dX2_next_4 : decode cX2_next 4 = .ok (.aload_n 0, 1) := by decide +kernel
theorem dX2_next_5 : decode cX2_next 5 = .ok (.getfield 18, 3) := by decide +kernel
theorem dX2_next_8 : decode cX2_next 8 = .ok (.iconst 1, 1) := by decide +kernel
theorem dX2_next_9 : decode cX2_next 9 = .ok (.iadd, 1) := by decide +kernel
theorem dX2_next_10 : decode cX2_next 10 = .ok (.aaload, 1) := by decide +kernel
theorem dX2_next_11 : decode cX2_next 11 = .ok (.aload_n 0, 1) := by decide +kernel
theorem dX2_next_12 : decode cX2_next 12 = .ok (.getfield 11, 3) := by decide +kernel
theorem dX2_next_15 : decode cX2_next 15 = .ok (.aload_n 0, 1) := by decide +kernel
theorem dX2_next_16 : decode cX2_next 16 = .ok (.getfield 18, 3) := by decide +kernel
theorem dX2_next_19 : decode cX2_next 19 = .ok (.aaload, 1) := by decide +kernel
theorem dX2_next_20 : decode cX2_next 20 = .ok (.invokevirtual 22, 3) := by decide +kernel
theorem dX2_next_23 : decode cX2_next 23 = .ok (.aload_n 0, 1) := by decide +kernel
theorem dX2_next_24 : decode cX2_next 24 = .ok (.dup, 1) := by decide +kernel
theorem dX2_next_25 : decode cX2_next 25 = .ok (.getfield 18, 3) := by decide +kernel
theorem dX2_next_28 : decode cX2_next 28 = .ok (.iconst 1, 1) := by decide +kernel
theorem dX2_next_29 : decode cX2_next 29 = .ok (.iadd, 1) := by decide +kernel
theorem dX2_next_30 : decode cX2_next 30 = .ok (.putfield 18, 3) := by decide +kernel
theorem dX2_next_33 : decode cX2_next 33 = .ok (.aload_n 0, 1) := by decide +kernel
theorem dX2_next_34 : decode cX2_next 34 = .ok (.getfield 11, 3) := by decide +kernel
theorem dX2_next_37 : decode cX2_next 37 = .ok (.aload_n 0, 1) := by decide +kernel
theorem dX2_next_38 : decode cX2_next 38 = .ok (.getfield 18, 3) := by decide +kernel
theorem dX2_next_41 : decode cX2_next 41 = .ok (.aaload, 1) := by decide +kernel
theorem dX2_next_42 : decode cX2_next 42 = .ok (.areturn, 1) := by decide +kernel
theorem dX2_startAnew_0 : decode cX2_startAnew 0 = .ok (.aload_n 0, 1) := by decide +kernel
theorem dX2_startAnew_1 : decode cX2_startAnew 1 = .ok (.iconst 0, 1) := by decide +kernel
theorem dX2_startAnew_2 : decode cX2_startAnew 2 = .ok (.putfield 18, 3) := by decide +kernel
theorem dX2_startAnew_5 : decode cX2_startAnew 5 = .ok (.aload_n 0, 1) := by decide +kernel
theorem dX2_startAnew_6 : decode cX2_startAnew 6 = .ok (.getfield 11, 3) := by decide +kernel
theorem dX2_startAnew_9 : decode cX2_startAnew 9 = .ok (.iconst 0, 1) := by decide +kernel
theorem dX2_startAnew_10 : decode cX2_startAnew 10 = .ok (.aaload, 1) := by decide +kernel
theorem dX2_startAnew_11 : decode cX2_startAnew 11 = .ok (.areturn, 1) := by decide +kernel
set_option maxRecDepth 20000 in
theorem ggX2_become_X1_become : GoodIn wsX2_become wsX1_become := goodIn_r _ [7, 8, 9, 10, 11, 12, 13, 14, 17, 18, 19] (by decide +kernel) (by decide +kernel)
set_option maxRecDepth 20000 in
theorem gX2_become_X1_become : GoodIn wsX2_become (wsV RX2 22 RX1 yX1_become wsX1_become) := goodIn_app (goodIn_of _ (by decide +kernel)) ggX2_become_X1_become
theorem dX2_become_0 : decode cX2_become 0 = .ok (.iconst 0, 1) := by decide +kernel
theorem dX2_become_1 : decode cX2_become 1 = .ok (.istore_n 2, 1) := by decide +kernel
theorem dX2_become_2 : decode cX2_become 2 = .ok (.iload_n 2, 1) := by decide +kernel
theorem dX2_become_3 : decode cX2_become 3 = .ok (.aload_n 1, 1) := by decide +kernel
theorem dX2_become_4 : decode cX2_become 4 = .ok (.getfield 18, 3) := by decide +kernel
theorem dX2_become_7 : decode cX2_become 7 = .ok (.if_icmp .gt 24, 3) := by decide +kernel
theorem dX2_become_10 : decode cX2_become 10 = .ok (.aload_n 0, 1) := by decide +kernel
theorem dX2_become_11 : decode cX2_become 11 = .ok (.getfield 11, 3) := by decide +kernel
theorem dX2_become_14 : decode cX2_become 14 = .ok (.iload_n 2, 1) := by decide +kernel
theorem dX2_become_15 : decode cX2_become 15 = .ok (.aaload, 1) := by decide +kernel
theorem dX2_become_16 : decode cX2_become 16 = .ok (.aload_n 1, 1) := by decide +kernel
theorem dX2_become_17 : decode cX2_become 17 = .ok (.getfield 11, 3) := by decide +kernel
theorem dX2_become_20 : decode cX2_become 20 = .ok (.iload_n 2, 1) := by decide +kernel
theorem dX2_become_21 : decode cX2_become 21 = .ok (.aaload, 1) := by decide +kernel
theorem dX2_become_22 : decode cX2_become 22 = .ok (.invokevirtual 22, 3) := by decide +kernel
theorem dX2_become_25 : decode cX2_become 25 = .ok (.iinc 2 1, 3) := by decide +kernel
theorem dX2_become_28 : decode cX2_become 28 = .ok (.goto (-26), 3) := by decide +kernel
theorem dX2_become_31 : decode cX2_become 31 = .ok (.aload_n 0, 1) := by decide +kernel
theorem dX2_become_32 : decode cX2_become 32 = .ok (.aload_n 1, 1) := by decide +kernel
theorem dX2_become_33 : decode cX2_become 33 = .ok (.getfield 18, 3) := by decide +kernel
theorem dX2_become_36 : decode cX2_become 36 = .ok (.putfield 18, 3) := by decide +kernel
theorem dX2_become_39 : decode cX2_become 39 = .ok (.return_, 1) := by decide +kernel
set_option maxRecDepth 20000 in
theorem ggX3_init_X0_init : GoodIn wsX3_init wsX0_init := goodIn_r _ [30, 31, 2, 3, 5, 32, 33, 34, 63, 64, 65, 66] (by decide +kernel) (by decide +kernel)
set_option maxRecDepth 20000 in
theorem gX3_init_X0_init_n28 : GoodIn wsX3_init (wsX0_init) := ggX3_init_X0_init
set_option maxRecDepth 20000 in
theorem ggX3_init_X2_init : GoodIn wsX3_init wsX2_init := goodIn_r _ [37, 38, 2, 3, 39, 40, 22, 23, 41, 42, 43, 5, 44, 67, 68, 69, 70, 71] (by decide +kernel) (by decide +kernel)
set_option maxRecDepth 20000 in
theorem gX3_init_X2_init : GoodIn wsX3_init (wsX2_init) := ggX3_init_X2_init
set_option maxRecDepth 20000 in
theorem ggX3_init_X1_init : GoodIn wsX3_init wsX1_init := goodIn_r _ [42, 43, 2, 3, 5, 44, 69, 70, 71] (by decide +kernel) (by decide +kernel)
set_option maxRecDepth 20000 in
theorem gX3_init_X1_init_n46 : GoodIn wsX3_init (wsX1_init) := ggX3_init_X1_init
set_option maxRecDepth 20000 in
theorem ggX3_init_J7_fill_53178 : GoodIn wsX3_init wsJ7_fill_53178 := goodIn_r _ [48] (by decide +kernel) (by decide +kernel)
set_option maxRecDepth 20000 in
theorem gX3_init_J7_fill_53178 : GoodIn wsX3_init (va_wsS RX3 61 yJ7_fill_53178 wsJ7_fill_53178) := goodIn_app (goodIn_of _ (by decide +kernel)) ggX3_init_J7_fill_53178
theorem dX3_init_0 : decode cX3_init 0 = .ok (.aload_n 0, 1) := by decide +kernel
theorem dX3_init_1 : decode cX3_init 1 = .ok (.invokespecial 1, 3) := by decide +kernel
theorem dX3_init_4 : decode cX3_init 4 = .ok (.aload_n 0, 1) := by decide +kernel
theorem dX3_init_5 : decode cX3_init 5 = .ok (.bipush 6, 2) := by decide +kernel
theorem dX3_init_7 : decode cX3_init 7 = .ok (.bipush 40, 2) := by decide +kernel
theorem dX3_init_9 : decode cX3_init 9 = .ok (.multianewarray 9 2, 4) := by decide +kernel
theorem dX3_init_13 : decode cX3_init 13 = .ok (.putfield 11, 3) := by decide +kernel
theorem dX3_init_16 : decode cX3_init 16 = .ok (.aload_n 0, 1) := by decide +kernel
theorem dX3_init_17 : decode cX3_init 17 = .ok (.bipush 6, 2) := by decide +kernel
theorem dX3_init_19 : decode cX3_init 19 = .ok (.newarray .int, 2) := by decide +kernel
theorem dX3_init_21 : decode cX3_init 21 = .ok (.putfield 14, 3) := by decide +kernel
theorem dX3_init_24 : decode cX3_init 24 = .ok (.aload_n 0, 1) := by decide +kernel
theorem dX3_init_25 : decode cX3_init 25 = .ok (.iconst 4, 1) := by decide +kernel
theorem dX3_init_26 : decode cX3_init 26 = .ok (.bipush 60, 2) := by decide +kernel
theorem dX3_init_28 : decode cX3_init 28 = .ok (.multianewarray 18 2, 4) := by decide +kernel
theorem dX3_init_32 : decode cX3_init 32 = .ok (.putfield 20, 3) := by decide +kernel
theorem dX3_init_35 : decode cX3_init 35 = .ok (.aload_n 0, 1) := by decide +kernel
theorem dX3_init_36 : decode cX3_init 36 = .ok (.iconst 4, 1) := by decide +kernel
theorem dX3_init_37 : decode cX3_init 37 = .ok (.newarray .int, 2) := by decide +kernel
theorem dX3_init_39 : decode cX3_init 39 = .ok (.putfield 23, 3) := by decide +kernel
theorem dX3_init_42 : decode cX3_init 42 = .ok (.aload_n 0, 1) := by decide +kernel
theorem dX3_init_43 : decode cX3_init 43 = .ok (.new 26, 3) := by decide +kernel
theorem dX3_init_46 : decode cX3_init 46 = .ok (.dup, 1) := by decide +kernel
theorem dX3_init_47 : decode cX3_init 47 = .ok (.invokespecial 28, 3) := by decide +kernel
theorem dX3_init_50 : decode cX3_init 50 = .ok (.putfield 29, 3) := by decide +kernel
theorem dX3_init_53 : decode cX3_init 53 = .ok (.aload_n 0, 1) := by decide +kernel
theorem dX3_init_54 : decode cX3_init 54 = .ok (.new 33, 3) := by decide +kernel
theorem dX3_init_57 : decode cX3_init 57 = .ok (.dup, 1) := by decide +kernel
theorem dX3_init_58 : decode cX3_init 58 = .ok (.invokespecial 35, 3) := by decide +kernel
theorem dX3_init_61 : decode cX3_init 61 = .ok (.putfield 36, 3) := by decide +kernel
theorem dX3_init_64 : decode cX3_init 64 = .ok (.aload_n 0, 1) := by decide +kernel
theorem dX3_init_65 : decode cX3_init 65 = .ok (.iconst 3, 1) := by decide +kernel
theorem dX3_init_66 : decode cX3_init 66 = .ok (.anewarray 33, 3) := by decide +kernel
theorem dX3_init_69 : decode cX3_init 69 = .ok (.putfield 40, 3) := by decide +kernel
theorem dX3_init_72 : decode cX3_init 72 = .ok (.aload_n 0, 1) := by decide +kernel
theorem dX3_init_73 : decode cX3_init 73 = .ok (.new 44, 3) := by decide +kernel
theorem dX3_init_76 : decode cX3_init 76 = .ok (.dup, 1) := by decide +kernel
theorem dX3_init_77 : decode cX3_init 77 = .ok (.invokespecial 46, 3) := by decide +kernel
theorem dX3_init_80 : decode cX3_init 80 = .ok (.putfield 47, 3) := by decide +kernel
theorem dX3_init_83 : decode cX3_init 83 = .ok (.aload_n 0, 1) := by decide +kernel
theorem dX3_init_84 : decode cX3_init 84 = .ok (.bipush 7, 2) := by decide +kernel
theorem dX3_init_86 : decode cX3_init 86 = .ok (.newarray .int, 2) := by decide +kernel
theorem dX3_init_88 : decode cX3_init 88 = .ok (.putfield 51, 3) := by decide +kernel
theorem dX3_init_91 : decode cX3_init 91 = .ok (.aload_n 0, 1) := by decide +kernel
theorem dX3_init_92 : decode cX3_init 92 = .ok (.lconst 1, 1) := by decide +kernel
theorem dX3_init_93 : decode cX3_init 93 = .ok (.putfield 54, 3) := by decide +kernel
theorem dX3_init_96 : decode cX3_init 96 = .ok (.aload_n 0, 1) := by decide +kernel
theorem dX3_init_97 : decode cX3_init 97 = .ok (.bipush 6, 2) := by decide +kernel
theorem dX3_init_99 : decode cX3_init 99 = .ok (.newarray .int, 2) := by decide +kernel
theorem dX3_init_101 : decode cX3_init 101 = .ok (.putfield 58, 3) := by decide +kernel
theorem dX3_init_104 : decode cX3_init 104 = .ok (.aload_n 0, 1) := by decide +kernel
theorem dX3_init_105 : decode cX3_init 105 = .ok (.getfield 14, 3) := by decide +kernel
theorem dX3_init_108 : decode cX3_init 108 = .ok (.iconst (-1), 1) := by decide +kernel
theorem dX3_init_109 : decode cX3_init 109 = .ok (.invokestatic 61, 3) := by decide +kernel
theorem dX3_init_112 : decode cX3_init 112 = .ok (.aload_n 0, 1) := by decide +kernel
theorem dX3_init_113 : decode cX3_init 113 = .ok (.getfield 23, 3) := by decide +kernel
theorem dX3_init_116 : decode cX3_init 116 = .ok (.iconst (-1), 1) := by decide +kernel
theorem dX3_init_117 : decode cX3_init 117 = .ok (.invokestatic 61, 3) := by decide +kernel
theorem dX3_init_120 : decode cX3_init 120 = .ok (.iconst 0, 1) := by decide +kernel
theorem dX3_init_121 : decode cX3_init 121 = .ok (.istore_n 1, 1) := by decide +kernel
theorem dX3_init_122 : decode cX3_init 122 = .ok (.iload_n 1, 1) := by decide +kernel
theorem dX3_init_123 : decode cX3_init 123 = .ok (.iconst 3, 1) := by decide +kernel
theorem dX3_init_124 : decode cX3_init 124 = .ok (.if_icmp .ge 32, 3) := by decide +kernel
theorem dX3_init_127 : decode cX3_init 127 = .ok (.aload_n 0, 1) := by decide +kernel
theorem dX3_init_128 : decode cX3_init 128 = .ok (.getfield 40, 3) := by decide +kernel
theorem dX3_init_131 : decode cX3_init 131 = .ok (.iload_n 1, 1) := by decide +kernel
theorem dX3_init_132 : decode cX3_init 132 = .ok (.new 33, 3) := by decide +kernel
theorem dX3_init_135 : decode cX3_init 135 = .ok (.dup, 1) := by decide +kernel
theorem dX3_init_136 : decode cX3_init 136 = .ok (.invokespecial 35, 3) := by decide +kernel
theorem dX3_init_139 : decode cX3_init 139 = .ok (.aastore, 1) := by decide +kernel
theorem dX3_init_140 : decode cX3_init 140 = .ok (.aload_n 0, 1) := by decide +kernel
theorem dX3_init_141 : decode cX3_init 141 = .ok (.getfield 40, 3) := by decide +kernel
theorem dX3_init_144 : decode cX3_init 144 = .ok (.iload_n 1, 1) := by decide +kernel
theorem dX3_init_145 : decode cX3_init 145 = .ok (.aaload, 1) := by decide +kernel
theorem dX3_init_146 : decode cX3_init 146 = .ok (.iconst (-1), 1) := by decide +kernel
theorem dX3_init_147 : decode cX3_init 147 = .ok (.putfield 67, 3) := by decide +kernel
theorem dX3_init_150 : decode cX3_init 150 = .ok (.iinc 1 1, 3) := by decide +kernel
theorem dX3_init_153 : decode cX3_init 153 = .ok (.goto (-31), 3) := by decide +kernel
theorem dX3_init_156 : decode cX3_init 156 = .ok (.return_, 1) := by decide +kernel
set_option maxRecDepth 20000 in
theorem ggX3_row_X3_isRow : GoodIn wsX3_row wsX3_isRow := goodIn_r _ [6] (by decide +kernel) (by decide +kernel)
set_option maxRecDepth 20000 in
theorem gX3_row_X3_isRow : GoodIn wsX3_row (va_wsS RX3 71 yX3_isRow wsX3_isRow) := goodIn_app (goodIn_of _ (by decide +kernel)) ggX3_row_X3_isRow
set_option maxRecDepth 20000 in
theorem ggX3_row_X3_foundThat : GoodIn wsX3_row wsX3_foundThat := goodIn_r _ [10, 11, 12, 17, 18, 19, 20, 21, 22, 23, 24, 25, 26, 27, 28, 29, 30] (by decide +kernel) (by decide +kernel)
set_option maxRecDepth 20000 in
theorem gX3_row_X3_foundThat : GoodIn wsX3_row (wsV RX3 75 RX3 yX3_foundThat wsX3_foundThat) := goodIn_app (goodIn_of _ (by decide +kernel)) ggX3_row_X3_foundThat
set_option maxRecDepth 20000 in
theorem ggX3_row_J7_fill_53178 : GoodIn wsX3_row wsJ7_fill_53178 := goodIn_r _ [16] (by decide +kernel) (by decide +kernel)
set_option maxRecDepth 20000 in
theorem gX3_row_J7_fill_53178 : GoodIn wsX3_row (va_wsS RX3 61 yJ7_fill_53178 wsJ7_fill_53178) := goodIn_app (goodIn_of _ (by decide +kernel)) ggX3_row_J7_fill_53178
theorem dX3_row_0 : decode cX3_row 0 = .ok (.iload_n 1, 1) := by decide +kernel
theorem dX3_row_1 : decode cX3_row 1 = .ok (.invokestatic 71, 3) := by decide +kernel
theorem dX3_row_4 : decode cX3_row 4 = .ok (.ifCond .eq 9, 3) := by decide +kernel
theorem dX3_row_7 : decode cX3_row 7 = .ok (.iload_n 2, 1) := by decide +kernel
theorem dX3_row_8 : decode cX3_row 8 = .ok (.bipush 40, 2) := by decide +kernel
theorem dX3_row_10 : decode cX3_row 10 = .ok (.if_icmp .le 5, 3) := by decide +kernel
theorem dX3_row_13 : decode cX3_row 13 = .ok (.iconst (-1), 1) := by decide +kernel
theorem dX3_row_14 : decode cX3_row 14 = .ok (.ireturn, 1) := by decide +kernel
theorem dX3_row_15 : decode cX3_row 15 = .ok (.iload_n 2, 1) := by decide +kernel
theorem dX3_row_16 : decode cX3_row 16 = .ok (.ifCond .ge 9, 3) := by decide +kernel
theorem dX3_row_19 : decode cX3_row 19 = .ok (.aload_n 0, 1) := by decide +kernel
theorem dX3_row_20 : decode cX3_row 20 = .ok (.iconst 5, 1) := by decide +kernel
theorem dX3_row_21 : decode cX3_row 21 = .ok (.invokevirtual 75, 3) := by decide +kernel
theorem dX3_row_24 : decode cX3_row 24 = .ok (.ireturn, 1) := by decide +kernel
theorem dX3_row_25 : decode cX3_row 25 = .ok (.aload_n 0, 1) := by decide +kernel
theorem dX3_row_26 : decode cX3_row 26 = .ok (.getfield 11, 3) := by decide +kernel
theorem dX3_row_29 : decode cX3_row 29 = .ok (.iload_n 1, 1) := by decide +kernel
theorem dX3_row_30 : decode cX3_row 30 = .ok (.aaload, 1) := by decide +kernel
theorem dX3_row_31 : decode cX3_row 31 = .ok (.iconst 0, 1) := by decide +kernel
theorem dX3_row_32 : decode cX3_row 32 = .ok (.invokestatic 61, 3) := by decide +kernel
theorem dX3_row_35 : decode cX3_row 35 = .ok (.aload_n 0, 1) := by decide +kernel
theorem dX3_row_36 : decode cX3_row 36 = .ok (.getfield 14, 3) := by decide +kernel
theorem dX3_row_39 : decode cX3_row 39 = .ok (.iload_n 1, 1) := by decide +kernel
theorem dX3_row_40 : decode cX3_row 40 = .ok (.iload_n 2, 1) := by decide +kernel
theorem dX3_row_41 : decode cX3_row 41 = .ok (.iastore, 1) := by decide +kernel
theorem dX3_row_42 : decode cX3_row 42 = .ok (.iload_n 2, 1) := by decide +kernel
theorem dX3_row_43 : decode cX3_row 43 = .ok (.ireturn, 1) := by decide +kernel
set_option maxRecDepth 20000 in
theorem ggX3_lay_X3_placeRefusal : GoodIn wsX3_lay wsX3_placeRefusal := goodIn_r _ [7, 8, 9, 10, 11, 6, 12, 13, 14, 15, 16, 17, 18, 19, 20, 21, 22, 23, 24, 25, 26, 27, 28, 29, 30, 31, 32, 33, 34, 35] (by decide +kernel) (by decide +kernel)
set_option maxRecDepth 20000 in
theorem gX3_lay_X3_placeRefusal : GoodIn wsX3_lay (wsV RX3 79 RX3 yX3_placeRefusal wsX3_placeRefusal) := goodIn_app (goodIn_of _ (by decide +kernel)) ggX3_lay_X3_placeRefusal
theorem dX3_lay_0 : decode cX3_lay 0 = .ok (.aload_n 0, 1) := by decide +kernel
theorem dX3_lay_1 : decode cX3_lay 1 = .ok (.iload_n 1, 1) := by decide +kernel
theorem dX3_lay_2 : decode cX3_lay 2 = .ok (.iload_n 2, 1) := by decide +kernel
theorem dX3_lay_3 : decode cX3_lay 3 = .ok (.invokevirtual 79, 3) := by decide +kernel
theorem dX3_lay_6 : decode cX3_lay 6 = .ok (.istore 4, 2) := by decide +kernel
theorem dX3_lay_8 : decode cX3_lay 8 = .ok (.iload 4, 2) := by decide +kernel
theorem dX3_lay_10 : decode cX3_lay 10 = .ok (.ifCond .eq 6, 3) := by decide +kernel
theorem dX3_lay_13 : decode cX3_lay 13 = .ok (.iload 4, 2) := by decide +kernel
theorem dX3_lay_15 : decode cX3_lay 15 = .ok (.ireturn, 1) := by decide +kernel
theorem dX3_lay_16 : decode cX3_lay 16 = .ok (.aload_n 0, 1) := by decide +kernel
theorem dX3_lay_17 : decode cX3_lay 17 = .ok (.aload_n 0, 1) := by decide +kernel
theorem dX3_lay_18 : decode cX3_lay 18 = .ok (.getfield 11, 3) := by decide +kernel
theorem dX3_lay_21 : decode cX3_lay 21 = .ok (.iload_n 1, 1) := by decide +kernel
theorem dX3_lay_22 : decode cX3_lay 22 = .ok (.aaload, 1) := by decide +kernel
theorem dX3_lay_23 : decode cX3_lay 23 = .ok (.iload_n 2, 1) := by decide +kernel
theorem dX3_lay_24 : decode cX3_lay 24 = .ok (.iaload, 1) := by decide +kernel
theorem dX3_lay_25 : decode cX3_lay 25 = .ok (.putfield 83, 3) := by decide +kernel
theorem dX3_lay_28 : decode cX3_lay 28 = .ok (.aload_n 0, 1) := by decide +kernel
theorem dX3_lay_29 : decode cX3_lay 29 = .ok (.getfield 11, 3) := by decide +kernel
theorem dX3_lay_32 : decode cX3_lay 32 = .ok (.iload_n 1, 1) := by decide +kernel
theorem dX3_lay_33 : decode cX3_lay 33 = .ok (.aaload, 1) := by decide +kernel
theorem dX3_lay_34 : decode cX3_lay 34 = .ok (.iload_n 2, 1) := by decide +kernel
theorem dX3_lay_35 : decode cX3_lay 35 = .ok (.iload_n 3, 1) := by decide +kernel
theorem dX3_lay_36 : decode cX3_lay 36 = .ok (.iastore, 1) := by decide +kernel
theorem dX3_lay_37 : decode cX3_lay 37 = .ok (.iconst 1, 1) := by decide +kernel
theorem dX3_lay_38 : decode cX3_lay 38 = .ok (.ireturn, 1) := by decide +kernel
set_option maxRecDepth 20000 in
theorem ggX3_at_X3_placeRefusal : GoodIn wsX3_at wsX3_placeRefusal := goodIn_r _ [7, 8, 9, 10, 11, 6, 12, 13, 14, 15, 16, 17, 18, 19, 20, 21, 22, 23, 24, 25, 26, 27, 28, 29, 30, 31, 32, 33, 34, 35] (by decide +kernel) (by decide +kernel)
set_option maxRecDepth 20000 in
theorem gX3_at_X3_placeRefusal : GoodIn wsX3_at (wsV RX3 79 RX3 yX3_placeRefusal wsX3_placeRefusal) := goodIn_app (goodIn_of _ (by decide +kernel)) ggX3_at_X3_placeRefusal
theorem dX3_at_0 : decode cX3_at 0 = .ok (.aload_n 0, 1) := by decide +kernel
theorem dX3_at_1 : decode cX3_at 1 = .ok (.iload_n 1, 1) := by decide +kernel
theorem dX3_at_2 : decode cX3_at 2 = .ok (.iload_n 2, 1) := by decide +kernel
theorem dX3_at_3 : decode cX3_at 3 = .ok (.invokevirtual 79, 3) := by decide +kernel
theorem dX3_at_6 : decode cX3_at 6 = .ok (.istore_n 3, 1) := by decide +kernel
theorem dX3_at_7 : decode cX3_at 7 = .ok (.iload_n 3, 1) := by decide +kernel
theorem dX3_at_8 : decode cX3_at 8 = .ok (.ifCond .eq 5, 3) := by decide +kernel
theorem dX3_at_11 : decode cX3_at 11 = .ok (.iload_n 3, 1) := by decide +kernel
theorem dX3_at_12 : decode cX3_at 12 = .ok (.ireturn, 1) := by decide +kernel
theorem dX3_at_13 : decode cX3_at 13 = .ok (.aload_n 0, 1) := by decide +kernel
theorem dX3_at_14 : decode cX3_at 14 = .ok (.aload_n 0, 1) := by decide +kernel
theorem dX3_at_15 : decode cX3_at 15 = .ok (.getfield 11, 3) := by decide +kernel
theorem dX3_at_18 : decode cX3_at 18 = .ok (.iload_n 1, 1) := by decide +kernel
theorem dX3_at_19 : decode cX3_at 19 = .ok (.aaload, 1) := by decide +kernel
theorem dX3_at_20 : decode cX3_at 20 = .ok (.iload_n 2, 1) := by decide +kernel
theorem dX3_at_21 : decode cX3_at 21 = .ok (.iaload, 1) := by decide +kernel
theorem dX3_at_22 : decode cX3_at 22 = .ok (.putfield 83, 3) := by decide +kernel
theorem dX3_at_25 : decode cX3_at 25 = .ok (.iconst 1, 1) := by decide +kernel
theorem dX3_at_26 : decode cX3_at 26 = .ok (.ireturn, 1) := by decide +kernel
set_option maxRecDepth 20000 in
theorem ggX3_tear_X3_rowRefusal : GoodIn wsX3_tear wsX3_rowRefusal := goodIn_r _ [6, 1, 7, 8, 5, 9, 10, 11, 12, 13, 14, 15, 16, 17, 18, 19, 20, 21, 22, 23, 24, 25, 26, 27, 28, 29] (by decide +kernel) (by decide +kernel)
set_option maxRecDepth 20000 in
theorem gX3_tear_X3_rowRefusal : GoodIn wsX3_tear (wsV RX3 86 RX3 yX3_rowRefusal wsX3_rowRefusal) := goodIn_app (goodIn_of _ (by decide +kernel)) ggX3_tear_X3_rowRefusal
theorem dX3_tear_0 : decode cX3_tear 0 = .ok (.aload_n 0, 1) := by decide +kernel
theorem dX3_tear_1 : decode cX3_tear 1 = .ok (.iload_n 1, 1) := by decide +kernel
theorem dX3_tear_2 : decode cX3_tear 2 = .ok (.invokevirtual 86, 3) := by decide +kernel
theorem dX3_tear_5 : decode cX3_tear 5 = .ok (.istore_n 2, 1) := by decide +kernel
theorem dX3_tear_6 : decode cX3_tear 6 = .ok (.iload_n 2, 1) := by decide +kernel
theorem dX3_tear_7 : decode cX3_tear 7 = .ok (.ifCond .eq 5, 3) := by decide +kernel
theorem dX3_tear_10 : decode cX3_tear 10 = .ok (.iload_n 2, 1) := by decide +kernel
theorem dX3_tear_11 : decode cX3_tear 11 = .ok (.ireturn, 1) := by decide +kernel
theorem dX3_tear_12 : decode cX3_tear 12 = .ok (.aload_n 0, 1) := by decide +kernel
theorem dX3_tear_13 : decode cX3_tear 13 = .ok (.getfield 14, 3) := by decide +kernel
theorem dX3_tear_16 : decode cX3_tear 16 = .ok (.iload_n 1, 1) := by decide +kernel
theorem dX3_tear_17 : decode cX3_tear 17 = .ok (.iconst (-1), 1) := by decide +kernel
theorem dX3_tear_18 : decode cX3_tear 18 = .ok (.iastore, 1) := by decide +kernel
theorem dX3_tear_19 : decode cX3_tear 19 = .ok (.iconst 1, 1) := by decide +kernel
theorem dX3_tear_20 : decode cX3_tear 20 = .ok (.ireturn, 1) := by decide +kernel
set_option maxRecDepth 20000 in
theorem ggX3_copy_X3_isRow : GoodIn wsX3_copy wsX3_isRow := goodIn_r _ [10] (by decide +kernel) (by decide +kernel)
set_option maxRecDepth 20000 in
theorem gX3_copy_X3_isRow : GoodIn wsX3_copy (va_wsS RX3 71 yX3_isRow wsX3_isRow) := goodIn_app (goodIn_of _ (by decide +kernel)) ggX3_copy_X3_isRow
set_option maxRecDepth 20000 in
theorem ggX3_copy_X3_foundThat : GoodIn wsX3_copy wsX3_foundThat := goodIn_r _ [14, 15, 16, 20, 21, 22, 23, 24, 25, 26, 27, 28, 29, 30, 31, 32, 33] (by decide +kernel) (by decide +kernel)
set_option maxRecDepth 20000 in
theorem gX3_copy_X3_foundThat : GoodIn wsX3_copy (wsV RX3 75 RX3 yX3_foundThat wsX3_foundThat) := goodIn_app (goodIn_of _ (by decide +kernel)) ggX3_copy_X3_foundThat
set_option maxRecDepth 20000 in
theorem ggX3_copy_X3_reaches : GoodIn wsX3_copy wsX3_reaches := goodIn_r _ [19] (by decide +kernel) (by decide +kernel)
set_option maxRecDepth 20000 in
theorem gX3_copy_X3_reaches : GoodIn wsX3_copy (va_wsS RX3 89 yX3_reaches wsX3_reaches) := goodIn_app (goodIn_of _ (by decide +kernel)) ggX3_copy_X3_reaches
theorem dX3_copy_0 : decode cX3_copy 0 = .ok (.iload_n 1, 1) := by decide +kernel
theorem dX3_copy_1 : decode cX3_copy 1 = .ok (.invokestatic 71, 3) := by decide +kernel
theorem dX3_copy_4 : decode cX3_copy 4 = .ok (.ifCond .eq 10, 3) := by decide +kernel
theorem dX3_copy_7 : decode cX3_copy 7 = .ok (.iload_n 3, 1) := by decide +kernel
theorem dX3_copy_8 : decode cX3_copy 8 = .ok (.invokestatic 71, 3) := by decide +kernel
theorem dX3_copy_11 : decode cX3_copy 11 = .ok (.ifCond .ne 5, 3) := by decide +kernel
theorem dX3_copy_14 : decode cX3_copy 14 = .ok (.iconst (-1), 1) := by decide +kernel
theorem dX3_copy_15 : decode cX3_copy 15 = .ok (.ireturn, 1) := by decide +kernel
theorem dX3_copy_16 : decode cX3_copy 16 = .ok (.iload 5, 2) := by decide +kernel
theorem dX3_copy_18 : decode cX3_copy 18 = .ok (.ifCond .ge 9, 3) := by decide +kernel
theorem dX3_copy_21 : decode cX3_copy 21 = .ok (.aload_n 0, 1) := by decide +kernel
theorem dX3_copy_22 : decode cX3_copy 22 = .ok (.iconst 5, 1) := by decide +kernel
theorem dX3_copy_23 : decode cX3_copy 23 = .ok (.invokevirtual 75, 3) := by decide +kernel
theorem dX3_copy_26 : decode cX3_copy 26 = .ok (.ireturn, 1) := by decide +kernel
theorem dX3_copy_27 : decode cX3_copy 27 = .ok (.aload_n 0, 1) := by decide +kernel
theorem dX3_copy_28 : decode cX3_copy 28 = .ok (.getfield 14, 3) := by decide +kernel
theorem dX3_copy_31 : decode cX3_copy 31 = .ok (.iload_n 1, 1) := by decide +kernel
theorem dX3_copy_32 : decode cX3_copy 32 = .ok (.iaload, 1) := by decide +kernel
theorem dX3_copy_33 : decode cX3_copy 33 = .ok (.iconst (-1), 1) := by decide +kernel
theorem dX3_copy_34 : decode cX3_copy 34 = .ok (.if_icmp .eq 13, 3) := by decide +kernel
theorem dX3_copy_37 : decode cX3_copy 37 = .ok (.aload_n 0, 1) := by decide +kernel
theorem dX3_copy_38 : decode cX3_copy 38 = .ok (.getfield 14, 3) := by decide +kernel
theorem dX3_copy_41 : decode cX3_copy 41 = .ok (.iload_n 3, 1) := by decide +kernel
theorem dX3_copy_42 : decode cX3_copy 42 = .ok (.iaload, 1) := by decide +kernel
theorem dX3_copy_43 : decode cX3_copy 43 = .ok (.iconst (-1), 1) := by decide +kernel
theorem dX3_copy_44 : decode cX3_copy 44 = .ok (.if_icmp .ne 9, 3) := by decide +kernel
theorem dX3_copy_47 : decode cX3_copy 47 = .ok (.aload_n 0, 1) := by decide +kernel
theorem dX3_copy_48 : decode cX3_copy 48 = .ok (.iconst 1, 1) := by decide +kernel
theorem dX3_copy_49 : decode cX3_copy 49 = .ok (.invokevirtual 75, 3) := by decide +kernel
theorem dX3_copy_52 : decode cX3_copy 52 = .ok (.ireturn, 1) := by decide +kernel
theorem dX3_copy_53 : decode cX3_copy 53 = .ok (.aload_n 0, 1) := by decide +kernel
theorem dX3_copy_54 : decode cX3_copy 54 = .ok (.getfield 14, 3) := by decide +kernel
theorem dX3_copy_57 : decode cX3_copy 57 = .ok (.iload_n 1, 1) := by decide +kernel
theorem dX3_copy_58 : decode cX3_copy 58 = .ok (.iaload, 1) := by decide +kernel
theorem dX3_copy_59 : decode cX3_copy 59 = .ok (.iload_n 2, 1) := by decide +kernel
theorem dX3_copy_60 : decode cX3_copy 60 = .ok (.iload 5, 2) := by decide +kernel
theorem dX3_copy_62 : decode cX3_copy 62 = .ok (.invokestatic 89, 3) := by decide +kernel
theorem dX3_copy_65 : decode cX3_copy 65 = .ok (.ifCond .eq 19, 3) := by decide +kernel
theorem dX3_copy_68 : decode cX3_copy 68 = .ok (.aload_n 0, 1) := by decide +kernel
theorem dX3_copy_69 : decode cX3_copy 69 = .ok (.getfield 14, 3) := by decide +kernel
theorem dX3_copy_72 : decode cX3_copy 72 = .ok (.iload_n 3, 1) := by decide +kernel
theorem dX3_copy_73 : decode cX3_copy 73 = .ok (.iaload, 1) := by decide +kernel
theorem dX3_copy_74 : decode cX3_copy 74 = .ok (.iload 4, 2) := by decide +kernel
theorem dX3_copy_76 : decode cX3_copy 76 = .ok (.iload 5, 2) := by decide +kernel
theorem dX3_copy_78 : decode cX3_copy 78 = .ok (.invokestatic 89, 3) := by decide +kernel
theorem dX3_copy_81 : decode cX3_copy 81 = .ok (.ifCond .ne 9, 3) := by decide +kernel
theorem dX3_copy_84 : decode cX3_copy 84 = .ok (.aload_n 0, 1) := by decide +kernel
theorem dX3_copy_85 : decode cX3_copy 85 = .ok (.iconst 2, 1) := by decide +kernel
theorem dX3_copy_86 : decode cX3_copy 86 = .ok (.invokevirtual 75, 3) := by decide +kernel
theorem dX3_copy_89 : decode cX3_copy 89 = .ok (.ireturn, 1) := by decide +kernel
theorem dX3_copy_90 : decode cX3_copy 90 = .ok (.aload_n 0, 1) := by decide +kernel
theorem dX3_copy_91 : decode cX3_copy 91 = .ok (.getfield 11, 3) := by decide +kernel
theorem dX3_copy_94 : decode cX3_copy 94 = .ok (.iload_n 1, 1) := by decide +kernel
theorem dX3_copy_95 : decode cX3_copy 95 = .ok (.aaload, 1) := by decide +kernel
theorem dX3_copy_96 : decode cX3_copy 96 = .ok (.iload_n 2, 1) := by decide +kernel
theorem dX3_copy_97 : decode cX3_copy 97 = .ok (.aload_n 0, 1) := by decide +kernel
theorem dX3_copy_98 : decode cX3_copy 98 = .ok (.getfield 11, 3) := by decide +kernel
theorem dX3_copy_101 : decode cX3_copy 101 = .ok (.iload_n 3, 1) := by decide +kernel
theorem dX3_copy_102 : decode cX3_copy 102 = .ok (.aaload, 1) := by decide +kernel
theorem dX3_copy_103 : decode cX3_copy 103 = .ok (.iload 4, 2) := by decide +kernel
theorem dX3_copy_105 : decode cX3_copy 105 = .ok (.iload 5, 2) := by decide +kernel
theorem dX3_copy_107 : decode cX3_copy 107 = .ok (.invokestatic 93, 3) := by decide +kernel
theorem dX3_copy_110 : decode cX3_copy 110 = .ok (.iconst 1, 1) := by decide +kernel
theorem dX3_copy_111 : decode cX3_copy 111 = .ok (.ireturn, 1) := by decide +kernel
set_option maxRecDepth 20000 in
theorem ggX3_mean_X3_rowRefusal : GoodIn wsX3_mean wsX3_rowRefusal := goodIn_r _ [8, 1, 9, 10, 7, 11, 12, 13, 14, 15, 16, 17, 18, 19, 20, 21, 22, 23, 24, 25, 26, 27, 28, 29, 30, 31] (by decide +kernel) (by decide +kernel)
set_option maxRecDepth 20000 in
theorem gX3_mean_X3_rowRefusal : GoodIn wsX3_mean (wsV RX3 86 RX3 yX3_rowRefusal wsX3_rowRefusal) := goodIn_app (goodIn_of _ (by decide +kernel)) ggX3_mean_X3_rowRefusal
set_option maxRecDepth 20000 in
theorem ggX3_mean_X3_foundThat : GoodIn wsX3_mean wsX3_foundThat := goodIn_r _ [15, 16, 17, 18, 19, 20, 21, 22, 23, 24, 25, 26, 27, 28, 29, 30, 31] (by decide +kernel) (by decide +kernel)
set_option maxRecDepth 20000 in
theorem gX3_mean_X3_foundThat : GoodIn wsX3_mean (wsV RX3 75 RX3 yX3_foundThat wsX3_foundThat) := goodIn_app (goodIn_of _ (by decide +kernel)) ggX3_mean_X3_foundThat
theorem dX3_mean_0 : decode cX3_mean 0 = .ok (.aload_n 0, 1) := by decide +kernel
theorem dX3_mean_1 : decode cX3_mean 1 = .ok (.iload_n 1, 1) := by decide +kernel
theorem dX3_mean_2 : decode cX3_mean 2 = .ok (.invokevirtual 86, 3) := by decide +kernel
theorem dX3_mean_5 : decode cX3_mean 5 = .ok (.istore_n 2, 1) := by decide +kernel
theorem dX3_mean_6 : decode cX3_mean 6 = .ok (.iload_n 2, 1) := by decide +kernel
theorem dX3_mean_7 : decode cX3_mean 7 = .ok (.ifCond .eq 5, 3) := by decide +kernel
theorem dX3_mean_10 : decode cX3_mean 10 = .ok (.iload_n 2, 1) := by decide +kernel
theorem dX3_mean_11 : decode cX3_mean 11 = .ok (.ireturn, 1) := by decide +kernel
theorem dX3_mean_12 : decode cX3_mean 12 = .ok (.aload_n 0, 1) := by decide +kernel
theorem dX3_mean_13 : decode cX3_mean 13 = .ok (.getfield 14, 3) := by decide +kernel
theorem dX3_mean_16 : decode cX3_mean 16 = .ok (.iload_n 1, 1) := by decide +kernel
theorem dX3_mean_17 : decode cX3_mean 17 = .ok (.iaload, 1) := by decide +kernel
theorem dX3_mean_18 : decode cX3_mean 18 = .ok (.istore_n 3, 1) := by decide +kernel
theorem dX3_mean_19 : decode cX3_mean 19 = .ok (.iload_n 3, 1) := by decide +kernel
theorem dX3_mean_20 : decode cX3_mean 20 = .ok (.ifCond .ne 9, 3) := by decide +kernel
theorem dX3_mean_23 : decode cX3_mean 23 = .ok (.aload_n 0, 1) := by decide +kernel
theorem dX3_mean_24 : decode cX3_mean 24 = .ok (.iconst 4, 1) := by decide +kernel
theorem dX3_mean_25 : decode cX3_mean 25 = .ok (.invokevirtual 75, 3) := by decide +kernel
theorem dX3_mean_28 : decode cX3_mean 28 = .ok (.ireturn, 1) := by decide +kernel
theorem dX3_mean_29 : decode cX3_mean 29 = .ok (.lconst 0, 1) := by decide +kernel
theorem dX3_mean_30 : decode cX3_mean 30 = .ok (.lstore 4, 2) := by decide +kernel
theorem dX3_mean_32 : decode cX3_mean 32 = .ok (.iconst 0, 1) := by decide +kernel
theorem dX3_mean_33 : decode cX3_mean 33 = .ok (.istore 6, 2) := by decide +kernel
theorem dX3_mean_35 : decode cX3_mean 35 = .ok (.iload 6, 2) := by decide +kernel
theorem dX3_mean_37 : decode cX3_mean 37 = .ok (.iload_n 3, 1) := by decide +kernel
theorem dX3_mean_38 : decode cX3_mean 38 = .ok (.if_icmp .ge 24, 3) := by decide +kernel
theorem dX3_mean_41 : decode cX3_mean 41 = .ok (.lload 4, 2) := by decide +kernel
theorem dX3_mean_43 : decode cX3_mean 43 = .ok (.aload_n 0, 1) := by decide +kernel
theorem dX3_mean_44 : decode cX3_mean 44 = .ok (.getfield 11, 3) := by decide +kernel
theorem dX3_mean_47 : decode cX3_mean 47 = .ok (.iload_n 1, 1) := by decide +kernel
theorem dX3_mean_48 : decode cX3_mean 48 = .ok (.aaload, 1) := by decide +kernel
theorem dX3_mean_49 : decode cX3_mean 49 = .ok (.iload 6, 2) := by decide +kernel
theorem dX3_mean_51 : decode cX3_mean 51 = .ok (.iaload, 1) := by decide +kernel
theorem dX3_mean_52 : decode cX3_mean 52 = .ok (.i2l, 1) := by decide +kernel
theorem dX3_mean_53 : decode cX3_mean 53 = .ok (.ladd, 1) := by decide +kernel
theorem dX3_mean_54 : decode cX3_mean 54 = .ok (.lstore 4, 2) := by decide +kernel
theorem dX3_mean_56 : decode cX3_mean 56 = .ok (.iinc 6 1, 3) := by decide +kernel
theorem dX3_mean_59 : decode cX3_mean 59 = .ok (.goto (-24), 3) := by decide +kernel
theorem dX3_mean_62 : decode cX3_mean 62 = .ok (.aload_n 0, 1) := by decide +kernel
theorem dX3_mean_63 : decode cX3_mean 63 = .ok (.lload 4, 2) := by decide +kernel
theorem dX3_mean_65 : decode cX3_mean 65 = .ok (.iload_n 3, 1) := by decide +kernel
theorem dX3_mean_66 : decode cX3_mean 66 = .ok (.i2l, 1) := by decide +kernel
theorem dX3_mean_67 : decode cX3_mean 67 = .ok (.ldiv, 1) := by decide +kernel
theorem dX3_mean_68 : decode cX3_mean 68 = .ok (.l2i, 1) := by decide +kernel
theorem dX3_mean_69 : decode cX3_mean 69 = .ok (.putfield 83, 3) := by decide +kernel
theorem dX3_mean_72 : decode cX3_mean 72 = .ok (.iconst 1, 1) := by decide +kernel
theorem dX3_mean_73 : decode cX3_mean 73 = .ok (.ireturn, 1) := by decide +kernel
set_option maxRecDepth 20000 in
theorem ggX3_text_X3_isText : GoodIn wsX3_text wsX3_isText := goodIn_r _ [6] (by decide +kernel) (by decide +kernel)
set_option maxRecDepth 20000 in
theorem gX3_text_X3_isText : GoodIn wsX3_text (va_wsS RX3 99 yX3_isText wsX3_isText) := goodIn_app (goodIn_of _ (by decide +kernel)) ggX3_text_X3_isText
set_option maxRecDepth 20000 in
theorem ggX3_text_X3_foundThat : GoodIn wsX3_text wsX3_foundThat := goodIn_r _ [10, 11, 12, 17, 18, 19, 20, 21, 22, 23, 24, 25, 26, 27, 28, 29, 30] (by decide +kernel) (by decide +kernel)
set_option maxRecDepth 20000 in
theorem gX3_text_X3_foundThat : GoodIn wsX3_text (wsV RX3 75 RX3 yX3_foundThat wsX3_foundThat) := goodIn_app (goodIn_of _ (by decide +kernel)) ggX3_text_X3_foundThat
set_option maxRecDepth 20000 in
theorem ggX3_text_J7_fill_031fb : GoodIn wsX3_text wsJ7_fill_031fb := goodIn_r _ [16] (by decide +kernel) (by decide +kernel)
set_option maxRecDepth 20000 in
theorem gX3_text_J7_fill_031fb : GoodIn wsX3_text (va_wsS RX3 102 yJ7_fill_031fb wsJ7_fill_031fb) := goodIn_app (goodIn_of _ (by decide +kernel)) ggX3_text_J7_fill_031fb
theorem dX3_text_0 : decode cX3_text 0 = .ok (.iload_n 1, 1) := by decide +kernel
theorem dX3_text_1 : decode cX3_text 1 = .ok (.invokestatic 99, 3) := by decide +kernel
theorem dX3_text_4 : decode cX3_text 4 = .ok (.ifCond .eq 9, 3) := by decide +kernel
theorem dX3_text_7 : decode cX3_text 7 = .ok (.iload_n 2, 1) := by decide +kernel
theorem dX3_text_8 : decode cX3_text 8 = .ok (.bipush 60, 2) := by decide +kernel
theorem dX3_text_10 : decode cX3_text 10 = .ok (.if_icmp .le 5, 3) := by decide +kernel
theorem dX3_text_13 : decode cX3_text 13 = .ok (.iconst (-1), 1) := by decide +kernel
theorem dX3_text_14 : decode cX3_text 14 = .ok (.ireturn, 1) := by decide +kernel
theorem dX3_text_15 : decode cX3_text 15 = .ok (.iload_n 2, 1) := by decide +kernel
theorem dX3_text_16 : decode cX3_text 16 = .ok (.ifCond .ge 9, 3) := by decide +kernel
theorem dX3_text_19 : decode cX3_text 19 = .ok (.aload_n 0, 1) := by decide +kernel
theorem dX3_text_20 : decode cX3_text 20 = .ok (.iconst 5, 1) := by decide +kernel
theorem dX3_text_21 : decode cX3_text 21 = .ok (.invokevirtual 75, 3) := by decide +kernel
theorem dX3_text_24 : decode cX3_text 24 = .ok (.ireturn, 1) := by decide +kernel
theorem dX3_text_25 : decode cX3_text 25 = .ok (.aload_n 0, 1) := by decide +kernel
theorem dX3_text_26 : decode cX3_text 26 = .ok (.getfield 20, 3) := by decide +kernel
theorem dX3_text_29 : decode cX3_text 29 = .ok (.iload_n 1, 1) := by decide +kernel
theorem dX3_text_30 : decode cX3_text 30 = .ok (.aaload, 1) := by decide +kernel
theorem dX3_text_31 : decode cX3_text 31 = .ok (.bipush 32, 2) := by decide +kernel
theorem dX3_text_33 : decode cX3_text 33 = .ok (.invokestatic 102, 3) := by decide +kernel
theorem dX3_text_36 : decode cX3_text 36 = .ok (.aload_n 0, 1) := by decide +kernel
theorem dX3_text_37 : decode cX3_text 37 = .ok (.getfield 23, 3) := by decide +kernel
theorem dX3_text_40 : decode cX3_text 40 = .ok (.iload_n 1, 1) := by decide +kernel
theorem dX3_text_41 : decode cX3_text 41 = .ok (.iload_n 2, 1) := by decide +kernel
theorem dX3_text_42 : decode cX3_text 42 = .ok (.iastore, 1) := by decide +kernel
theorem dX3_text_43 : decode cX3_text 43 = .ok (.iload_n 2, 1) := by decide +kernel
theorem dX3_text_44 : decode cX3_text 44 = .ok (.ireturn, 1) := by decide +kernel
set_option maxRecDepth 20000 in
theorem ggX3_put_X3_textRefusal : GoodIn wsX3_put wsX3_textRefusal := goodIn_r _ [7, 1, 8, 9, 6, 10, 11, 12, 13, 14, 15, 16, 17, 18, 19, 20, 21, 22, 23, 24, 25, 26, 27, 28, 29, 30] (by decide +kernel) (by decide +kernel)
set_option maxRecDepth 20000 in
theorem gX3_put_X3_textRefusal : GoodIn wsX3_put (wsV RX3 105 RX3 yX3_textRefusal wsX3_textRefusal) := goodIn_app (goodIn_of _ (by decide +kernel)) ggX3_put_X3_textRefusal
set_option maxRecDepth 20000 in
theorem ggX3_put_X3_foundThat : GoodIn wsX3_put wsX3_foundThat := goodIn_r _ [14, 15, 16, 17, 18, 19, 20, 21, 22, 23, 24, 25, 26, 27, 28, 29, 30] (by decide +kernel) (by decide +kernel)
set_option maxRecDepth 20000 in
theorem gX3_put_X3_foundThat : GoodIn wsX3_put (wsV RX3 75 RX3 yX3_foundThat wsX3_foundThat) := goodIn_app (goodIn_of _ (by decide +kernel)) ggX3_put_X3_foundThat
theorem dX3_put_0 : decode cX3_put 0 = .ok (.aload_n 0, 1) := by decide +kernel
theorem dX3_put_1 : decode cX3_put 1 = .ok (.iload_n 1, 1) := by decide +kernel
theorem dX3_put_2 : decode cX3_put 2 = .ok (.invokevirtual 105, 3) := by decide +kernel
theorem dX3_put_5 : decode cX3_put 5 = .ok (.istore 4, 2) := by decide +kernel
theorem dX3_put_7 : decode cX3_put 7 = .ok (.iload 4, 2) := by decide +kernel
theorem dX3_put_9 : decode cX3_put 9 = .ok (.ifCond .eq 6, 3) := by decide +kernel
theorem dX3_put_12 : decode cX3_put 12 = .ok (.iload 4, 2) := by decide +kernel
theorem dX3_put_14 : decode cX3_put 14 = .ok (.ireturn, 1) := by decide +kernel
theorem dX3_put_15 : decode cX3_put 15 = .ok (.iload_n 2, 1) := by decide +kernel
theorem dX3_put_16 : decode cX3_put 16 = .ok (.ifCond .lt 13, 3) := by decide +kernel
theorem dX3_put_19 : decode cX3_put 19 = .ok (.iload_n 2, 1) := by decide +kernel
theorem dX3_put_20 : decode cX3_put 20 = .ok (.aload_n 0, 1) := by decide +kernel
theorem dX3_put_21 : decode cX3_put 21 = .ok (.getfield 23, 3) := by decide +kernel
theorem dX3_put_24 : decode cX3_put 24 = .ok (.iload_n 1, 1) := by decide +kernel
theorem dX3_put_25 : decode cX3_put 25 = .ok (.iaload, 1) := by decide +kernel
theorem dX3_put_26 : decode cX3_put 26 = .ok (.if_icmp .lt 9, 3) := by decide +kernel
theorem dX3_put_29 : decode cX3_put 29 = .ok (.aload_n 0, 1) := by decide +kernel
theorem dX3_put_30 : decode cX3_put 30 = .ok (.iconst 2, 1) := by decide +kernel
theorem dX3_put_31 : decode cX3_put 31 = .ok (.invokevirtual 75, 3) := by decide +kernel
theorem dX3_put_34 : decode cX3_put 34 = .ok (.ireturn, 1) := by decide +kernel
theorem dX3_put_35 : decode cX3_put 35 = .ok (.aload_n 0, 1) := by decide +kernel
theorem dX3_put_36 : decode cX3_put 36 = .ok (.getfield 20, 3) := by decide +kernel
theorem dX3_put_39 : decode cX3_put 39 = .ok (.iload_n 1, 1) := by decide +kernel
theorem dX3_put_40 : decode cX3_put 40 = .ok (.aaload, 1) := by decide +kernel
theorem dX3_put_41 : decode cX3_put 41 = .ok (.iload_n 2, 1) := by decide +kernel
theorem dX3_put_42 : decode cX3_put 42 = .ok (.baload, 1) := by decide +kernel
theorem dX3_put_43 : decode cX3_put 43 = .ok (.istore 5, 2) := by decide +kernel
theorem dX3_put_45 : decode cX3_put 45 = .ok (.aload_n 0, 1) := by decide +kernel
theorem dX3_put_46 : decode cX3_put 46 = .ok (.getfield 20, 3) := by decide +kernel
theorem dX3_put_49 : decode cX3_put 49 = .ok (.iload_n 1, 1) := by decide +kernel
theorem dX3_put_50 : decode cX3_put 50 = .ok (.aaload, 1) := by decide +kernel
theorem dX3_put_51 : decode cX3_put 51 = .ok (.iload_n 2, 1) := by decide +kernel
theorem dX3_put_52 : decode cX3_put 52 = .ok (.iload_n 3, 1) := by decide +kernel
theorem dX3_put_53 : decode cX3_put 53 = .ok (.i2b, 1) := by decide +kernel
theorem dX3_put_54 : decode cX3_put 54 = .ok (.bastore, 1) := by decide +kernel
theorem dX3_put_55 : decode cX3_put 55 = .ok (.sipush 1000, 3) := by decide +kernel
theorem dX3_put_58 : decode cX3_put 58 = .ok (.iload 5, 2) := by decide +kernel
theorem dX3_put_60 : decode cX3_put 60 = .ok (.iadd, 1) := by decide +kernel
theorem dX3_put_61 : decode cX3_put 61 = .ok (.ireturn, 1) := by decide +kernel
set_option maxRecDepth 20000 in
theorem ggX3_fault_X3_textRefusal : GoodIn wsX3_fault wsX3_textRefusal := goodIn_r _ [7, 2, 8, 9, 6, 10, 11, 12, 13, 14, 15, 16, 27, 28, 29, 30, 31, 32, 33, 34, 35, 36, 37, 38, 39, 40] (by decide +kernel) (by decide +kernel)
set_option maxRecDepth 20000 in
theorem gX3_fault_X3_textRefusal : GoodIn wsX3_fault (wsV RX3 105 RX3 yX3_textRefusal wsX3_textRefusal) := goodIn_app (goodIn_of _ (by decide +kernel)) ggX3_fault_X3_textRefusal
set_option maxRecDepth 20000 in
theorem ggX3_fault_X3_firstFault : GoodIn wsX3_fault wsX3_firstFault := goodIn_r _ [19, 20, 21, 6, 22, 23, 24, 25, 26] (by decide +kernel) (by decide +kernel)
set_option maxRecDepth 20000 in
theorem gX3_fault_X3_firstFault : GoodIn wsX3_fault (va_wsS RX3 108 yX3_firstFault wsX3_firstFault) := goodIn_app (goodIn_of _ (by decide +kernel)) ggX3_fault_X3_firstFault
theorem dX3_fault_0 : decode cX3_fault 0 = .ok (.aload_n 0, 1) := by decide +kernel
theorem dX3_fault_1 : decode cX3_fault 1 = .ok (.iload_n 1, 1) := by decide +kernel
theorem dX3_fault_2 : decode cX3_fault 2 = .ok (.invokevirtual 105, 3) := by decide +kernel
theorem dX3_fault_5 : decode cX3_fault 5 = .ok (.istore_n 2, 1) := by decide +kernel
theorem dX3_fault_6 : decode cX3_fault 6 = .ok (.iload_n 2, 1) := by decide +kernel
theorem dX3_fault_7 : decode cX3_fault 7 = .ok (.ifCond .eq 7, 3) := by decide +kernel
theorem dX3_fault_10 : decode cX3_fault 10 = .ok (.iload_n 2, 1) := by decide +kernel
theorem dX3_fault_11 : decode cX3_fault 11 = .ok (.goto 18, 3) := by decide +kernel
theorem dX3_fault_14 : decode cX3_fault 14 = .ok (.aload_n 0, 1) := by decide +kernel
theorem dX3_fault_15 : decode cX3_fault 15 = .ok (.getfield 20, 3) := by decide +kernel
theorem dX3_fault_18 : decode cX3_fault 18 = .ok (.iload_n 1, 1) := by decide +kernel
theorem dX3_fault_19 : decode cX3_fault 19 = .ok (.aaload, 1) := by decide +kernel
theorem dX3_fault_20 : decode cX3_fault 20 = .ok (.aload_n 0, 1) := by decide +kernel
theorem dX3_fault_21 : decode cX3_fault 21 = .ok (.getfield 23, 3) := by decide +kernel
theorem dX3_fault_24 : decode cX3_fault 24 = .ok (.iload_n 1, 1) := by decide +kernel
theorem dX3_fault_25 : decode cX3_fault 25 = .ok (.iaload, 1) := by decide +kernel
theorem dX3_fault_26 : decode cX3_fault 26 = .ok (.invokestatic 108, 3) := by decide +kernel
theorem dX3_fault_29 : decode cX3_fault 29 = .ok (.ireturn, 1) := by decide +kernel
set_option maxRecDepth 20000 in
theorem ggX3_place_X3_textRefusal : GoodIn wsX3_place wsX3_textRefusal := goodIn_r _ [11, 2, 12, 13, 10, 14, 15, 16, 17, 18, 19, 20, 50, 51, 52, 53, 54, 55, 56, 57, 58, 59, 60, 61, 62, 63] (by decide +kernel) (by decide +kernel)
set_option maxRecDepth 20000 in
theorem gX3_place_X3_textRefusal : GoodIn wsX3_place (wsV RX3 105 RX3 yX3_textRefusal wsX3_textRefusal) := goodIn_app (goodIn_of _ (by decide +kernel)) ggX3_place_X3_textRefusal
set_option maxRecDepth 20000 in
theorem ggX3_place_X3_firstFault : GoodIn wsX3_place wsX3_firstFault := goodIn_r _ [23, 24, 25, 10, 26, 27, 28, 29, 30] (by decide +kernel) (by decide +kernel)
set_option maxRecDepth 20000 in
theorem gX3_place_X3_firstFault : GoodIn wsX3_place (va_wsS RX3 108 yX3_firstFault wsX3_firstFault) := goodIn_app (goodIn_of _ (by decide +kernel)) ggX3_place_X3_firstFault
set_option maxRecDepth 20000 in
theorem ggX3_place_X3_settle : GoodIn wsX3_place wsX3_settle := goodIn_r _ [34, 35, 5, 36, 37, 38, 39, 6, 40, 41, 42, 43, 44, 45, 46, 24, 25, 10, 26, 27, 47, 48, 49, 50, 51, 52, 53, 54, 55, 56, 57, 58, 59, 60, 61, 62, 63, 66, 67, 68, 69, 70, 71, 72, 64, 65] (by decide +kernel) (by decide +kernel)
set_option maxRecDepth 20000 in
theorem gX3_place_X3_settle : GoodIn wsX3_place (wsV RX3 112 RX3 yX3_settle wsX3_settle) := goodIn_app (goodIn_of _ (by decide +kernel)) ggX3_place_X3_settle
theorem dX3_place_0 : decode cX3_place 0 = .ok (.aload_n 0, 1) := by decide +kernel
theorem dX3_place_1 : decode cX3_place 1 = .ok (.iload_n 1, 1) := by decide +kernel
theorem dX3_place_2 : decode cX3_place 2 = .ok (.invokevirtual 105, 3) := by decide +kernel
theorem dX3_place_5 : decode cX3_place 5 = .ok (.istore_n 2, 1) := by decide +kernel
theorem dX3_place_6 : decode cX3_place 6 = .ok (.iload_n 2, 1) := by decide +kernel
theorem dX3_place_7 : decode cX3_place 7 = .ok (.ifCond .eq 5, 3) := by decide +kernel
theorem dX3_place_10 : decode cX3_place 10 = .ok (.iload_n 2, 1) := by decide +kernel
theorem dX3_place_11 : decode cX3_place 11 = .ok (.ireturn, 1) := by decide +kernel
theorem dX3_place_12 : decode cX3_place 12 = .ok (.aload_n 0, 1) := by decide +kernel
theorem dX3_place_13 : decode cX3_place 13 = .ok (.getfield 20, 3) := by decide +kernel
theorem dX3_place_16 : decode cX3_place 16 = .ok (.iload_n 1, 1) := by decide +kernel
theorem dX3_place_17 : decode cX3_place 17 = .ok (.aaload, 1) := by decide +kernel
theorem dX3_place_18 : decode cX3_place 18 = .ok (.aload_n 0, 1) := by decide +kernel
theorem dX3_place_19 : decode cX3_place 19 = .ok (.getfield 23, 3) := by decide +kernel
theorem dX3_place_22 : decode cX3_place 22 = .ok (.iload_n 1, 1) := by decide +kernel
theorem dX3_place_23 : decode cX3_place 23 = .ok (.iaload, 1) := by decide +kernel
theorem dX3_place_24 : decode cX3_place 24 = .ok (.invokestatic 108, 3) := by decide +kernel
theorem dX3_place_27 : decode cX3_place 27 = .ok (.bipush (-9), 2) := by decide +kernel
theorem dX3_place_29 : decode cX3_place 29 = .ok (.if_icmp .eq 6, 3) := by decide +kernel
theorem dX3_place_32 : decode cX3_place 32 = .ok (.bipush (-4), 2) := by decide +kernel
theorem dX3_place_34 : decode cX3_place 34 = .ok (.ireturn, 1) := by decide +kernel
theorem dX3_place_35 : decode cX3_place 35 = .ok (.iconst 0, 1) := by decide +kernel
theorem dX3_place_36 : decode cX3_place 36 = .ok (.istore_n 3, 1) := by decide +kernel
theorem dX3_place_37 : decode cX3_place 37 = .ok (.iload_n 3, 1) := by decide +kernel
theorem dX3_place_38 : decode cX3_place 38 = .ok (.iconst 3, 1) := by decide +kernel
theorem dX3_place_39 : decode cX3_place 39 = .ok (.if_icmp .ge 19, 3) := by decide +kernel
theorem dX3_place_42 : decode cX3_place 42 = .ok (.aload_n 0, 1) := by decide +kernel
theorem dX3_place_43 : decode cX3_place 43 = .ok (.getfield 40, 3) := by decide +kernel
theorem dX3_place_46 : decode cX3_place 46 = .ok (.iload_n 3, 1) := by decide +kernel
theorem dX3_place_47 : decode cX3_place 47 = .ok (.aaload, 1) := by decide +kernel
theorem dX3_place_48 : decode cX3_place 48 = .ok (.iconst (-1), 1) := by decide +kernel
theorem dX3_place_49 : decode cX3_place 49 = .ok (.putfield 67, 3) := by decide +kernel
theorem dX3_place_52 : decode cX3_place 52 = .ok (.iinc 3 1, 3) := by decide +kernel
theorem dX3_place_55 : decode cX3_place 55 = .ok (.goto (-18), 3) := by decide +kernel
theorem dX3_place_58 : decode cX3_place 58 = .ok (.aload_n 0, 1) := by decide +kernel
theorem dX3_place_59 : decode cX3_place 59 = .ok (.aload_n 0, 1) := by decide +kernel
theorem dX3_place_60 : decode cX3_place 60 = .ok (.getfield 20, 3) := by decide +kernel
theorem dX3_place_63 : decode cX3_place 63 = .ok (.iload_n 1, 1) := by decide +kernel
theorem dX3_place_64 : decode cX3_place 64 = .ok (.aaload, 1) := by decide +kernel
theorem dX3_place_65 : decode cX3_place 65 = .ok (.aload_n 0, 1) := by decide +kernel
theorem dX3_place_66 : decode cX3_place 66 = .ok (.getfield 23, 3) := by decide +kernel
theorem dX3_place_69 : decode cX3_place 69 = .ok (.iload_n 1, 1) := by decide +kernel
theorem dX3_place_70 : decode cX3_place 70 = .ok (.iaload, 1) := by decide +kernel
theorem dX3_place_71 : decode cX3_place 71 = .ok (.invokevirtual 112, 3) := by decide +kernel
theorem dX3_place_74 : decode cX3_place 74 = .ok (.aload_n 0, 1) := by decide +kernel
theorem dX3_place_75 : decode cX3_place 75 = .ok (.getfield 29, 3) := by decide +kernel
theorem dX3_place_78 : decode cX3_place 78 = .ok (.getfield 116, 3) := by decide +kernel
theorem dX3_place_81 : decode cX3_place 81 = .ok (.ireturn, 1) := by decide +kernel
set_option maxRecDepth 20000 in
theorem ggX3_house_X3_isHouse : GoodIn wsX3_house wsX3_isHouse := goodIn_r _ [6, 7, 8, 49, 50, 51, 52, 53, 54, 55, 56, 57, 58, 59, 60, 61, 62, 63, 64, 65, 66] (by decide +kernel) (by decide +kernel)
set_option maxRecDepth 20000 in
theorem gX3_house_X3_isHouse : GoodIn wsX3_house (wsV RX3 119 RX3 yX3_isHouse wsX3_isHouse) := goodIn_app (goodIn_of _ (by decide +kernel)) ggX3_house_X3_isHouse
set_option maxRecDepth 20000 in
theorem ggX3_house_X3_ofHouse : GoodIn wsX3_house wsX3_ofHouse := goodIn_r _ [12, 13, 7, 14, 15, 16, 17, 18, 19, 20, 21, 22, 23, 24, 25, 26, 27, 28, 29, 30, 31, 32, 33, 5, 34, 35, 36, 37, 38, 39, 40, 41, 42, 43, 44, 45, 46, 47, 48, 49, 50, 51, 52, 53, 54, 55, 56, 57, 58, 59, 60, 61, 62, 63, 64, 65, 66, 67, 68, 69, 70, 71] (by decide +kernel) (by decide +kernel)
set_option maxRecDepth 20000 in
theorem gX3_house_X3_ofHouse : GoodIn wsX3_house (wsV RX3 122 RX3 yX3_ofHouse wsX3_ofHouse) := goodIn_app (goodIn_of _ (by decide +kernel)) ggX3_house_X3_ofHouse
theorem dX3_house_0 : decode cX3_house 0 = .ok (.aload_n 0, 1) := by decide +kernel
theorem dX3_house_1 : decode cX3_house 1 = .ok (.iload_n 1, 1) := by decide +kernel
theorem dX3_house_2 : decode cX3_house 2 = .ok (.invokevirtual 119, 3) := by decide +kernel
theorem dX3_house_5 : decode cX3_house 5 = .ok (.ifCond .eq 13, 3) := by decide +kernel
theorem dX3_house_8 : decode cX3_house 8 = .ok (.iload_n 2, 1) := by decide +kernel
theorem dX3_house_9 : decode cX3_house 9 = .ok (.ifCond .lt 9, 3) := by decide +kernel
theorem dX3_house_12 : decode cX3_house 12 = .ok (.iload_n 2, 1) := by decide +kernel
theorem dX3_house_13 : decode cX3_house 13 = .ok (.bipush 7, 2) := by decide +kernel
theorem dX3_house_15 : decode cX3_house 15 = .ok (.if_icmp .lt 5, 3) := by decide +kernel
theorem dX3_house_18 : decode cX3_house 18 = .ok (.iconst (-1), 1) := by decide +kernel
theorem dX3_house_19 : decode cX3_house 19 = .ok (.ireturn, 1) := by decide +kernel
theorem dX3_house_20 : decode cX3_house 20 = .ok (.aload_n 0, 1) := by decide +kernel
theorem dX3_house_21 : decode cX3_house 21 = .ok (.aload_n 0, 1) := by decide +kernel
theorem dX3_house_22 : decode cX3_house 22 = .ok (.iload_n 1, 1) := by decide +kernel
theorem dX3_house_23 : decode cX3_house 23 = .ok (.iload_n 2, 1) := by decide +kernel
theorem dX3_house_24 : decode cX3_house 24 = .ok (.invokevirtual 122, 3) := by decide +kernel
theorem dX3_house_27 : decode cX3_house 27 = .ok (.putfield 83, 3) := by decide +kernel
theorem dX3_house_30 : decode cX3_house 30 = .ok (.iconst 1, 1) := by decide +kernel
theorem dX3_house_31 : decode cX3_house 31 = .ok (.ireturn, 1) := by decide +kernel
set_option maxRecDepth 20000 in
theorem ggX3_mark_X3_isHouse : GoodIn wsX3_mark wsX3_isHouse := goodIn_r _ [9, 1, 10, 40, 41, 42, 43, 44, 45, 46, 47, 48, 49, 50, 51, 52, 53, 54, 55, 56, 57] (by decide +kernel) (by decide +kernel)
set_option maxRecDepth 20000 in
theorem gX3_mark_X3_isHouse : GoodIn wsX3_mark (wsV RX3 119 RX3 yX3_isHouse wsX3_isHouse) := goodIn_app (goodIn_of _ (by decide +kernel)) ggX3_mark_X3_isHouse
set_option maxRecDepth 20000 in
theorem ggX3_mark_X3_isA : GoodIn wsX3_mark wsX3_isA := goodIn_r _ [13] (by decide +kernel) (by decide +kernel)
set_option maxRecDepth 20000 in
theorem gX3_mark_X3_isA : GoodIn wsX3_mark (va_wsS RX3 128 yX3_isA wsX3_isA) := goodIn_app (goodIn_of _ (by decide +kernel)) ggX3_mark_X3_isA
set_option maxRecDepth 20000 in
theorem ggX3_mark_X3_foundThat : GoodIn wsX3_mark wsX3_foundThat := goodIn_r _ [17, 18, 19, 40, 41, 42, 43, 44, 45, 46, 47, 48, 49, 50, 51, 52, 53] (by decide +kernel) (by decide +kernel)
set_option maxRecDepth 20000 in
theorem gX3_mark_X3_foundThat : GoodIn wsX3_mark (wsV RX3 75 RX3 yX3_foundThat wsX3_foundThat) := goodIn_app (goodIn_of _ (by decide +kernel)) ggX3_mark_X3_foundThat
set_option maxRecDepth 20000 in
theorem ggX3_mark_X2_now : GoodIn wsX3_mark wsX2_now := goodIn_r _ [24, 25, 26, 61, 62] (by decide +kernel) (by decide +kernel)
set_option maxRecDepth 20000 in
theorem gX3_mark_X2_now : GoodIn wsX3_mark (wsV RX3 132 RX2 yX2_now wsX2_now) := goodIn_app (goodIn_of _ (by decide +kernel)) ggX3_mark_X2_now
set_option maxRecDepth 20000 in
theorem ggX3_mark_X3_markOf : GoodIn wsX3_mark wsX3_markOf := goodIn_r _ [29, 30, 31, 8, 32, 33, 34, 35, 36, 37, 38, 39] (by decide +kernel) (by decide +kernel)
set_option maxRecDepth 20000 in
theorem gX3_mark_X3_markOf : GoodIn wsX3_mark (va_wsS RX3 139 yX3_markOf wsX3_markOf) := goodIn_app (goodIn_of _ (by decide +kernel)) ggX3_mark_X3_markOf
theorem dX3_mark_0 : decode cX3_mark 0 = .ok (.aload_n 0, 1) := by decide +kernel
theorem dX3_mark_1 : decode cX3_mark 1 = .ok (.iload_n 1, 1) := by decide +kernel
theorem dX3_mark_2 : decode cX3_mark 2 = .ok (.invokevirtual 119, 3) := by decide +kernel
theorem dX3_mark_5 : decode cX3_mark 5 = .ok (.ifCond .eq 13, 3) := by decide +kernel
theorem dX3_mark_8 : decode cX3_mark 8 = .ok (.iload_n 2, 1) := by decide +kernel
theorem dX3_mark_9 : decode cX3_mark 9 = .ok (.ifCond .le 9, 3) := by decide +kernel
theorem dX3_mark_12 : decode cX3_mark 12 = .ok (.iload_n 2, 1) := by decide +kernel
theorem dX3_mark_13 : decode cX3_mark 13 = .ok (.bipush 6, 2) := by decide +kernel
theorem dX3_mark_15 : decode cX3_mark 15 = .ok (.if_icmp .lt 5, 3) := by decide +kernel
theorem dX3_mark_18 : decode cX3_mark 18 = .ok (.iconst (-1), 1) := by decide +kernel
theorem dX3_mark_19 : decode cX3_mark 19 = .ok (.ireturn, 1) := by decide +kernel
theorem dX3_mark_20 : decode cX3_mark 20 = .ok (.aload_n 0, 1) := by decide +kernel
theorem dX3_mark_21 : decode cX3_mark 21 = .ok (.getfield 29, 3) := by decide +kernel
theorem dX3_mark_24 : decode cX3_mark 24 = .ok (.getfield 125, 3) := by decide +kernel
theorem dX3_mark_27 : decode cX3_mark 27 = .ok (.iload_n 1, 1) := by decide +kernel
theorem dX3_mark_28 : decode cX3_mark 28 = .ok (.iaload, 1) := by decide +kernel
theorem dX3_mark_29 : decode cX3_mark 29 = .ok (.istore_n 3, 1) := by decide +kernel
theorem dX3_mark_30 : decode cX3_mark 30 = .ok (.iload_n 3, 1) := by decide +kernel
theorem dX3_mark_31 : decode cX3_mark 31 = .ok (.iload_n 2, 1) := by decide +kernel
theorem dX3_mark_32 : decode cX3_mark 32 = .ok (.invokestatic 128, 3) := by decide +kernel
theorem dX3_mark_35 : decode cX3_mark 35 = .ok (.ifCond .ne 9, 3) := by decide +kernel
theorem dX3_mark_38 : decode cX3_mark 38 = .ok (.aload_n 0, 1) := by decide +kernel
theorem dX3_mark_39 : decode cX3_mark 39 = .ok (.iconst 3, 1) := by decide +kernel
theorem dX3_mark_40 : decode cX3_mark 40 = .ok (.invokevirtual 75, 3) := by decide +kernel
theorem dX3_mark_43 : decode cX3_mark 43 = .ok (.ireturn, 1) := by decide +kernel
theorem dX3_mark_44 : decode cX3_mark 44 = .ok (.iload_n 3, 1) := by decide +kernel
theorem dX3_mark_45 : decode cX3_mark 45 = .ok (.iload_n 2, 1) := by decide +kernel
theorem dX3_mark_46 : decode cX3_mark 46 = .ok (.aload_n 0, 1) := by decide +kernel
theorem dX3_mark_47 : decode cX3_mark 47 = .ok (.getfield 36, 3) := by decide +kernel
theorem dX3_mark_50 : decode cX3_mark 50 = .ok (.invokevirtual 132, 3) := by decide +kernel
theorem dX3_mark_53 : decode cX3_mark 53 = .ok (.getfield 136, 3) := by decide +kernel
theorem dX3_mark_56 : decode cX3_mark 56 = .ok (.iload_n 1, 1) := by decide +kernel
theorem dX3_mark_57 : decode cX3_mark 57 = .ok (.iaload, 1) := by decide +kernel
theorem dX3_mark_58 : decode cX3_mark 58 = .ok (.invokestatic 139, 3) := by decide +kernel
theorem dX3_mark_61 : decode cX3_mark 61 = .ok (.ireturn, 1) := by decide +kernel
set_option maxRecDepth 20000 in
theorem ggX3_worth_X3_isHouse : GoodIn wsX3_worth wsX3_isHouse := goodIn_r _ [7, 1, 8, 16, 17, 18, 19, 20, 21, 22, 23, 24, 25, 26, 27, 28, 29, 30, 31, 32, 33] (by decide +kernel) (by decide +kernel)
set_option maxRecDepth 20000 in
theorem gX3_worth_X3_isHouse : GoodIn wsX3_worth (wsV RX3 119 RX3 yX3_isHouse wsX3_isHouse) := goodIn_app (goodIn_of _ (by decide +kernel)) ggX3_worth_X3_isHouse
set_option maxRecDepth 20000 in
theorem ggX3_worth_X3_worthTo : GoodIn wsX3_worth wsX3_worthTo := goodIn_r _ [11, 12, 13, 14, 15] (by decide +kernel) (by decide +kernel)
set_option maxRecDepth 20000 in
theorem gX3_worth_X3_worthTo : GoodIn wsX3_worth (va_wsS RX3 143 yX3_worthTo wsX3_worthTo) := goodIn_app (goodIn_of _ (by decide +kernel)) ggX3_worth_X3_worthTo
theorem dX3_worth_0 : decode cX3_worth 0 = .ok (.aload_n 0, 1) := by decide +kernel
theorem dX3_worth_1 : decode cX3_worth 1 = .ok (.iload_n 1, 1) := by decide +kernel
theorem dX3_worth_2 : decode cX3_worth 2 = .ok (.invokevirtual 119, 3) := by decide +kernel
theorem dX3_worth_5 : decode cX3_worth 5 = .ok (.ifCond .eq 13, 3) := by decide +kernel
theorem dX3_worth_8 : decode cX3_worth 8 = .ok (.iload_n 2, 1) := by decide +kernel
theorem dX3_worth_9 : decode cX3_worth 9 = .ok (.ifCond .lt 9, 3) := by decide +kernel
theorem dX3_worth_12 : decode cX3_worth 12 = .ok (.iload_n 2, 1) := by decide +kernel
theorem dX3_worth_13 : decode cX3_worth 13 = .ok (.bipush 99, 2) := by decide +kernel
theorem dX3_worth_15 : decode cX3_worth 15 = .ok (.if_icmp .le 5, 3) := by decide +kernel
theorem dX3_worth_18 : decode cX3_worth 18 = .ok (.iconst (-1), 1) := by decide +kernel
theorem dX3_worth_19 : decode cX3_worth 19 = .ok (.ireturn, 1) := by decide +kernel
theorem dX3_worth_20 : decode cX3_worth 20 = .ok (.aload_n 0, 1) := by decide +kernel
theorem dX3_worth_21 : decode cX3_worth 21 = .ok (.getfield 29, 3) := by decide +kernel
theorem dX3_worth_24 : decode cX3_worth 24 = .ok (.getfield 125, 3) := by decide +kernel
theorem dX3_worth_27 : decode cX3_worth 27 = .ok (.iload_n 1, 1) := by decide +kernel
theorem dX3_worth_28 : decode cX3_worth 28 = .ok (.iaload, 1) := by decide +kernel
theorem dX3_worth_29 : decode cX3_worth 29 = .ok (.iload_n 2, 1) := by decide +kernel
theorem dX3_worth_30 : decode cX3_worth 30 = .ok (.invokestatic 143, 3) := by decide +kernel
theorem dX3_worth_33 : decode cX3_worth 33 = .ok (.ireturn, 1) := by decide +kernel
set_option maxRecDepth 20000 in
theorem ggX3_day_X2_now : GoodIn wsX3_day wsX2_now := goodIn_r _ [9, 10, 11, 68, 69] (by decide +kernel) (by decide +kernel)
set_option maxRecDepth 20000 in
theorem gX3_day_X2_now : GoodIn wsX3_day (wsV RX3 132 RX2 yX2_now wsX2_now) := goodIn_app (goodIn_of _ (by decide +kernel)) ggX3_day_X2_now
set_option maxRecDepth 20000 in
theorem ggX3_day_X2_isFull : GoodIn wsX3_day wsX2_isFull := goodIn_r _ [15, 11, 68, 69] (by decide +kernel) (by decide +kernel)
set_option maxRecDepth 20000 in
theorem gX3_day_X2_isFull : GoodIn wsX3_day (wsV RX3 149 RX2 yX2_isFull wsX2_isFull) := goodIn_app (goodIn_of _ (by decide +kernel)) ggX3_day_X2_isFull
set_option maxRecDepth 20000 in
theorem ggX3_day_X2_next : GoodIn wsX3_day wsX2_next := goodIn_r _ [19, 10, 11, 20, 21, 22, 23, 24, 25, 26, 27, 28, 29, 30, 31, 68, 69, 65, 66, 67] (by decide +kernel) (by decide +kernel)
set_option maxRecDepth 20000 in
theorem gX3_day_X2_next : GoodIn wsX3_day (wsV RX3 153 RX2 yX2_next wsX2_next) := goodIn_app (goodIn_of _ (by decide +kernel)) ggX3_day_X2_next
set_option maxRecDepth 20000 in
theorem ggX3_day_X1_passDays : GoodIn wsX3_day wsX1_passDays := goodIn_r _ [35, 36, 25, 30, 37, 38, 39, 40, 41, 42, 43, 44, 45, 46, 61, 62, 63, 64, 65, 66, 67] (by decide +kernel) (by decide +kernel)
set_option maxRecDepth 20000 in
theorem gX3_day_X1_passDays : GoodIn wsX3_day (wsV RX3 156 RX1 yX1_passDays wsX1_passDays) := goodIn_app (goodIn_of _ (by decide +kernel)) ggX3_day_X1_passDays
theorem dX3_day_0 : decode cX3_day 0 = .ok (.aload_n 0, 1) := by decide +kernel
theorem dX3_day_1 : decode cX3_day 1 = .ok (.getfield 29, 3) := by decide +kernel
theorem dX3_day_4 : decode cX3_day 4 = .ok (.getfield 116, 3) := by decide +kernel
theorem dX3_day_7 : decode cX3_day 7 = .ok (.ifCond .eq 18, 3) := by decide +kernel
theorem dX3_day_10 : decode cX3_day 10 = .ok (.aload_n 0, 1) := by decide +kernel
theorem dX3_day_11 : decode cX3_day 11 = .ok (.getfield 36, 3) := by decide +kernel
theorem dX3_day_14 : decode cX3_day 14 = .ok (.invokevirtual 132, 3) := by decide +kernel
theorem dX3_day_17 : decode cX3_day 17 = .ok (.getfield 146, 3) := by decide +kernel
theorem dX3_day_20 : decode cX3_day 20 = .ok (.bipush 99, 2) := by decide +kernel
theorem dX3_day_22 : decode cX3_day 22 = .ok (.if_icmp .lt 6, 3) := by decide +kernel
theorem dX3_day_25 : decode cX3_day 25 = .ok (.bipush (-4), 2) := by decide +kernel
theorem dX3_day_27 : decode cX3_day 27 = .ok (.ireturn, 1) := by decide +kernel
theorem dX3_day_28 : decode cX3_day 28 = .ok (.aload_n 0, 1) := by decide +kernel
theorem dX3_day_29 : decode cX3_day 29 = .ok (.getfield 36, 3) := by decide +kernel
theorem dX3_day_32 : decode cX3_day 32 = .ok (.invokevirtual 149, 3) := by decide +kernel
theorem dX3_day_35 : decode cX3_day 35 = .ok (.ifCond .eq 6, 3) := by decide +kernel
theorem dX3_day_38 : decode cX3_day 38 = .ok (.bipush (-2), 2) := by decide +kernel
theorem dX3_day_40 : decode cX3_day 40 = .ok (.ireturn, 1) := by decide +kernel
theorem dX3_day_41 : decode cX3_day 41 = .ok (.aload_n 0, 1) := by decide +kernel
theorem dX3_day_42 : decode cX3_day 42 = .ok (.getfield 36, 3) := by decide +kernel
theorem dX3_day_45 : decode cX3_day 45 = .ok (.invokevirtual 153, 3) := by decide +kernel
theorem dX3_day_48 : decode cX3_day 48 = .ok (.astore_n 1, 1) := by decide +kernel
theorem dX3_day_49 : decode cX3_day 49 = .ok (.aload_n 1, 1) := by decide +kernel
theorem dX3_day_50 : decode cX3_day 50 = .ok (.aload_n 0, 1) := by decide +kernel
theorem dX3_day_51 : decode cX3_day 51 = .ok (.getfield 29, 3) := by decide +kernel
theorem dX3_day_54 : decode cX3_day 54 = .ok (.iconst 1, 1) := by decide +kernel
theorem dX3_day_55 : decode cX3_day 55 = .ok (.invokevirtual 156, 3) := by decide +kernel
theorem dX3_day_58 : decode cX3_day 58 = .ok (.aload_n 1, 1) := by decide +kernel
theorem dX3_day_59 : decode cX3_day 59 = .ok (.getfield 146, 3) := by decide +kernel
theorem dX3_day_62 : decode cX3_day 62 = .ok (.ireturn, 1) := by decide +kernel
set_option maxRecDepth 20000 in
theorem ggX3_spring_X2_isFull : GoodIn wsX3_spring wsX2_isFull := goodIn_r _ [10, 11, 78, 79] (by decide +kernel) (by decide +kernel)
set_option maxRecDepth 20000 in
theorem gX3_spring_X2_isFull : GoodIn wsX3_spring (wsV RX3 149 RX2 yX2_isFull wsX2_isFull) := goodIn_app (goodIn_of _ (by decide +kernel)) ggX3_spring_X2_isFull
set_option maxRecDepth 20000 in
theorem ggX3_spring_X2_next : GoodIn wsX3_spring wsX2_next := goodIn_r _ [15, 16, 11, 17, 18, 19, 20, 21, 22, 23, 24, 25, 26, 27, 28, 78, 79, 75, 76, 77] (by decide +kernel) (by decide +kernel)
set_option maxRecDepth 20000 in
theorem gX3_spring_X2_next : GoodIn wsX3_spring (wsV RX3 153 RX2 yX2_next wsX2_next) := goodIn_app (goodIn_of _ (by decide +kernel)) ggX3_spring_X2_next
set_option maxRecDepth 20000 in
theorem ggX3_spring_X1_shareOut : GoodIn wsX3_spring wsX1_shareOut := goodIn_r _ [32, 33, 28, 22, 34, 35, 36, 20, 37, 38, 39, 40, 41, 42, 27, 43, 44, 45, 46, 47, 48, 49, 50, 51, 52, 53, 54, 55, 56, 71, 72, 73, 74, 75, 76, 77] (by decide +kernel) (by decide +kernel)
set_option maxRecDepth 20000 in
theorem gX3_spring_X1_shareOut : GoodIn wsX3_spring (wsV RX3 160 RX1 yX1_shareOut wsX1_shareOut) := goodIn_app (goodIn_of _ (by decide +kernel)) ggX3_spring_X1_shareOut
theorem dX3_spring_0 : decode cX3_spring 0 = .ok (.aload_n 0, 1) := by decide +kernel
theorem dX3_spring_1 : decode cX3_spring 1 = .ok (.getfield 29, 3) := by decide +kernel
theorem dX3_spring_4 : decode cX3_spring 4 = .ok (.getfield 116, 3) := by decide +kernel
theorem dX3_spring_7 : decode cX3_spring 7 = .ok (.ifCond .ne 6, 3) := by decide +kernel
theorem dX3_spring_10 : decode cX3_spring 10 = .ok (.bipush (-4), 2) := by decide +kernel
theorem dX3_spring_12 : decode cX3_spring 12 = .ok (.ireturn, 1) := by decide +kernel
theorem dX3_spring_13 : decode cX3_spring 13 = .ok (.aload_n 0, 1) := by decide +kernel
theorem dX3_spring_14 : decode cX3_spring 14 = .ok (.getfield 36, 3) := by decide +kernel
theorem dX3_spring_17 : decode cX3_spring 17 = .ok (.invokevirtual 149, 3) := by decide +kernel
theorem dX3_spring_20 : decode cX3_spring 20 = .ok (.ifCond .eq 6, 3) := by decide +kernel
theorem dX3_spring_23 : decode cX3_spring 23 = .ok (.bipush (-2), 2) := by decide +kernel
theorem dX3_spring_25 : decode cX3_spring 25 = .ok (.ireturn, 1) := by decide +kernel
theorem dX3_spring_26 : decode cX3_spring 26 = .ok (.aload_n 0, 1) := by decide +kernel
theorem dX3_spring_27 : decode cX3_spring 27 = .ok (.getfield 36, 3) := by decide +kernel
theorem dX3_spring_30 : decode cX3_spring 30 = .ok (.invokevirtual 153, 3) := by decide +kernel
theorem dX3_spring_33 : decode cX3_spring 33 = .ok (.astore_n 1, 1) := by decide +kernel
theorem dX3_spring_34 : decode cX3_spring 34 = .ok (.aload_n 1, 1) := by decide +kernel
theorem dX3_spring_35 : decode cX3_spring 35 = .ok (.aload_n 0, 1) := by decide +kernel
theorem dX3_spring_36 : decode cX3_spring 36 = .ok (.getfield 29, 3) := by decide +kernel
theorem dX3_spring_39 : decode cX3_spring 39 = .ok (.invokevirtual 160, 3) := by decide +kernel
theorem dX3_spring_42 : decode cX3_spring 42 = .ok (.istore_n 2, 1) := by decide +kernel
theorem dX3_spring_43 : decode cX3_spring 43 = .ok (.aload_n 0, 1) := by decide +kernel
theorem dX3_spring_44 : decode cX3_spring 44 = .ok (.aload_n 1, 1) := by decide +kernel
theorem dX3_spring_45 : decode cX3_spring 45 = .ok (.getfield 164, 3) := by decide +kernel
theorem dX3_spring_48 : decode cX3_spring 48 = .ok (.putfield 83, 3) := by decide +kernel
theorem dX3_spring_51 : decode cX3_spring 51 = .ok (.iload_n 2, 1) := by decide +kernel
theorem dX3_spring_52 : decode cX3_spring 52 = .ok (.ireturn, 1) := by decide +kernel
set_option maxRecDepth 20000 in
theorem ggX3_lend_X3_isHouse : GoodIn wsX3_lend wsX3_isHouse := goodIn_r _ [7, 8, 9, 52, 53, 54, 55, 56, 57, 58, 59, 60, 61, 62, 63, 64, 65, 69, 70, 71, 72] (by decide +kernel) (by decide +kernel)
set_option maxRecDepth 20000 in
theorem gX3_lend_X3_isHouse : GoodIn wsX3_lend (wsV RX3 119 RX3 yX3_isHouse wsX3_isHouse) := goodIn_app (goodIn_of _ (by decide +kernel)) ggX3_lend_X3_isHouse
set_option maxRecDepth 20000 in
theorem ggX3_lend_X3_isCup : GoodIn wsX3_lend wsX3_isCup := goodIn_r _ [12] (by decide +kernel) (by decide +kernel)
set_option maxRecDepth 20000 in
theorem gX3_lend_X3_isCup : GoodIn wsX3_lend (va_wsS RX3 167 yX3_isCup wsX3_isCup) := goodIn_app (goodIn_of _ (by decide +kernel)) ggX3_lend_X3_isCup
set_option maxRecDepth 20000 in
theorem ggX3_lend_X2_now : GoodIn wsX3_lend wsX2_now := goodIn_r _ [17, 18, 19, 73, 74] (by decide +kernel) (by decide +kernel)
set_option maxRecDepth 20000 in
theorem gX3_lend_X2_now : GoodIn wsX3_lend (wsV RX3 132 RX2 yX2_now wsX2_now) := goodIn_app (goodIn_of _ (by decide +kernel)) ggX3_lend_X2_now
set_option maxRecDepth 20000 in
theorem ggX3_lend_X2_isFull : GoodIn wsX3_lend wsX2_isFull := goodIn_r _ [23, 19, 73, 74] (by decide +kernel) (by decide +kernel)
set_option maxRecDepth 20000 in
theorem gX3_lend_X2_isFull : GoodIn wsX3_lend (wsV RX3 149 RX2 yX2_isFull wsX2_isFull) := goodIn_app (goodIn_of _ (by decide +kernel)) ggX3_lend_X2_isFull
set_option maxRecDepth 20000 in
theorem ggX3_lend_X2_next : GoodIn wsX3_lend wsX2_next := goodIn_r _ [27, 18, 19, 28, 29, 30, 31, 32, 33, 34, 35, 36, 37, 38, 39, 73, 74, 66, 67, 68] (by decide +kernel) (by decide +kernel)
set_option maxRecDepth 20000 in
theorem gX3_lend_X2_next : GoodIn wsX3_lend (wsV RX3 153 RX2 yX2_next wsX2_next) := goodIn_app (goodIn_of _ (by decide +kernel)) ggX3_lend_X2_next
set_option maxRecDepth 20000 in
theorem ggX3_lend_X1_pass : GoodIn wsX3_lend wsX1_pass := goodIn_r _ [43, 33, 44, 45, 46, 31, 47, 48, 49, 50, 51, 39, 66, 67, 68] (by decide +kernel) (by decide +kernel)
set_option maxRecDepth 20000 in
theorem gX3_lend_X1_pass : GoodIn wsX3_lend (wsV RX3 170 RX1 yX1_pass wsX1_pass) := goodIn_app (goodIn_of _ (by decide +kernel)) ggX3_lend_X1_pass
theorem dX3_lend_0 : decode cX3_lend 0 = .ok (.aload_n 0, 1) := by decide +kernel
theorem dX3_lend_1 : decode cX3_lend 1 = .ok (.iload_n 1, 1) := by decide +kernel
theorem dX3_lend_2 : decode cX3_lend 2 = .ok (.invokevirtual 119, 3) := by decide +kernel
theorem dX3_lend_5 : decode cX3_lend 5 = .ok (.ifCond .eq 23, 3) := by decide +kernel
theorem dX3_lend_8 : decode cX3_lend 8 = .ok (.aload_n 0, 1) := by decide +kernel
theorem dX3_lend_9 : decode cX3_lend 9 = .ok (.iload_n 2, 1) := by decide +kernel
theorem dX3_lend_10 : decode cX3_lend 10 = .ok (.invokevirtual 119, 3) := by decide +kernel
theorem dX3_lend_13 : decode cX3_lend 13 = .ok (.ifCond .eq 15, 3) := by decide +kernel
theorem dX3_lend_16 : decode cX3_lend 16 = .ok (.iload_n 1, 1) := by decide +kernel
theorem dX3_lend_17 : decode cX3_lend 17 = .ok (.iload_n 2, 1) := by decide +kernel
theorem dX3_lend_18 : decode cX3_lend 18 = .ok (.if_icmp .eq 10, 3) := by decide +kernel
theorem dX3_lend_21 : decode cX3_lend 21 = .ok (.iload_n 3, 1) := by decide +kernel
theorem dX3_lend_22 : decode cX3_lend 22 = .ok (.invokestatic 167, 3) := by decide +kernel
theorem dX3_lend_25 : decode cX3_lend 25 = .ok (.ifCond .ne 5, 3) := by decide +kernel
theorem dX3_lend_28 : decode cX3_lend 28 = .ok (.iconst (-1), 1) := by decide +kernel
theorem dX3_lend_29 : decode cX3_lend 29 = .ok (.ireturn, 1) := by decide +kernel
theorem dX3_lend_30 : decode cX3_lend 30 = .ok (.aload_n 0, 1) := by decide +kernel
theorem dX3_lend_31 : decode cX3_lend 31 = .ok (.getfield 36, 3) := by decide +kernel
theorem dX3_lend_34 : decode cX3_lend 34 = .ok (.invokevirtual 132, 3) := by decide +kernel
theorem dX3_lend_37 : decode cX3_lend 37 = .ok (.getfield 136, 3) := by decide +kernel
theorem dX3_lend_40 : decode cX3_lend 40 = .ok (.iload_n 1, 1) := by decide +kernel
theorem dX3_lend_41 : decode cX3_lend 41 = .ok (.iaload, 1) := by decide +kernel
theorem dX3_lend_42 : decode cX3_lend 42 = .ok (.iload_n 3, 1) := by decide +kernel
theorem dX3_lend_43 : decode cX3_lend 43 = .ok (.if_icmp .ge 6, 3) := by decide +kernel
theorem dX3_lend_46 : decode cX3_lend 46 = .ok (.bipush (-4), 2) := by decide +kernel
theorem dX3_lend_48 : decode cX3_lend 48 = .ok (.ireturn, 1) := by decide +kernel
theorem dX3_lend_49 : decode cX3_lend 49 = .ok (.aload_n 0, 1) := by decide +kernel
theorem dX3_lend_50 : decode cX3_lend 50 = .ok (.getfield 36, 3) := by decide +kernel
theorem dX3_lend_53 : decode cX3_lend 53 = .ok (.invokevirtual 149, 3) := by decide +kernel
theorem dX3_lend_56 : decode cX3_lend 56 = .ok (.ifCond .eq 6, 3) := by decide +kernel
theorem dX3_lend_59 : decode cX3_lend 59 = .ok (.bipush (-2), 2) := by decide +kernel
theorem dX3_lend_61 : decode cX3_lend 61 = .ok (.ireturn, 1) := by decide +kernel
theorem dX3_lend_62 : decode cX3_lend 62 = .ok (.aload_n 0, 1) := by decide +kernel
theorem dX3_lend_63 : decode cX3_lend 63 = .ok (.getfield 36, 3) := by decide +kernel
theorem dX3_lend_66 : decode cX3_lend 66 = .ok (.invokevirtual 153, 3) := by decide +kernel
theorem dX3_lend_69 : decode cX3_lend 69 = .ok (.astore 4, 2) := by decide +kernel
theorem dX3_lend_71 : decode cX3_lend 71 = .ok (.aload 4, 2) := by decide +kernel
theorem dX3_lend_73 : decode cX3_lend 73 = .ok (.iload_n 1, 1) := by decide +kernel
theorem dX3_lend_74 : decode cX3_lend 74 = .ok (.iload_n 2, 1) := by decide +kernel
theorem dX3_lend_75 : decode cX3_lend 75 = .ok (.iload_n 3, 1) := by decide +kernel
theorem dX3_lend_76 : decode cX3_lend 76 = .ok (.invokevirtual 170, 3) := by decide +kernel
theorem dX3_lend_79 : decode cX3_lend 79 = .ok (.aload 4, 2) := by decide +kernel
theorem dX3_lend_81 : decode cX3_lend 81 = .ok (.getfield 136, 3) := by decide +kernel
theorem dX3_lend_84 : decode cX3_lend 84 = .ok (.iload_n 2, 1) := by decide +kernel
theorem dX3_lend_85 : decode cX3_lend 85 = .ok (.iaload, 1) := by decide +kernel
theorem dX3_lend_86 : decode cX3_lend 86 = .ok (.ireturn, 1) := by decide +kernel
set_option maxRecDepth 20000 in
theorem ggX3_leave_X3_isHouse : GoodIn wsX3_leave wsX3_isHouse := goodIn_r _ [8, 9, 10, 45, 46, 47, 48, 49, 50, 51, 52, 53, 54, 55, 56, 57, 58, 62, 63, 64, 65] (by decide +kernel) (by decide +kernel)
set_option maxRecDepth 20000 in
theorem gX3_leave_X3_isHouse : GoodIn wsX3_leave (wsV RX3 119 RX3 yX3_isHouse wsX3_isHouse) := goodIn_app (goodIn_of _ (by decide +kernel)) ggX3_leave_X3_isHouse
set_option maxRecDepth 20000 in
theorem ggX3_leave_X3_isCup : GoodIn wsX3_leave wsX3_isCup := goodIn_r _ [13] (by decide +kernel) (by decide +kernel)
set_option maxRecDepth 20000 in
theorem gX3_leave_X3_isCup : GoodIn wsX3_leave (va_wsS RX3 167 yX3_isCup wsX3_isCup) := goodIn_app (goodIn_of _ (by decide +kernel)) ggX3_leave_X3_isCup
set_option maxRecDepth 20000 in
theorem ggX3_leave_X2_now : GoodIn wsX3_leave wsX2_now := goodIn_r _ [18, 19, 20, 66, 67] (by decide +kernel) (by decide +kernel)
set_option maxRecDepth 20000 in
theorem gX3_leave_X2_now : GoodIn wsX3_leave (wsV RX3 132 RX2 yX2_now wsX2_now) := goodIn_app (goodIn_of _ (by decide +kernel)) ggX3_leave_X2_now
set_option maxRecDepth 20000 in
theorem ggX3_leave_X2_isFull : GoodIn wsX3_leave wsX2_isFull := goodIn_r _ [24, 20, 66, 67] (by decide +kernel) (by decide +kernel)
set_option maxRecDepth 20000 in
theorem gX3_leave_X2_isFull : GoodIn wsX3_leave (wsV RX3 149 RX2 yX2_isFull wsX2_isFull) := goodIn_app (goodIn_of _ (by decide +kernel)) ggX3_leave_X2_isFull
set_option maxRecDepth 20000 in
theorem ggX3_leave_X2_next : GoodIn wsX3_leave wsX2_next := goodIn_r _ [28, 19, 20, 29, 30, 31, 32, 33, 34, 35, 36, 37, 38, 39, 40, 66, 67, 59, 60, 61] (by decide +kernel) (by decide +kernel)
set_option maxRecDepth 20000 in
theorem gX3_leave_X2_next : GoodIn wsX3_leave (wsV RX3 153 RX2 yX2_next wsX2_next) := goodIn_app (goodIn_of _ (by decide +kernel)) ggX3_leave_X2_next
set_option maxRecDepth 20000 in
theorem ggX3_leave_X1_toQuay : GoodIn wsX3_leave wsX1_toQuay := goodIn_r _ [44, 34, 40, 59, 60, 61] (by decide +kernel) (by decide +kernel)
set_option maxRecDepth 20000 in
theorem gX3_leave_X1_toQuay : GoodIn wsX3_leave (wsV RX3 174 RX1 yX1_toQuay wsX1_toQuay) := goodIn_app (goodIn_of _ (by decide +kernel)) ggX3_leave_X1_toQuay
theorem dX3_leave_0 : decode cX3_leave 0 = .ok (.aload_n 0, 1) := by decide +kernel
theorem dX3_leave_1 : decode cX3_leave 1 = .ok (.iload_n 1, 1) := by decide +kernel
theorem dX3_leave_2 : decode cX3_leave 2 = .ok (.invokevirtual 119, 3) := by decide +kernel
theorem dX3_leave_5 : decode cX3_leave 5 = .ok (.ifCond .eq 10, 3) := by decide +kernel
theorem dX3_leave_8 : decode cX3_leave 8 = .ok (.iload_n 2, 1) := by decide +kernel
theorem dX3_leave_9 : decode cX3_leave 9 = .ok (.invokestatic 167, 3) := by decide +kernel
theorem dX3_leave_12 : decode cX3_leave 12 = .ok (.ifCond .ne 5, 3) := by decide +kernel
theorem dX3_leave_15 : decode cX3_leave 15 = .ok (.iconst (-1), 1) := by decide +kernel
theorem dX3_leave_16 : decode cX3_leave 16 = .ok (.ireturn, 1) := by decide +kernel
theorem dX3_leave_17 : decode cX3_leave 17 = .ok (.aload_n 0, 1) := by decide +kernel
theorem dX3_leave_18 : decode cX3_leave 18 = .ok (.getfield 36, 3) := by decide +kernel
theorem dX3_leave_21 : decode cX3_leave 21 = .ok (.invokevirtual 132, 3) := by decide +kernel
theorem dX3_leave_24 : decode cX3_leave 24 = .ok (.getfield 136, 3) := by decide +kernel
theorem dX3_leave_27 : decode cX3_leave 27 = .ok (.iload_n 1, 1) := by decide +kernel
theorem dX3_leave_28 : decode cX3_leave 28 = .ok (.iaload, 1) := by decide +kernel
theorem dX3_leave_29 : decode cX3_leave 29 = .ok (.iload_n 2, 1) := by decide +kernel
theorem dX3_leave_30 : decode cX3_leave 30 = .ok (.if_icmp .ge 6, 3) := by decide +kernel
theorem dX3_leave_33 : decode cX3_leave 33 = .ok (.bipush (-4), 2) := by decide +kernel
theorem dX3_leave_35 : decode cX3_leave 35 = .ok (.ireturn, 1) := by decide +kernel
theorem dX3_leave_36 : decode cX3_leave 36 = .ok (.aload_n 0, 1) := by decide +kernel
theorem dX3_leave_37 : decode cX3_leave 37 = .ok (.getfield 36, 3) := by decide +kernel
theorem dX3_leave_40 : decode cX3_leave 40 = .ok (.invokevirtual 149, 3) := by decide +kernel
theorem dX3_leave_43 : decode cX3_leave 43 = .ok (.ifCond .eq 6, 3) := by decide +kernel
theorem dX3_leave_46 : decode cX3_leave 46 = .ok (.bipush (-2), 2) := by decide +kernel
theorem dX3_leave_48 : decode cX3_leave 48 = .ok (.ireturn, 1) := by decide +kernel
theorem dX3_leave_49 : decode cX3_leave 49 = .ok (.aload_n 0, 1) := by decide +kernel
theorem dX3_leave_50 : decode cX3_leave 50 = .ok (.getfield 36, 3) := by decide +kernel
theorem dX3_leave_53 : decode cX3_leave 53 = .ok (.invokevirtual 153, 3) := by decide +kernel
theorem dX3_leave_56 : decode cX3_leave 56 = .ok (.astore_n 3, 1) := by decide +kernel
theorem dX3_leave_57 : decode cX3_leave 57 = .ok (.aload_n 3, 1) := by decide +kernel
theorem dX3_leave_58 : decode cX3_leave 58 = .ok (.iload_n 1, 1) := by decide +kernel
theorem dX3_leave_59 : decode cX3_leave 59 = .ok (.iload_n 2, 1) := by decide +kernel
theorem dX3_leave_60 : decode cX3_leave 60 = .ok (.invokevirtual 174, 3) := by decide +kernel
theorem dX3_leave_63 : decode cX3_leave 63 = .ok (.aload_n 3, 1) := by decide +kernel
theorem dX3_leave_64 : decode cX3_leave 64 = .ok (.getfield 164, 3) := by decide +kernel
theorem dX3_leave_67 : decode cX3_leave 67 = .ok (.ireturn, 1) := by decide +kernel
set_option maxRecDepth 20000 in
theorem ggX3_take_X3_isHouse : GoodIn wsX3_take wsX3_isHouse := goodIn_r _ [8, 9, 10, 45, 46, 47, 48, 49, 50, 51, 52, 53, 54, 55, 56, 57, 58, 62, 63, 64, 65] (by decide +kernel) (by decide +kernel)
set_option maxRecDepth 20000 in
theorem gX3_take_X3_isHouse : GoodIn wsX3_take (wsV RX3 119 RX3 yX3_isHouse wsX3_isHouse) := goodIn_app (goodIn_of _ (by decide +kernel)) ggX3_take_X3_isHouse
set_option maxRecDepth 20000 in
theorem ggX3_take_X3_isCup : GoodIn wsX3_take wsX3_isCup := goodIn_r _ [13] (by decide +kernel) (by decide +kernel)
set_option maxRecDepth 20000 in
theorem gX3_take_X3_isCup : GoodIn wsX3_take (va_wsS RX3 167 yX3_isCup wsX3_isCup) := goodIn_app (goodIn_of _ (by decide +kernel)) ggX3_take_X3_isCup
set_option maxRecDepth 20000 in
theorem ggX3_take_X2_now : GoodIn wsX3_take wsX2_now := goodIn_r _ [18, 19, 20, 66, 67] (by decide +kernel) (by decide +kernel)
set_option maxRecDepth 20000 in
theorem gX3_take_X2_now : GoodIn wsX3_take (wsV RX3 132 RX2 yX2_now wsX2_now) := goodIn_app (goodIn_of _ (by decide +kernel)) ggX3_take_X2_now
set_option maxRecDepth 20000 in
theorem ggX3_take_X2_isFull : GoodIn wsX3_take wsX2_isFull := goodIn_r _ [24, 20, 66, 67] (by decide +kernel) (by decide +kernel)
set_option maxRecDepth 20000 in
theorem gX3_take_X2_isFull : GoodIn wsX3_take (wsV RX3 149 RX2 yX2_isFull wsX2_isFull) := goodIn_app (goodIn_of _ (by decide +kernel)) ggX3_take_X2_isFull
set_option maxRecDepth 20000 in
theorem ggX3_take_X2_next : GoodIn wsX3_take wsX2_next := goodIn_r _ [28, 19, 20, 29, 30, 31, 32, 33, 34, 35, 36, 37, 38, 39, 40, 66, 67, 59, 60, 61] (by decide +kernel) (by decide +kernel)
set_option maxRecDepth 20000 in
theorem gX3_take_X2_next : GoodIn wsX3_take (wsV RX3 153 RX2 yX2_next wsX2_next) := goodIn_app (goodIn_of _ (by decide +kernel)) ggX3_take_X2_next
set_option maxRecDepth 20000 in
theorem ggX3_take_X1_toQuay : GoodIn wsX3_take wsX1_toQuay := goodIn_r _ [44, 34, 40, 59, 60, 61] (by decide +kernel) (by decide +kernel)
set_option maxRecDepth 20000 in
theorem gX3_take_X1_toQuay : GoodIn wsX3_take (wsV RX3 174 RX1 yX1_toQuay wsX1_toQuay) := goodIn_app (goodIn_of _ (by decide +kernel)) ggX3_take_X1_toQuay
theorem dX3_take_0 : decode cX3_take 0 = .ok (.aload_n 0, 1) := by decide +kernel
theorem dX3_take_1 : decode cX3_take 1 = .ok (.iload_n 1, 1) := by decide +kernel
theorem dX3_take_2 : decode cX3_take 2 = .ok (.invokevirtual 119, 3) := by decide +kernel
theorem dX3_take_5 : decode cX3_take 5 = .ok (.ifCond .eq 10, 3) := by decide +kernel
theorem dX3_take_8 : decode cX3_take 8 = .ok (.iload_n 2, 1) := by decide +kernel
theorem dX3_take_9 : decode cX3_take 9 = .ok (.invokestatic 167, 3) := by decide +kernel
theorem dX3_take_12 : decode cX3_take 12 = .ok (.ifCond .ne 5, 3) := by decide +kernel
theorem dX3_take_15 : decode cX3_take 15 = .ok (.iconst (-1), 1) := by decide +kernel
theorem dX3_take_16 : decode cX3_take 16 = .ok (.ireturn, 1) := by decide +kernel
theorem dX3_take_17 : decode cX3_take 17 = .ok (.aload_n 0, 1) := by decide +kernel
theorem dX3_take_18 : decode cX3_take 18 = .ok (.getfield 36, 3) := by decide +kernel
theorem dX3_take_21 : decode cX3_take 21 = .ok (.invokevirtual 132, 3) := by decide +kernel
theorem dX3_take_24 : decode cX3_take 24 = .ok (.astore_n 3, 1) := by decide +kernel
theorem dX3_take_25 : decode cX3_take 25 = .ok (.aload_n 3, 1) := by decide +kernel
theorem dX3_take_26 : decode cX3_take 26 = .ok (.getfield 164, 3) := by decide +kernel
theorem dX3_take_29 : decode cX3_take 29 = .ok (.iload_n 2, 1) := by decide +kernel
theorem dX3_take_30 : decode cX3_take 30 = .ok (.if_icmp .lt 16, 3) := by decide +kernel
theorem dX3_take_33 : decode cX3_take 33 = .ok (.aload_n 3, 1) := by decide +kernel
theorem dX3_take_34 : decode cX3_take 34 = .ok (.getfield 136, 3) := by decide +kernel
theorem dX3_take_37 : decode cX3_take 37 = .ok (.iload_n 1, 1) := by decide +kernel
theorem dX3_take_38 : decode cX3_take 38 = .ok (.iaload, 1) := by decide +kernel
theorem dX3_take_39 : decode cX3_take 39 = .ok (.iload_n 2, 1) := by decide +kernel
theorem dX3_take_40 : decode cX3_take 40 = .ok (.iadd, 1) := by decide +kernel
theorem dX3_take_41 : decode cX3_take 41 = .ok (.bipush 99, 2) := by decide +kernel
theorem dX3_take_43 : decode cX3_take 43 = .ok (.if_icmp .le 6, 3) := by decide +kernel
theorem dX3_take_46 : decode cX3_take 46 = .ok (.bipush (-4), 2) := by decide +kernel
theorem dX3_take_48 : decode cX3_take 48 = .ok (.ireturn, 1) := by decide +kernel
theorem dX3_take_49 : decode cX3_take 49 = .ok (.aload_n 0, 1) := by decide +kernel
theorem dX3_take_50 : decode cX3_take 50 = .ok (.getfield 36, 3) := by decide +kernel
theorem dX3_take_53 : decode cX3_take 53 = .ok (.invokevirtual 149, 3) := by decide +kernel
theorem dX3_take_56 : decode cX3_take 56 = .ok (.ifCond .eq 6, 3) := by decide +kernel
theorem dX3_take_59 : decode cX3_take 59 = .ok (.bipush (-2), 2) := by decide +kernel
theorem dX3_take_61 : decode cX3_take 61 = .ok (.ireturn, 1) := by decide +kernel
theorem dX3_take_62 : decode cX3_take 62 = .ok (.aload_n 0, 1) := by decide +kernel
theorem dX3_take_63 : decode cX3_take 63 = .ok (.getfield 36, 3) := by decide +kernel
theorem dX3_take_66 : decode cX3_take 66 = .ok (.invokevirtual 153, 3) := by decide +kernel
theorem dX3_take_69 : decode cX3_take 69 = .ok (.astore 4, 2) := by decide +kernel
theorem dX3_take_71 : decode cX3_take 71 = .ok (.aload 4, 2) := by decide +kernel
theorem dX3_take_73 : decode cX3_take 73 = .ok (.iload_n 1, 1) := by decide +kernel
theorem dX3_take_74 : decode cX3_take 74 = .ok (.iload_n 2, 1) := by decide +kernel
theorem dX3_take_75 : decode cX3_take 75 = .ok (.ineg, 1) := by decide +kernel
theorem dX3_take_76 : decode cX3_take 76 = .ok (.invokevirtual 174, 3) := by decide +kernel
theorem dX3_take_79 : decode cX3_take 79 = .ok (.aload 4, 2) := by decide +kernel
theorem dX3_take_81 : decode cX3_take 81 = .ok (.getfield 136, 3) := by decide +kernel
theorem dX3_take_84 : decode cX3_take 84 = .ok (.iload_n 1, 1) := by decide +kernel
theorem dX3_take_85 : decode cX3_take 85 = .ok (.iaload, 1) := by decide +kernel
theorem dX3_take_86 : decode cX3_take 86 = .ok (.ireturn, 1) := by decide +kernel
theorem dX3_undo_0 : decode cX3_undo 0 = .ok (.iload_n 1, 1) := by decide +kernel
theorem dX3_undo_1 : decode cX3_undo 1 = .ok (.ifCond .lt 14, 3) := by decide +kernel
theorem dX3_undo_4 : decode cX3_undo 4 = .ok (.iload_n 1, 1) := by decide +kernel
theorem dX3_undo_5 : decode cX3_undo 5 = .ok (.aload_n 0, 1) := by decide +kernel
theorem dX3_undo_6 : decode cX3_undo 6 = .ok (.getfield 36, 3) := by decide +kernel
theorem dX3_undo_9 : decode cX3_undo 9 = .ok (.getfield 67, 3) := by decide +kernel
theorem dX3_undo_12 : decode cX3_undo 12 = .ok (.if_icmp .le 5, 3) := by decide +kernel
theorem dX3_undo_15 : decode cX3_undo 15 = .ok (.iconst (-1), 1) := by decide +kernel
theorem dX3_undo_16 : decode cX3_undo 16 = .ok (.ireturn, 1) := by decide +kernel
theorem dX3_undo_17 : decode cX3_undo 17 = .ok (.aload_n 0, 1) := by decide +kernel
theorem dX3_undo_18 : decode cX3_undo 18 = .ok (.getfield 36, 3) := by decide +kernel
theorem dX3_undo_21 : decode cX3_undo 21 = .ok (.getfield 67, 3) := by decide +kernel
theorem dX3_undo_24 : decode cX3_undo 24 = .ok (.iload_n 1, 1) := by decide +kernel
theorem dX3_undo_25 : decode cX3_undo 25 = .ok (.isub, 1) := by decide +kernel
theorem dX3_undo_26 : decode cX3_undo 26 = .ok (.istore_n 2, 1) := by decide +kernel
theorem dX3_undo_27 : decode cX3_undo 27 = .ok (.aload_n 0, 1) := by decide +kernel
theorem dX3_undo_28 : decode cX3_undo 28 = .ok (.getfield 36, 3) := by decide +kernel
theorem dX3_undo_31 : decode cX3_undo 31 = .ok (.iload_n 1, 1) := by decide +kernel
theorem dX3_undo_32 : decode cX3_undo 32 = .ok (.putfield 67, 3) := by decide +kernel
theorem dX3_undo_35 : decode cX3_undo 35 = .ok (.iload_n 2, 1) := by decide +kernel
theorem dX3_undo_36 : decode cX3_undo 36 = .ok (.ireturn, 1) := by decide +kernel
set_option maxRecDepth 20000 in
theorem ggX3_keep_X3_isKeeping : GoodIn wsX3_keep wsX3_isKeeping := goodIn_r _ [9] (by decide +kernel) (by decide +kernel)
set_option maxRecDepth 20000 in
theorem gX3_keep_X3_isKeeping : GoodIn wsX3_keep (va_wsS RX3 178 yX3_isKeeping wsX3_isKeeping) := goodIn_app (goodIn_of _ (by decide +kernel)) ggX3_keep_X3_isKeeping
set_option maxRecDepth 20000 in
theorem ggX3_keep_X2_become : GoodIn wsX3_keep wsX2_become := goodIn_r _ [14, 15, 16, 17, 18, 19, 20, 21, 22, 23, 24, 25, 26, 27, 28, 47, 48, 49, 50, 51] (by decide +kernel) (by decide +kernel)
set_option maxRecDepth 20000 in
theorem gX3_keep_X2_become : GoodIn wsX3_keep (wsV RX3 181 RX2 yX2_become wsX2_become) := goodIn_app (goodIn_of _ (by decide +kernel)) ggX3_keep_X2_become
theorem dX3_keep_0 : decode cX3_keep 0 = .ok (.iload_n 1, 1) := by decide +kernel
theorem dX3_keep_1 : decode cX3_keep 1 = .ok (.invokestatic 178, 3) := by decide +kernel
theorem dX3_keep_4 : decode cX3_keep 4 = .ok (.ifCond .ne 5, 3) := by decide +kernel
theorem dX3_keep_7 : decode cX3_keep 7 = .ok (.iconst (-1), 1) := by decide +kernel
theorem dX3_keep_8 : decode cX3_keep 8 = .ok (.ireturn, 1) := by decide +kernel
theorem dX3_keep_9 : decode cX3_keep 9 = .ok (.aload_n 0, 1) := by decide +kernel
theorem dX3_keep_10 : decode cX3_keep 10 = .ok (.getfield 29, 3) := by decide +kernel
theorem dX3_keep_13 : decode cX3_keep 13 = .ok (.getfield 116, 3) := by decide +kernel
theorem dX3_keep_16 : decode cX3_keep 16 = .ok (.ifCond .ne 6, 3) := by decide +kernel
theorem dX3_keep_19 : decode cX3_keep 19 = .ok (.bipush (-4), 2) := by decide +kernel
theorem dX3_keep_21 : decode cX3_keep 21 = .ok (.ireturn, 1) := by decide +kernel
theorem dX3_keep_22 : decode cX3_keep 22 = .ok (.aload_n 0, 1) := by decide +kernel
theorem dX3_keep_23 : decode cX3_keep 23 = .ok (.getfield 40, 3) := by decide +kernel
theorem dX3_keep_26 : decode cX3_keep 26 = .ok (.iload_n 1, 1) := by decide +kernel
theorem dX3_keep_27 : decode cX3_keep 27 = .ok (.aaload, 1) := by decide +kernel
theorem dX3_keep_28 : decode cX3_keep 28 = .ok (.aload_n 0, 1) := by decide +kernel
theorem dX3_keep_29 : decode cX3_keep 29 = .ok (.getfield 36, 3) := by decide +kernel
theorem dX3_keep_32 : decode cX3_keep 32 = .ok (.invokevirtual 181, 3) := by decide +kernel
theorem dX3_keep_35 : decode cX3_keep 35 = .ok (.aload_n 0, 1) := by decide +kernel
theorem dX3_keep_36 : decode cX3_keep 36 = .ok (.getfield 36, 3) := by decide +kernel
theorem dX3_keep_39 : decode cX3_keep 39 = .ok (.getfield 67, 3) := by decide +kernel
theorem dX3_keep_42 : decode cX3_keep 42 = .ok (.ireturn, 1) := by decide +kernel
set_option maxRecDepth 20000 in
theorem ggX3_on_X3_isKeeping : GoodIn wsX3_on wsX3_isKeeping := goodIn_r _ [7] (by decide +kernel) (by decide +kernel)
set_option maxRecDepth 20000 in
theorem gX3_on_X3_isKeeping : GoodIn wsX3_on (va_wsS RX3 178 yX3_isKeeping wsX3_isKeeping) := goodIn_app (goodIn_of _ (by decide +kernel)) ggX3_on_X3_isKeeping
set_option maxRecDepth 20000 in
theorem ggX3_on_X3_foundThat : GoodIn wsX3_on wsX3_foundThat := goodIn_r _ [11, 12, 13, 33, 34, 35, 36, 37, 38, 39, 40, 41, 42, 43, 44, 45, 46] (by decide +kernel) (by decide +kernel)
set_option maxRecDepth 20000 in
theorem gX3_on_X3_foundThat : GoodIn wsX3_on (wsV RX3 75 RX3 yX3_foundThat wsX3_foundThat) := goodIn_app (goodIn_of _ (by decide +kernel)) ggX3_on_X3_foundThat
set_option maxRecDepth 20000 in
theorem ggX3_on_X2_become : GoodIn wsX3_on wsX2_become := goodIn_r _ [18, 19, 20, 21, 22, 23, 24, 25, 26, 27, 28, 29, 30, 31, 32, 47, 48, 49, 50, 51] (by decide +kernel) (by decide +kernel)
set_option maxRecDepth 20000 in
theorem gX3_on_X2_become : GoodIn wsX3_on (wsV RX3 181 RX2 yX2_become wsX2_become) := goodIn_app (goodIn_of _ (by decide +kernel)) ggX3_on_X2_become
theorem dX3_on_0 : decode cX3_on 0 = .ok (.iload_n 1, 1) := by decide +kernel
theorem dX3_on_1 : decode cX3_on 1 = .ok (.invokestatic 178, 3) := by decide +kernel
theorem dX3_on_4 : decode cX3_on 4 = .ok (.ifCond .ne 5, 3) := by decide +kernel
theorem dX3_on_7 : decode cX3_on 7 = .ok (.iconst (-1), 1) := by decide +kernel
theorem dX3_on_8 : decode cX3_on 8 = .ok (.ireturn, 1) := by decide +kernel
theorem dX3_on_9 : decode cX3_on 9 = .ok (.aload_n 0, 1) := by decide +kernel
theorem dX3_on_10 : decode cX3_on 10 = .ok (.getfield 40, 3) := by decide +kernel
theorem dX3_on_13 : decode cX3_on 13 = .ok (.iload_n 1, 1) := by decide +kernel
theorem dX3_on_14 : decode cX3_on 14 = .ok (.aaload, 1) := by decide +kernel
theorem dX3_on_15 : decode cX3_on 15 = .ok (.getfield 67, 3) := by decide +kernel
theorem dX3_on_18 : decode cX3_on 18 = .ok (.iconst (-1), 1) := by decide +kernel
theorem dX3_on_19 : decode cX3_on 19 = .ok (.if_icmp .ne 9, 3) := by decide +kernel
theorem dX3_on_22 : decode cX3_on 22 = .ok (.aload_n 0, 1) := by decide +kernel
theorem dX3_on_23 : decode cX3_on 23 = .ok (.iconst 1, 1) := by decide +kernel
theorem dX3_on_24 : decode cX3_on 24 = .ok (.invokevirtual 75, 3) := by decide +kernel
theorem dX3_on_27 : decode cX3_on 27 = .ok (.ireturn, 1) := by decide +kernel
theorem dX3_on_28 : decode cX3_on 28 = .ok (.aload_n 0, 1) := by decide +kernel
theorem dX3_on_29 : decode cX3_on 29 = .ok (.getfield 36, 3) := by decide +kernel
theorem dX3_on_32 : decode cX3_on 32 = .ok (.aload_n 0, 1) := by decide +kernel
theorem dX3_on_33 : decode cX3_on 33 = .ok (.getfield 40, 3) := by decide +kernel
theorem dX3_on_36 : decode cX3_on 36 = .ok (.iload_n 1, 1) := by decide +kernel
theorem dX3_on_37 : decode cX3_on 37 = .ok (.aaload, 1) := by decide +kernel
theorem dX3_on_38 : decode cX3_on 38 = .ok (.invokevirtual 181, 3) := by decide +kernel
theorem dX3_on_41 : decode cX3_on 41 = .ok (.aload_n 0, 1) := by decide +kernel
theorem dX3_on_42 : decode cX3_on 42 = .ok (.getfield 36, 3) := by decide +kernel
theorem dX3_on_45 : decode cX3_on 45 = .ok (.getfield 67, 3) := by decide +kernel
theorem dX3_on_48 : decode cX3_on 48 = .ok (.ireturn, 1) := by decide +kernel
set_option maxRecDepth 20000 in
theorem ggX3_works_X2_now : GoodIn wsX3_works wsX2_now := goodIn_r _ [8, 9, 10, 53, 54] (by decide +kernel) (by decide +kernel)
set_option maxRecDepth 20000 in
theorem gX3_works_X2_now : GoodIn wsX3_works (wsV RX3 132 RX2 yX2_now wsX2_now) := goodIn_app (goodIn_of _ (by decide +kernel)) ggX3_works_X2_now
set_option maxRecDepth 20000 in
theorem ggX3_works_X1_worksOff : GoodIn wsX3_works wsX1_worksOff := goodIn_r _ [15, 16, 17, 18, 19, 20, 21, 22, 23, 24, 25, 26, 27, 28, 29, 30, 31, 55, 56, 57, 58, 59, 60, 61] (by decide +kernel) (by decide +kernel)
set_option maxRecDepth 20000 in
theorem gX3_works_X1_worksOff : GoodIn wsX3_works (wsV RX3 185 RX1 yX1_worksOff wsX1_worksOff) := goodIn_app (goodIn_of _ (by decide +kernel)) ggX3_works_X1_worksOff
set_option maxRecDepth 20000 in
theorem ggX3_works_J6_bitCount_0f7a4 : GoodIn wsX3_works wsJ6_bitCount_0f7a4 := goodIn_r _ [35, 36, 37, 38] (by decide +kernel) (by decide +kernel)
set_option maxRecDepth 20000 in
theorem gX3_works_J6_bitCount_0f7a4 : GoodIn wsX3_works (va_wsS RX3 188 yJ6_bitCount_0f7a4 wsJ6_bitCount_0f7a4) := goodIn_app (goodIn_of _ (by decide +kernel)) ggX3_works_J6_bitCount_0f7a4
theorem dX3_works_0 : decode cX3_works 0 = .ok (.aload_n 0, 1) := by decide +kernel
theorem dX3_works_1 : decode cX3_works 1 = .ok (.getfield 36, 3) := by decide +kernel
theorem dX3_works_4 : decode cX3_works 4 = .ok (.invokevirtual 132, 3) := by decide +kernel
theorem dX3_works_7 : decode cX3_works 7 = .ok (.aload_n 0, 1) := by decide +kernel
theorem dX3_works_8 : decode cX3_works 8 = .ok (.getfield 29, 3) := by decide +kernel
theorem dX3_works_11 : decode cX3_works 11 = .ok (.invokevirtual 185, 3) := by decide +kernel
theorem dX3_works_14 : decode cX3_works 14 = .ok (.istore_n 1, 1) := by decide +kernel
theorem dX3_works_15 : decode cX3_works 15 = .ok (.aload_n 0, 1) := by decide +kernel
theorem dX3_works_16 : decode cX3_works 16 = .ok (.iload_n 1, 1) := by decide +kernel
theorem dX3_works_17 : decode cX3_works 17 = .ok (.invokestatic 188, 3) := by decide +kernel
theorem dX3_works_20 : decode cX3_works 20 = .ok (.putfield 83, 3) := by decide +kernel
theorem dX3_works_23 : decode cX3_works 23 = .ok (.iload_n 1, 1) := by decide +kernel
theorem dX3_works_24 : decode cX3_works 24 = .ok (.ireturn, 1) := by decide +kernel
set_option maxRecDepth 20000 in
theorem ggX3_later_X3_isHouse : GoodIn wsX3_later wsX3_isHouse := goodIn_r _ [10, 3, 11, 69, 70, 71, 72, 73, 74, 75, 76, 77, 78, 79, 80, 81, 82, 86, 87, 88, 89] (by decide +kernel) (by decide +kernel)
set_option maxRecDepth 20000 in
theorem gX3_later_X3_isHouse : GoodIn wsX3_later (wsV RX3 119 RX3 yX3_isHouse wsX3_isHouse) := goodIn_app (goodIn_of _ (by decide +kernel)) ggX3_later_X3_isHouse
set_option maxRecDepth 20000 in
theorem ggX3_later_X2_now : GoodIn wsX3_later wsX2_now := goodIn_r _ [16, 17, 18, 90, 91] (by decide +kernel) (by decide +kernel)
set_option maxRecDepth 20000 in
theorem gX3_later_X2_now : GoodIn wsX3_later (wsV RX3 132 RX2 yX2_now wsX2_now) := goodIn_app (goodIn_of _ (by decide +kernel)) ggX3_later_X2_now
set_option maxRecDepth 20000 in
theorem ggX3_later_X1_become : GoodIn wsX3_later wsX1_become := goodIn_r _ [23, 24, 25, 26, 27, 28, 29, 30, 83, 84, 85] (by decide +kernel) (by decide +kernel)
set_option maxRecDepth 20000 in
theorem gX3_later_X1_become : GoodIn wsX3_later (wsV RX3 193 RX1 yX1_become wsX1_become) := goodIn_app (goodIn_of _ (by decide +kernel)) ggX3_later_X1_become
set_option maxRecDepth 20000 in
theorem ggX3_later_X1_passDays : GoodIn wsX3_later wsX1_passDays := goodIn_r _ [34, 35, 24, 29, 36, 37, 38, 39, 40, 41, 42, 43, 44, 45, 86, 87, 88, 89, 83, 84, 85] (by decide +kernel) (by decide +kernel)
set_option maxRecDepth 20000 in
theorem gX3_later_X1_passDays : GoodIn wsX3_later (wsV RX3 156 RX1 yX1_passDays wsX1_passDays) := goodIn_app (goodIn_of _ (by decide +kernel)) ggX3_later_X1_passDays
set_option maxRecDepth 20000 in
theorem ggX3_later_X1_shareOut : GoodIn wsX3_later wsX1_shareOut := goodIn_r _ [49, 35, 30, 24, 50, 51, 52, 22, 53, 54, 55, 56, 57, 58, 29, 59, 9, 60, 61, 62, 44, 63, 64, 65, 66, 67, 68, 43, 45, 86, 87, 88, 89, 83, 84, 85] (by decide +kernel) (by decide +kernel)
set_option maxRecDepth 20000 in
theorem gX3_later_X1_shareOut : GoodIn wsX3_later (wsV RX3 160 RX1 yX1_shareOut wsX1_shareOut) := goodIn_app (goodIn_of _ (by decide +kernel)) ggX3_later_X1_shareOut
theorem dX3_later_0 : decode cX3_later 0 = .ok (.aload_n 0, 1) := by decide +kernel
theorem dX3_later_1 : decode cX3_later 1 = .ok (.iload_n 1, 1) := by decide +kernel
theorem dX3_later_2 : decode cX3_later 2 = .ok (.invokevirtual 119, 3) := by decide +kernel
theorem dX3_later_5 : decode cX3_later 5 = .ok (.ifCond .eq 13, 3) := by decide +kernel
theorem dX3_later_8 : decode cX3_later 8 = .ok (.iload_n 2, 1) := by decide +kernel
theorem dX3_later_9 : decode cX3_later 9 = .ok (.ifCond .lt 9, 3) := by decide +kernel
theorem dX3_later_12 : decode cX3_later 12 = .ok (.iload_n 2, 1) := by decide +kernel
theorem dX3_later_13 : decode cX3_later 13 = .ok (.bipush 60, 2) := by decide +kernel
theorem dX3_later_15 : decode cX3_later 15 = .ok (.if_icmp .le 5, 3) := by decide +kernel
theorem dX3_later_18 : decode cX3_later 18 = .ok (.iconst (-1), 1) := by decide +kernel
theorem dX3_later_19 : decode cX3_later 19 = .ok (.ireturn, 1) := by decide +kernel
theorem dX3_later_20 : decode cX3_later 20 = .ok (.aload_n 0, 1) := by decide +kernel
theorem dX3_later_21 : decode cX3_later 21 = .ok (.getfield 47, 3) := by decide +kernel
theorem dX3_later_24 : decode cX3_later 24 = .ok (.aload_n 0, 1) := by decide +kernel
theorem dX3_later_25 : decode cX3_later 25 = .ok (.getfield 36, 3) := by decide +kernel
theorem dX3_later_28 : decode cX3_later 28 = .ok (.invokevirtual 132, 3) := by decide +kernel
theorem dX3_later_31 : decode cX3_later 31 = .ok (.invokevirtual 193, 3) := by decide +kernel
theorem dX3_later_34 : decode cX3_later 34 = .ok (.aload_n 0, 1) := by decide +kernel
theorem dX3_later_35 : decode cX3_later 35 = .ok (.getfield 47, 3) := by decide +kernel
theorem dX3_later_38 : decode cX3_later 38 = .ok (.aload_n 0, 1) := by decide +kernel
theorem dX3_later_39 : decode cX3_later 39 = .ok (.getfield 29, 3) := by decide +kernel
theorem dX3_later_42 : decode cX3_later 42 = .ok (.iload_n 2, 1) := by decide +kernel
theorem dX3_later_43 : decode cX3_later 43 = .ok (.invokevirtual 156, 3) := by decide +kernel
theorem dX3_later_46 : decode cX3_later 46 = .ok (.aload_n 0, 1) := by decide +kernel
theorem dX3_later_47 : decode cX3_later 47 = .ok (.getfield 47, 3) := by decide +kernel
theorem dX3_later_50 : decode cX3_later 50 = .ok (.getfield 136, 3) := by decide +kernel
theorem dX3_later_53 : decode cX3_later 53 = .ok (.iload_n 1, 1) := by decide +kernel
theorem dX3_later_54 : decode cX3_later 54 = .ok (.iaload, 1) := by decide +kernel
theorem dX3_later_55 : decode cX3_later 55 = .ok (.istore_n 3, 1) := by decide +kernel
theorem dX3_later_56 : decode cX3_later 56 = .ok (.aload_n 0, 1) := by decide +kernel
theorem dX3_later_57 : decode cX3_later 57 = .ok (.getfield 47, 3) := by decide +kernel
theorem dX3_later_60 : decode cX3_later 60 = .ok (.aload_n 0, 1) := by decide +kernel
theorem dX3_later_61 : decode cX3_later 61 = .ok (.getfield 29, 3) := by decide +kernel
theorem dX3_later_64 : decode cX3_later 64 = .ok (.invokevirtual 160, 3) := by decide +kernel
theorem dX3_later_67 : decode cX3_later 67 = .ok (.pop, 1) := by decide +kernel
theorem dX3_later_68 : decode cX3_later 68 = .ok (.aload_n 0, 1) := by decide +kernel
theorem dX3_later_69 : decode cX3_later 69 = .ok (.aload_n 0, 1) := by decide +kernel
theorem dX3_later_70 : decode cX3_later 70 = .ok (.getfield 47, 3) := by decide +kernel
theorem dX3_later_73 : decode cX3_later 73 = .ok (.getfield 136, 3) := by decide +kernel
theorem dX3_later_76 : decode cX3_later 76 = .ok (.iload_n 1, 1) := by decide +kernel
theorem dX3_later_77 : decode cX3_later 77 = .ok (.iaload, 1) := by decide +kernel
theorem dX3_later_78 : decode cX3_later 78 = .ok (.putfield 83, 3) := by decide +kernel
theorem dX3_later_81 : decode cX3_later 81 = .ok (.iload_n 3, 1) := by decide +kernel
theorem dX3_later_82 : decode cX3_later 82 = .ok (.ireturn, 1) := by decide +kernel
set_option maxRecDepth 20000 in
theorem ggX3_when_X3_isHouse : GoodIn wsX3_when wsX3_isHouse := goodIn_r _ [10, 3, 11, 41, 42, 43, 44, 45, 46, 47, 48, 49, 50, 51, 52, 53, 54, 58, 59, 60, 61] (by decide +kernel) (by decide +kernel)
set_option maxRecDepth 20000 in
theorem gX3_when_X3_isHouse : GoodIn wsX3_when (wsV RX3 119 RX3 yX3_isHouse wsX3_isHouse) := goodIn_app (goodIn_of _ (by decide +kernel)) ggX3_when_X3_isHouse
set_option maxRecDepth 20000 in
theorem ggX3_when_X2_now : GoodIn wsX3_when wsX2_now := goodIn_r _ [16, 17, 18, 62, 63] (by decide +kernel) (by decide +kernel)
set_option maxRecDepth 20000 in
theorem gX3_when_X2_now : GoodIn wsX3_when (wsV RX3 132 RX2 yX2_now wsX2_now) := goodIn_app (goodIn_of _ (by decide +kernel)) ggX3_when_X2_now
set_option maxRecDepth 20000 in
theorem ggX3_when_X0_jarBehind : GoodIn wsX3_when wsX0_jarBehind := goodIn_r _ [23, 24, 25, 26, 27, 28, 58, 59, 60, 61] (by decide +kernel) (by decide +kernel)
set_option maxRecDepth 20000 in
theorem gX3_when_X0_jarBehind : GoodIn wsX3_when (wsV RX3 196 RX0 yX0_jarBehind wsX0_jarBehind) := goodIn_app (goodIn_of _ (by decide +kernel)) ggX3_when_X0_jarBehind
set_option maxRecDepth 20000 in
theorem ggX3_when_X0_comesOff : GoodIn wsX3_when wsX0_comesOff := goodIn_r _ [32, 33, 34, 35, 9, 36, 37, 38, 27, 39, 58, 59, 60, 61] (by decide +kernel) (by decide +kernel)
set_option maxRecDepth 20000 in
theorem gX3_when_X0_comesOff : GoodIn wsX3_when (wsV RX3 199 RX0 yX0_comesOff wsX0_comesOff) := goodIn_app (goodIn_of _ (by decide +kernel)) ggX3_when_X0_comesOff
set_option maxRecDepth 20000 in
theorem ggX3_when_X3_worthTo : GoodIn wsX3_when wsX3_worthTo := goodIn_r _ [36, 37, 38, 27, 39] (by decide +kernel) (by decide +kernel)
set_option maxRecDepth 20000 in
theorem gX3_when_X3_worthTo : GoodIn wsX3_when (va_wsS RX3 143 yX3_worthTo wsX3_worthTo) := goodIn_app (goodIn_of _ (by decide +kernel)) ggX3_when_X3_worthTo
theorem dX3_when_0 : decode cX3_when 0 = .ok (.aload_n 0, 1) := by decide +kernel
theorem dX3_when_1 : decode cX3_when 1 = .ok (.iload_n 1, 1) := by decide +kernel
theorem dX3_when_2 : decode cX3_when 2 = .ok (.invokevirtual 119, 3) := by decide +kernel
theorem dX3_when_5 : decode cX3_when 5 = .ok (.ifCond .ne 5, 3) := by decide +kernel
theorem dX3_when_8 : decode cX3_when 8 = .ok (.iconst (-1), 1) := by decide +kernel
theorem dX3_when_9 : decode cX3_when 9 = .ok (.ireturn, 1) := by decide +kernel
theorem dX3_when_10 : decode cX3_when 10 = .ok (.aload_n 0, 1) := by decide +kernel
theorem dX3_when_11 : decode cX3_when 11 = .ok (.getfield 36, 3) := by decide +kernel
theorem dX3_when_14 : decode cX3_when 14 = .ok (.invokevirtual 132, 3) := by decide +kernel
theorem dX3_when_17 : decode cX3_when 17 = .ok (.getfield 136, 3) := by decide +kernel
theorem dX3_when_20 : decode cX3_when 20 = .ok (.iload_n 1, 1) := by decide +kernel
theorem dX3_when_21 : decode cX3_when 21 = .ok (.iaload, 1) := by decide +kernel
theorem dX3_when_22 : decode cX3_when 22 = .ok (.istore_n 2, 1) := by decide +kernel
theorem dX3_when_23 : decode cX3_when 23 = .ok (.iconst 0, 1) := by decide +kernel
theorem dX3_when_24 : decode cX3_when 24 = .ok (.istore_n 3, 1) := by decide +kernel
theorem dX3_when_25 : decode cX3_when 25 = .ok (.iload_n 3, 1) := by decide +kernel
theorem dX3_when_26 : decode cX3_when 26 = .ok (.bipush 60, 2) := by decide +kernel
theorem dX3_when_28 : decode cX3_when 28 = .ok (.if_icmp .gt 54, 3) := by decide +kernel
theorem dX3_when_31 : decode cX3_when 31 = .ok (.aload_n 0, 1) := by decide +kernel
theorem dX3_when_32 : decode cX3_when 32 = .ok (.getfield 29, 3) := by decide +kernel
theorem dX3_when_35 : decode cX3_when 35 = .ok (.iload_n 1, 1) := by decide +kernel
theorem dX3_when_36 : decode cX3_when 36 = .ok (.iload_n 2, 1) := by decide +kernel
theorem dX3_when_37 : decode cX3_when 37 = .ok (.iload_n 3, 1) := by decide +kernel
theorem dX3_when_38 : decode cX3_when 38 = .ok (.invokevirtual 196, 3) := by decide +kernel
theorem dX3_when_41 : decode cX3_when 41 = .ok (.istore 4, 2) := by decide +kernel
theorem dX3_when_43 : decode cX3_when 43 = .ok (.aload_n 0, 1) := by decide +kernel
theorem dX3_when_44 : decode cX3_when 44 = .ok (.getfield 29, 3) := by decide +kernel
theorem dX3_when_47 : decode cX3_when 47 = .ok (.iload_n 1, 1) := by decide +kernel
theorem dX3_when_48 : decode cX3_when 48 = .ok (.iload 4, 2) := by decide +kernel
theorem dX3_when_50 : decode cX3_when 50 = .ok (.invokevirtual 199, 3) := by decide +kernel
theorem dX3_when_53 : decode cX3_when 53 = .ok (.ifCond .eq 23, 3) := by decide +kernel
theorem dX3_when_56 : decode cX3_when 56 = .ok (.aload_n 0, 1) := by decide +kernel
theorem dX3_when_57 : decode cX3_when 57 = .ok (.aload_n 0, 1) := by decide +kernel
theorem dX3_when_58 : decode cX3_when 58 = .ok (.getfield 29, 3) := by decide +kernel
theorem dX3_when_61 : decode cX3_when 61 = .ok (.getfield 125, 3) := by decide +kernel
theorem dX3_when_64 : decode cX3_when 64 = .ok (.iload_n 1, 1) := by decide +kernel
theorem dX3_when_65 : decode cX3_when 65 = .ok (.iaload, 1) := by decide +kernel
theorem dX3_when_66 : decode cX3_when 66 = .ok (.iload 4, 2) := by decide +kernel
theorem dX3_when_68 : decode cX3_when 68 = .ok (.invokestatic 143, 3) := by decide +kernel
theorem dX3_when_71 : decode cX3_when 71 = .ok (.putfield 83, 3) := by decide +kernel
theorem dX3_when_74 : decode cX3_when 74 = .ok (.iload_n 3, 1) := by decide +kernel
theorem dX3_when_75 : decode cX3_when 75 = .ok (.ireturn, 1) := by decide +kernel
theorem dX3_when_76 : decode cX3_when 76 = .ok (.iinc 3 1, 3) := by decide +kernel
theorem dX3_when_79 : decode cX3_when 79 = .ok (.goto (-54), 3) := by decide +kernel
theorem dX3_when_82 : decode cX3_when 82 = .ok (.bipush (-9), 2) := by decide +kernel
theorem dX3_when_84 : decode cX3_when 84 = .ok (.ireturn, 1) := by decide +kernel
set_option maxRecDepth 20000 in
theorem ggX3_lacks_X3_isHouse : GoodIn wsX3_lacks wsX3_isHouse := goodIn_r _ [10, 3, 11, 37, 38, 39, 40, 41, 42, 43, 44, 45, 46, 47, 48, 49, 50, 54, 55, 56, 57] (by decide +kernel) (by decide +kernel)
set_option maxRecDepth 20000 in
theorem gX3_lacks_X3_isHouse : GoodIn wsX3_lacks (wsV RX3 119 RX3 yX3_isHouse wsX3_isHouse) := goodIn_app (goodIn_of _ (by decide +kernel)) ggX3_lacks_X3_isHouse
set_option maxRecDepth 20000 in
theorem ggX3_lacks_X2_now : GoodIn wsX3_lacks wsX2_now := goodIn_r _ [16, 17, 18, 58, 59] (by decide +kernel) (by decide +kernel)
set_option maxRecDepth 20000 in
theorem gX3_lacks_X2_now : GoodIn wsX3_lacks (wsV RX3 132 RX2 yX2_now wsX2_now) := goodIn_app (goodIn_of _ (by decide +kernel)) ggX3_lacks_X2_now
set_option maxRecDepth 20000 in
theorem ggX3_lacks_X0_leastMore : GoodIn wsX3_lacks wsX0_leastMore := goodIn_r _ [23, 24, 25, 26, 22, 27, 28, 29, 30, 9, 31, 32, 33, 34, 35, 54, 55, 56, 57] (by decide +kernel) (by decide +kernel)
set_option maxRecDepth 20000 in
theorem gX3_lacks_X0_leastMore : GoodIn wsX3_lacks (wsV RX3 202 RX0 yX0_leastMore wsX0_leastMore) := goodIn_app (goodIn_of _ (by decide +kernel)) ggX3_lacks_X0_leastMore
set_option maxRecDepth 20000 in
theorem ggX3_lacks_X3_worthTo : GoodIn wsX3_lacks wsX3_worthTo := goodIn_r _ [31, 32, 33, 34, 35] (by decide +kernel) (by decide +kernel)
set_option maxRecDepth 20000 in
theorem gX3_lacks_X3_worthTo : GoodIn wsX3_lacks (va_wsS RX3 143 yX3_worthTo wsX3_worthTo) := goodIn_app (goodIn_of _ (by decide +kernel)) ggX3_lacks_X3_worthTo
theorem dX3_lacks_0 : decode cX3_lacks 0 = .ok (.aload_n 0, 1) := by decide +kernel
theorem dX3_lacks_1 : decode cX3_lacks 1 = .ok (.iload_n 1, 1) := by decide +kernel
theorem dX3_lacks_2 : decode cX3_lacks 2 = .ok (.invokevirtual 119, 3) := by decide +kernel
theorem dX3_lacks_5 : decode cX3_lacks 5 = .ok (.ifCond .ne 5, 3) := by decide +kernel
theorem dX3_lacks_8 : decode cX3_lacks 8 = .ok (.iconst (-1), 1) := by decide +kernel
theorem dX3_lacks_9 : decode cX3_lacks 9 = .ok (.ireturn, 1) := by decide +kernel
theorem dX3_lacks_10 : decode cX3_lacks 10 = .ok (.aload_n 0, 1) := by decide +kernel
theorem dX3_lacks_11 : decode cX3_lacks 11 = .ok (.getfield 36, 3) := by decide +kernel
theorem dX3_lacks_14 : decode cX3_lacks 14 = .ok (.invokevirtual 132, 3) := by decide +kernel
theorem dX3_lacks_17 : decode cX3_lacks 17 = .ok (.getfield 136, 3) := by decide +kernel
theorem dX3_lacks_20 : decode cX3_lacks 20 = .ok (.iload_n 1, 1) := by decide +kernel
theorem dX3_lacks_21 : decode cX3_lacks 21 = .ok (.iaload, 1) := by decide +kernel
theorem dX3_lacks_22 : decode cX3_lacks 22 = .ok (.istore_n 2, 1) := by decide +kernel
theorem dX3_lacks_23 : decode cX3_lacks 23 = .ok (.aload_n 0, 1) := by decide +kernel
theorem dX3_lacks_24 : decode cX3_lacks 24 = .ok (.getfield 29, 3) := by decide +kernel
theorem dX3_lacks_27 : decode cX3_lacks 27 = .ok (.iload_n 1, 1) := by decide +kernel
theorem dX3_lacks_28 : decode cX3_lacks 28 = .ok (.iload_n 2, 1) := by decide +kernel
theorem dX3_lacks_29 : decode cX3_lacks 29 = .ok (.invokevirtual 202, 3) := by decide +kernel
theorem dX3_lacks_32 : decode cX3_lacks 32 = .ok (.istore_n 3, 1) := by decide +kernel
theorem dX3_lacks_33 : decode cX3_lacks 33 = .ok (.iload_n 3, 1) := by decide +kernel
theorem dX3_lacks_34 : decode cX3_lacks 34 = .ok (.bipush (-9), 2) := by decide +kernel
theorem dX3_lacks_36 : decode cX3_lacks 36 = .ok (.if_icmp .eq 22, 3) := by decide +kernel
theorem dX3_lacks_39 : decode cX3_lacks 39 = .ok (.aload_n 0, 1) := by decide +kernel
theorem dX3_lacks_40 : decode cX3_lacks 40 = .ok (.aload_n 0, 1) := by decide +kernel
theorem dX3_lacks_41 : decode cX3_lacks 41 = .ok (.getfield 29, 3) := by decide +kernel
theorem dX3_lacks_44 : decode cX3_lacks 44 = .ok (.getfield 125, 3) := by decide +kernel
theorem dX3_lacks_47 : decode cX3_lacks 47 = .ok (.iload_n 1, 1) := by decide +kernel
theorem dX3_lacks_48 : decode cX3_lacks 48 = .ok (.iaload, 1) := by decide +kernel
theorem dX3_lacks_49 : decode cX3_lacks 49 = .ok (.iload_n 2, 1) := by decide +kernel
theorem dX3_lacks_50 : decode cX3_lacks 50 = .ok (.iload_n 3, 1) := by decide +kernel
theorem dX3_lacks_51 : decode cX3_lacks 51 = .ok (.iadd, 1) := by decide +kernel
theorem dX3_lacks_52 : decode cX3_lacks 52 = .ok (.invokestatic 143, 3) := by decide +kernel
theorem dX3_lacks_55 : decode cX3_lacks 55 = .ok (.putfield 83, 3) := by decide +kernel
theorem dX3_lacks_58 : decode cX3_lacks 58 = .ok (.iload_n 3, 1) := by decide +kernel
theorem dX3_lacks_59 : decode cX3_lacks 59 = .ok (.ireturn, 1) := by decide +kernel
set_option maxRecDepth 20000 in
theorem ggX3_share_X2_now : GoodIn wsX3_share wsX2_now := goodIn_r _ [12, 13, 14, 68, 69] (by decide +kernel) (by decide +kernel)
set_option maxRecDepth 20000 in
theorem gX3_share_X2_now : GoodIn wsX3_share (wsV RX3 132 RX2 yX2_now wsX2_now) := goodIn_app (goodIn_of _ (by decide +kernel)) ggX3_share_X2_now
set_option maxRecDepth 20000 in
theorem ggX3_share_X0_leastMore : GoodIn wsX3_share wsX0_leastMore := goodIn_r _ [19, 20, 21, 22, 18, 23, 24, 25, 26, 27, 28, 29, 30, 31, 32, 61, 62, 63, 64] (by decide +kernel) (by decide +kernel)
set_option maxRecDepth 20000 in
theorem gX3_share_X0_leastMore : GoodIn wsX3_share (wsV RX3 202 RX0 yX0_leastMore wsX0_leastMore) := goodIn_app (goodIn_of _ (by decide +kernel)) ggX3_share_X0_leastMore
set_option maxRecDepth 20000 in
theorem ggX3_share_X3_needOf : GoodIn wsX3_share wsX3_needOf := goodIn_r _ [36, 1, 2, 4, 37, 38, 27, 39, 47, 48, 49, 50, 51, 52, 53, 54, 55, 56, 57, 58, 59, 60, 61, 62, 63, 64] (by decide +kernel) (by decide +kernel)
set_option maxRecDepth 20000 in
theorem gX3_share_X3_needOf : GoodIn wsX3_share (wsV RX3 205 RX3 yX3_needOf wsX3_needOf) := goodIn_app (goodIn_of _ (by decide +kernel)) ggX3_share_X3_needOf
set_option maxRecDepth 20000 in
theorem ggX3_share_J6_bitCount_0f7a4 : GoodIn wsX3_share wsJ6_bitCount_0f7a4 := goodIn_r _ [43, 44, 45, 46] (by decide +kernel) (by decide +kernel)
set_option maxRecDepth 20000 in
theorem gX3_share_J6_bitCount_0f7a4 : GoodIn wsX3_share (va_wsS RX3 188 yJ6_bitCount_0f7a4 wsJ6_bitCount_0f7a4) := goodIn_app (goodIn_of _ (by decide +kernel)) ggX3_share_J6_bitCount_0f7a4
theorem dX3_share_0 : decode cX3_share 0 = .ok (.aload_n 0, 1) := by decide +kernel
theorem dX3_share_1 : decode cX3_share 1 = .ok (.getfield 29, 3) := by decide +kernel
theorem dX3_share_4 : decode cX3_share 4 = .ok (.getfield 116, 3) := by decide +kernel
theorem dX3_share_7 : decode cX3_share 7 = .ok (.ifCond .ne 6, 3) := by decide +kernel
theorem dX3_share_10 : decode cX3_share 10 = .ok (.bipush (-4), 2) := by decide +kernel
theorem dX3_share_12 : decode cX3_share 12 = .ok (.ireturn, 1) := by decide +kernel
theorem dX3_share_13 : decode cX3_share 13 = .ok (.aload_n 0, 1) := by decide +kernel
theorem dX3_share_14 : decode cX3_share 14 = .ok (.getfield 36, 3) := by decide +kernel
theorem dX3_share_17 : decode cX3_share 17 = .ok (.invokevirtual 132, 3) := by decide +kernel
theorem dX3_share_20 : decode cX3_share 20 = .ok (.astore_n 1, 1) := by decide +kernel
theorem dX3_share_21 : decode cX3_share 21 = .ok (.iconst 0, 1) := by decide +kernel
theorem dX3_share_22 : decode cX3_share 22 = .ok (.istore_n 2, 1) := by decide +kernel
theorem dX3_share_23 : decode cX3_share 23 = .ok (.iload_n 2, 1) := by decide +kernel
theorem dX3_share_24 : decode cX3_share 24 = .ok (.aload_n 0, 1) := by decide +kernel
theorem dX3_share_25 : decode cX3_share 25 = .ok (.getfield 29, 3) := by decide +kernel
theorem dX3_share_28 : decode cX3_share 28 = .ok (.getfield 116, 3) := by decide +kernel
theorem dX3_share_31 : decode cX3_share 31 = .ok (.if_icmp .ge 29, 3) := by decide +kernel
theorem dX3_share_34 : decode cX3_share 34 = .ok (.aload_n 0, 1) := by decide +kernel
theorem dX3_share_35 : decode cX3_share 35 = .ok (.getfield 51, 3) := by decide +kernel
theorem dX3_share_38 : decode cX3_share 38 = .ok (.iload_n 2, 1) := by decide +kernel
theorem dX3_share_39 : decode cX3_share 39 = .ok (.aload_n 0, 1) := by decide +kernel
theorem dX3_share_40 : decode cX3_share 40 = .ok (.getfield 29, 3) := by decide +kernel
theorem dX3_share_43 : decode cX3_share 43 = .ok (.iload_n 2, 1) := by decide +kernel
theorem dX3_share_44 : decode cX3_share 44 = .ok (.aload_n 1, 1) := by decide +kernel
theorem dX3_share_45 : decode cX3_share 45 = .ok (.getfield 136, 3) := by decide +kernel
theorem dX3_share_48 : decode cX3_share 48 = .ok (.iload_n 2, 1) := by decide +kernel
theorem dX3_share_49 : decode cX3_share 49 = .ok (.iaload, 1) := by decide +kernel
theorem dX3_share_50 : decode cX3_share 50 = .ok (.invokevirtual 202, 3) := by decide +kernel
theorem dX3_share_53 : decode cX3_share 53 = .ok (.iastore, 1) := by decide +kernel
theorem dX3_share_54 : decode cX3_share 54 = .ok (.iinc 2 1, 3) := by decide +kernel
theorem dX3_share_57 : decode cX3_share 57 = .ok (.goto (-34), 3) := by decide +kernel
theorem dX3_share_60 : decode cX3_share 60 = .ok (.iconst 0, 1) := by decide +kernel
theorem dX3_share_61 : decode cX3_share 61 = .ok (.istore_n 2, 1) := by decide +kernel
theorem dX3_share_62 : decode cX3_share 62 = .ok (.iconst 0, 1) := by decide +kernel
theorem dX3_share_63 : decode cX3_share 63 = .ok (.istore_n 3, 1) := by decide +kernel
theorem dX3_share_64 : decode cX3_share 64 = .ok (.iconst 1, 1) := by decide +kernel
theorem dX3_share_65 : decode cX3_share 65 = .ok (.istore 4, 2) := by decide +kernel
theorem dX3_share_67 : decode cX3_share 67 = .ok (.iload 4, 2) := by decide +kernel
theorem dX3_share_69 : decode cX3_share 69 = .ok (.iconst 1, 1) := by decide +kernel
theorem dX3_share_70 : decode cX3_share 70 = .ok (.aload_n 0, 1) := by decide +kernel
theorem dX3_share_71 : decode cX3_share 71 = .ok (.getfield 29, 3) := by decide +kernel
theorem dX3_share_74 : decode cX3_share 74 = .ok (.getfield 116, 3) := by decide +kernel
theorem dX3_share_77 : decode cX3_share 77 = .ok (.ishl, 1) := by decide +kernel
theorem dX3_share_78 : decode cX3_share 78 = .ok (.if_icmp .ge 51, 3) := by decide +kernel
theorem dX3_share_81 : decode cX3_share 81 = .ok (.aload_n 0, 1) := by decide +kernel
theorem dX3_share_82 : decode cX3_share 82 = .ok (.iload 4, 2) := by decide +kernel
theorem dX3_share_84 : decode cX3_share 84 = .ok (.invokevirtual 205, 3) := by decide +kernel
theorem dX3_share_87 : decode cX3_share 87 = .ok (.istore 5, 2) := by decide +kernel
theorem dX3_share_89 : decode cX3_share 89 = .ok (.iload 5, 2) := by decide +kernel
theorem dX3_share_91 : decode cX3_share 91 = .ok (.bipush (-9), 2) := by decide +kernel
theorem dX3_share_93 : decode cX3_share 93 = .ok (.if_icmp .eq 30, 3) := by decide +kernel
theorem dX3_share_96 : decode cX3_share 96 = .ok (.iload 5, 2) := by decide +kernel
theorem dX3_share_98 : decode cX3_share 98 = .ok (.aload_n 1, 1) := by decide +kernel
theorem dX3_share_99 : decode cX3_share 99 = .ok (.getfield 164, 3) := by decide +kernel
theorem dX3_share_102 : decode cX3_share 102 = .ok (.if_icmp .gt 21, 3) := by decide +kernel
theorem dX3_share_105 : decode cX3_share 105 = .ok (.iload 4, 2) := by decide +kernel
theorem dX3_share_107 : decode cX3_share 107 = .ok (.invokestatic 188, 3) := by decide +kernel
theorem dX3_share_110 : decode cX3_share 110 = .ok (.iload_n 2, 1) := by decide +kernel
theorem dX3_share_111 : decode cX3_share 111 = .ok (.invokestatic 188, 3) := by decide +kernel
theorem dX3_share_114 : decode cX3_share 114 = .ok (.if_icmp .le 9, 3) := by decide +kernel
theorem dX3_share_117 : decode cX3_share 117 = .ok (.iload 4, 2) := by decide +kernel
theorem dX3_share_119 : decode cX3_share 119 = .ok (.istore_n 2, 1) := by decide +kernel
theorem dX3_share_120 : decode cX3_share 120 = .ok (.iload 5, 2) := by decide +kernel
theorem dX3_share_122 : decode cX3_share 122 = .ok (.istore_n 3, 1) := by decide +kernel
theorem dX3_share_123 : decode cX3_share 123 = .ok (.iinc 4 1, 3) := by decide +kernel
theorem dX3_share_126 : decode cX3_share 126 = .ok (.goto (-59), 3) := by decide +kernel
theorem dX3_share_129 : decode cX3_share 129 = .ok (.aload_n 0, 1) := by decide +kernel
theorem dX3_share_130 : decode cX3_share 130 = .ok (.iload_n 3, 1) := by decide +kernel
theorem dX3_share_131 : decode cX3_share 131 = .ok (.putfield 83, 3) := by decide +kernel
theorem dX3_share_134 : decode cX3_share 134 = .ok (.iload_n 2, 1) := by decide +kernel
theorem dX3_share_135 : decode cX3_share 135 = .ok (.ireturn, 1) := by decide +kernel
set_option maxRecDepth 20000 in
theorem ggX3_best_X2_now : GoodIn wsX3_best wsX2_now := goodIn_r _ [10, 11, 12, 101, 102] (by decide +kernel) (by decide +kernel)
set_option maxRecDepth 20000 in
theorem gX3_best_X2_now : GoodIn wsX3_best (wsV RX3 132 RX2 yX2_now wsX2_now) := goodIn_app (goodIn_of _ (by decide +kernel)) ggX3_best_X2_now
set_option maxRecDepth 20000 in
theorem ggX3_best_X1_become : GoodIn wsX3_best wsX1_become := goodIn_r _ [17, 18, 19, 20, 21, 22, 23, 24, 103, 104, 105] (by decide +kernel) (by decide +kernel)
set_option maxRecDepth 20000 in
theorem gX3_best_X1_become : GoodIn wsX3_best (wsV RX3 193 RX1 yX1_become wsX1_become) := goodIn_app (goodIn_of _ (by decide +kernel)) ggX3_best_X1_become
set_option maxRecDepth 20000 in
theorem ggX3_best_X1_passDays : GoodIn wsX3_best wsX1_passDays := goodIn_r _ [28, 29, 18, 23, 30, 31, 32, 33, 34, 35, 36, 37, 38, 39, 97, 98, 99, 100, 103, 104, 105] (by decide +kernel) (by decide +kernel)
set_option maxRecDepth 20000 in
theorem gX3_best_X1_passDays : GoodIn wsX3_best (wsV RX3 156 RX1 yX1_passDays wsX1_passDays) := goodIn_app (goodIn_of _ (by decide +kernel)) ggX3_best_X1_passDays
set_option maxRecDepth 20000 in
theorem ggX3_best_X1_shareOut : GoodIn wsX3_best wsX1_shareOut := goodIn_r _ [43, 29, 24, 18, 44, 45, 46, 16, 47, 48, 49, 50, 51, 52, 23, 53, 54, 55, 56, 57, 38, 58, 59, 60, 61, 62, 63, 37, 39, 97, 98, 99, 100, 103, 104, 105] (by decide +kernel) (by decide +kernel)
set_option maxRecDepth 20000 in
theorem gX3_best_X1_shareOut : GoodIn wsX3_best (wsV RX3 160 RX1 yX1_shareOut wsX1_shareOut) := goodIn_app (goodIn_of _ (by decide +kernel)) ggX3_best_X1_shareOut
set_option maxRecDepth 20000 in
theorem ggX3_best_X1_worksOff : GoodIn wsX3_best wsX1_worksOff := goodIn_r _ [67, 29, 18, 68, 69, 70, 33, 71, 72, 73, 74, 54, 75, 56, 57, 38, 58, 97, 98, 99, 100, 103, 104, 105] (by decide +kernel) (by decide +kernel)
set_option maxRecDepth 20000 in
theorem gX3_best_X1_worksOff : GoodIn wsX3_best (wsV RX3 185 RX1 yX1_worksOff wsX1_worksOff) := goodIn_app (goodIn_of _ (by decide +kernel)) ggX3_best_X1_worksOff
set_option maxRecDepth 20000 in
theorem ggX3_best_J6_bitCount_0f7a4 : GoodIn wsX3_best wsJ6_bitCount_0f7a4 := goodIn_r _ [79, 80, 81, 82] (by decide +kernel) (by decide +kernel)
set_option maxRecDepth 20000 in
theorem gX3_best_J6_bitCount_0f7a4 : GoodIn wsX3_best (va_wsS RX3 188 yJ6_bitCount_0f7a4 wsJ6_bitCount_0f7a4) := goodIn_app (goodIn_of _ (by decide +kernel)) ggX3_best_J6_bitCount_0f7a4
theorem dX3_best_0 : decode cX3_best 0 = .ok (.aload_n 0, 1) := by decide +kernel
theorem dX3_best_1 : decode cX3_best 1 = .ok (.getfield 29, 3) := by decide +kernel
theorem dX3_best_4 : decode cX3_best 4 = .ok (.getfield 116, 3) := by decide +kernel
theorem dX3_best_7 : decode cX3_best 7 = .ok (.ifCond .ne 6, 3) := by decide +kernel
theorem dX3_best_10 : decode cX3_best 10 = .ok (.bipush (-4), 2) := by decide +kernel
theorem dX3_best_12 : decode cX3_best 12 = .ok (.ireturn, 1) := by decide +kernel
theorem dX3_best_13 : decode cX3_best 13 = .ok (.iconst 0, 1) := by decide +kernel
theorem dX3_best_14 : decode cX3_best 14 = .ok (.istore_n 1, 1) := by decide +kernel
theorem dX3_best_15 : decode cX3_best 15 = .ok (.iconst (-1), 1) := by decide +kernel
theorem dX3_best_16 : decode cX3_best 16 = .ok (.istore_n 2, 1) := by decide +kernel
theorem dX3_best_17 : decode cX3_best 17 = .ok (.iconst 0, 1) := by decide +kernel
theorem dX3_best_18 : decode cX3_best 18 = .ok (.istore_n 3, 1) := by decide +kernel
theorem dX3_best_19 : decode cX3_best 19 = .ok (.iload_n 3, 1) := by decide +kernel
theorem dX3_best_20 : decode cX3_best 20 = .ok (.bipush 20, 2) := by decide +kernel
theorem dX3_best_22 : decode cX3_best 22 = .ok (.if_icmp .gt 74, 3) := by decide +kernel
theorem dX3_best_25 : decode cX3_best 25 = .ok (.aload_n 0, 1) := by decide +kernel
theorem dX3_best_26 : decode cX3_best 26 = .ok (.getfield 47, 3) := by decide +kernel
theorem dX3_best_29 : decode cX3_best 29 = .ok (.aload_n 0, 1) := by decide +kernel
theorem dX3_best_30 : decode cX3_best 30 = .ok (.getfield 36, 3) := by decide +kernel
theorem dX3_best_33 : decode cX3_best 33 = .ok (.invokevirtual 132, 3) := by decide +kernel
theorem dX3_best_36 : decode cX3_best 36 = .ok (.invokevirtual 193, 3) := by decide +kernel
theorem dX3_best_39 : decode cX3_best 39 = .ok (.aload_n 0, 1) := by decide +kernel
theorem dX3_best_40 : decode cX3_best 40 = .ok (.getfield 47, 3) := by decide +kernel
theorem dX3_best_43 : decode cX3_best 43 = .ok (.aload_n 0, 1) := by decide +kernel
theorem dX3_best_44 : decode cX3_best 44 = .ok (.getfield 29, 3) := by decide +kernel
theorem dX3_best_47 : decode cX3_best 47 = .ok (.iload_n 3, 1) := by decide +kernel
theorem dX3_best_48 : decode cX3_best 48 = .ok (.invokevirtual 156, 3) := by decide +kernel
theorem dX3_best_51 : decode cX3_best 51 = .ok (.aload_n 0, 1) := by decide +kernel
theorem dX3_best_52 : decode cX3_best 52 = .ok (.getfield 47, 3) := by decide +kernel
theorem dX3_best_55 : decode cX3_best 55 = .ok (.aload_n 0, 1) := by decide +kernel
theorem dX3_best_56 : decode cX3_best 56 = .ok (.getfield 29, 3) := by decide +kernel
theorem dX3_best_59 : decode cX3_best 59 = .ok (.invokevirtual 160, 3) := by decide +kernel
theorem dX3_best_62 : decode cX3_best 62 = .ok (.pop, 1) := by decide +kernel
theorem dX3_best_63 : decode cX3_best 63 = .ok (.aload_n 0, 1) := by decide +kernel
theorem dX3_best_64 : decode cX3_best 64 = .ok (.getfield 47, 3) := by decide +kernel
theorem dX3_best_67 : decode cX3_best 67 = .ok (.aload_n 0, 1) := by decide +kernel
theorem dX3_best_68 : decode cX3_best 68 = .ok (.getfield 29, 3) := by decide +kernel
theorem dX3_best_71 : decode cX3_best 71 = .ok (.invokevirtual 185, 3) := by decide +kernel
theorem dX3_best_74 : decode cX3_best 74 = .ok (.invokestatic 188, 3) := by decide +kernel
theorem dX3_best_77 : decode cX3_best 77 = .ok (.istore 4, 2) := by decide +kernel
theorem dX3_best_79 : decode cX3_best 79 = .ok (.iload 4, 2) := by decide +kernel
theorem dX3_best_81 : decode cX3_best 81 = .ok (.iload_n 2, 1) := by decide +kernel
theorem dX3_best_82 : decode cX3_best 82 = .ok (.if_icmp .le 8, 3) := by decide +kernel
theorem dX3_best_85 : decode cX3_best 85 = .ok (.iload 4, 2) := by decide +kernel
theorem dX3_best_87 : decode cX3_best 87 = .ok (.istore_n 2, 1) := by decide +kernel
theorem dX3_best_88 : decode cX3_best 88 = .ok (.iload_n 3, 1) := by decide +kernel
theorem dX3_best_89 : decode cX3_best 89 = .ok (.istore_n 1, 1) := by decide +kernel
theorem dX3_best_90 : decode cX3_best 90 = .ok (.iinc 3 1, 3) := by decide +kernel
theorem dX3_best_93 : decode cX3_best 93 = .ok (.goto (-74), 3) := by decide +kernel
theorem dX3_best_96 : decode cX3_best 96 = .ok (.aload_n 0, 1) := by decide +kernel
theorem dX3_best_97 : decode cX3_best 97 = .ok (.iload_n 2, 1) := by decide +kernel
theorem dX3_best_98 : decode cX3_best 98 = .ok (.putfield 83, 3) := by decide +kernel
theorem dX3_best_101 : decode cX3_best 101 = .ok (.iload_n 1, 1) := by decide +kernel
theorem dX3_best_102 : decode cX3_best 102 = .ok (.ireturn, 1) := by decide +kernel
set_option maxRecDepth 20000 in
theorem ggX3_lending_X3_isCup : GoodIn wsX3_lending wsX3_isCup := goodIn_r _ [8] (by decide +kernel) (by decide +kernel)
set_option maxRecDepth 20000 in
theorem gX3_lending_X3_isCup : GoodIn wsX3_lending (va_wsS RX3 167 yX3_isCup wsX3_isCup) := goodIn_app (goodIn_of _ (by decide +kernel)) ggX3_lending_X3_isCup
set_option maxRecDepth 20000 in
theorem ggX3_lending_X2_now : GoodIn wsX3_lending wsX2_now := goodIn_r _ [13, 14, 15, 88, 89] (by decide +kernel) (by decide +kernel)
set_option maxRecDepth 20000 in
theorem gX3_lending_X2_now : GoodIn wsX3_lending (wsV RX3 132 RX2 yX2_now wsX2_now) := goodIn_app (goodIn_of _ (by decide +kernel)) ggX3_lending_X2_now
set_option maxRecDepth 20000 in
theorem ggX3_lending_X1_worksOff : GoodIn wsX3_lending wsX1_worksOff := goodIn_r _ [20, 21, 22, 23, 24, 25, 26, 27, 28, 29, 30, 7, 31, 32, 33, 34, 35, 84, 85, 86, 87, 90, 91, 92] (by decide +kernel) (by decide +kernel)
set_option maxRecDepth 20000 in
theorem gX3_lending_X1_worksOff : GoodIn wsX3_lending (wsV RX3 185 RX1 yX1_worksOff wsX1_worksOff) := goodIn_app (goodIn_of _ (by decide +kernel)) ggX3_lending_X1_worksOff
set_option maxRecDepth 20000 in
theorem ggX3_lending_J6_bitCount_0f7a4 : GoodIn wsX3_lending wsJ6_bitCount_0f7a4 := goodIn_r _ [39, 40, 41, 42] (by decide +kernel) (by decide +kernel)
set_option maxRecDepth 20000 in
theorem gX3_lending_J6_bitCount_0f7a4 : GoodIn wsX3_lending (va_wsS RX3 188 yJ6_bitCount_0f7a4 wsJ6_bitCount_0f7a4) := goodIn_app (goodIn_of _ (by decide +kernel)) ggX3_lending_J6_bitCount_0f7a4
set_option maxRecDepth 20000 in
theorem ggX3_lending_X3_worksByLending : GoodIn wsX3_lending wsX3_worksByLending := goodIn_r _ [46, 3, 47, 48, 1, 9, 10, 11, 12, 13, 14, 15, 49, 50, 51, 19, 52, 22, 53, 54, 55, 56, 57, 58, 59, 60, 61, 62, 63, 64, 65, 66, 67, 68, 34, 69, 16, 17, 18, 20, 21, 23, 24, 25, 26, 27, 28, 29, 30, 7, 31, 32, 33, 35, 36, 37, 38, 39, 40, 41, 42, 70, 71, 72, 73, 74, 75, 76, 77, 78, 79, 80, 81, 82, 83, 90, 91, 92, 88, 89, 84, 85, 86, 87] (by decide +kernel) (by decide +kernel)
set_option maxRecDepth 20000 in
theorem gX3_lending_X3_worksByLending : GoodIn wsX3_lending (wsV RX3 208 RX3 yX3_worksByLending wsX3_worksByLending) := goodIn_app (goodIn_of _ (by decide +kernel)) ggX3_lending_X3_worksByLending
theorem dX3_lending_0 : decode cX3_lending 0 = .ok (.iload_n 1, 1) := by decide +kernel
theorem dX3_lending_1 : decode cX3_lending 1 = .ok (.invokestatic 167, 3) := by decide +kernel
theorem dX3_lending_4 : decode cX3_lending 4 = .ok (.ifCond .ne 5, 3) := by decide +kernel
theorem dX3_lending_7 : decode cX3_lending 7 = .ok (.iconst (-1), 1) := by decide +kernel
theorem dX3_lending_8 : decode cX3_lending 8 = .ok (.ireturn, 1) := by decide +kernel
theorem dX3_lending_9 : decode cX3_lending 9 = .ok (.aload_n 0, 1) := by decide +kernel
theorem dX3_lending_10 : decode cX3_lending 10 = .ok (.getfield 29, 3) := by decide +kernel
theorem dX3_lending_13 : decode cX3_lending 13 = .ok (.getfield 116, 3) := by decide +kernel
theorem dX3_lending_16 : decode cX3_lending 16 = .ok (.ifCond .ne 6, 3) := by decide +kernel
theorem dX3_lending_19 : decode cX3_lending 19 = .ok (.bipush (-4), 2) := by decide +kernel
theorem dX3_lending_21 : decode cX3_lending 21 = .ok (.ireturn, 1) := by decide +kernel
theorem dX3_lending_22 : decode cX3_lending 22 = .ok (.aload_n 0, 1) := by decide +kernel
theorem dX3_lending_23 : decode cX3_lending 23 = .ok (.getfield 36, 3) := by decide +kernel
theorem dX3_lending_26 : decode cX3_lending 26 = .ok (.invokevirtual 132, 3) := by decide +kernel
theorem dX3_lending_29 : decode cX3_lending 29 = .ok (.aload_n 0, 1) := by decide +kernel
theorem dX3_lending_30 : decode cX3_lending 30 = .ok (.getfield 29, 3) := by decide +kernel
theorem dX3_lending_33 : decode cX3_lending 33 = .ok (.invokevirtual 185, 3) := by decide +kernel
theorem dX3_lending_36 : decode cX3_lending 36 = .ok (.invokestatic 188, 3) := by decide +kernel
theorem dX3_lending_39 : decode cX3_lending 39 = .ok (.istore_n 2, 1) := by decide +kernel
theorem dX3_lending_40 : decode cX3_lending 40 = .ok (.bipush (-9), 2) := by decide +kernel
theorem dX3_lending_42 : decode cX3_lending 42 = .ok (.istore_n 3, 1) := by decide +kernel
theorem dX3_lending_43 : decode cX3_lending 43 = .ok (.iconst 0, 1) := by decide +kernel
theorem dX3_lending_44 : decode cX3_lending 44 = .ok (.istore 4, 2) := by decide +kernel
theorem dX3_lending_46 : decode cX3_lending 46 = .ok (.iload 4, 2) := by decide +kernel
theorem dX3_lending_48 : decode cX3_lending 48 = .ok (.aload_n 0, 1) := by decide +kernel
theorem dX3_lending_49 : decode cX3_lending 49 = .ok (.getfield 29, 3) := by decide +kernel
theorem dX3_lending_52 : decode cX3_lending 52 = .ok (.getfield 116, 3) := by decide +kernel
theorem dX3_lending_55 : decode cX3_lending 55 = .ok (.if_icmp .ge 59, 3) := by decide +kernel
theorem dX3_lending_58 : decode cX3_lending 58 = .ok (.iconst 0, 1) := by decide +kernel
theorem dX3_lending_59 : decode cX3_lending 59 = .ok (.istore 5, 2) := by decide +kernel
theorem dX3_lending_61 : decode cX3_lending 61 = .ok (.iload 5, 2) := by decide +kernel
theorem dX3_lending_63 : decode cX3_lending 63 = .ok (.aload_n 0, 1) := by decide +kernel
theorem dX3_lending_64 : decode cX3_lending 64 = .ok (.getfield 29, 3) := by decide +kernel
theorem dX3_lending_67 : decode cX3_lending 67 = .ok (.getfield 116, 3) := by decide +kernel
theorem dX3_lending_70 : decode cX3_lending 70 = .ok (.if_icmp .ge 38, 3) := by decide +kernel
theorem dX3_lending_73 : decode cX3_lending 73 = .ok (.aload_n 0, 1) := by decide +kernel
theorem dX3_lending_74 : decode cX3_lending 74 = .ok (.iload 4, 2) := by decide +kernel
theorem dX3_lending_76 : decode cX3_lending 76 = .ok (.iload 5, 2) := by decide +kernel
theorem dX3_lending_78 : decode cX3_lending 78 = .ok (.iload_n 1, 1) := by decide +kernel
theorem dX3_lending_79 : decode cX3_lending 79 = .ok (.invokevirtual 208, 3) := by decide +kernel
theorem dX3_lending_82 : decode cX3_lending 82 = .ok (.istore 6, 2) := by decide +kernel
theorem dX3_lending_84 : decode cX3_lending 84 = .ok (.iload 6, 2) := by decide +kernel
theorem dX3_lending_86 : decode cX3_lending 86 = .ok (.iload_n 2, 1) := by decide +kernel
theorem dX3_lending_87 : decode cX3_lending 87 = .ok (.if_icmp .le 15, 3) := by decide +kernel
theorem dX3_lending_90 : decode cX3_lending 90 = .ok (.iload 6, 2) := by decide +kernel
theorem dX3_lending_92 : decode cX3_lending 92 = .ok (.istore_n 2, 1) := by decide +kernel
theorem dX3_lending_93 : decode cX3_lending 93 = .ok (.bipush 10, 2) := by decide +kernel
theorem dX3_lending_95 : decode cX3_lending 95 = .ok (.iload 4, 2) := by decide +kernel
theorem dX3_lending_97 : decode cX3_lending 97 = .ok (.imul, 1) := by decide +kernel
theorem dX3_lending_98 : decode cX3_lending 98 = .ok (.iload 5, 2) := by decide +kernel
theorem dX3_lending_100 : decode cX3_lending 100 = .ok (.iadd, 1) := by decide +kernel
theorem dX3_lending_101 : decode cX3_lending 101 = .ok (.istore_n 3, 1) := by decide +kernel
theorem dX3_lending_102 : decode cX3_lending 102 = .ok (.iinc 5 1, 3) := by decide +kernel
theorem dX3_lending_105 : decode cX3_lending 105 = .ok (.goto (-44), 3) := by decide +kernel
theorem dX3_lending_108 : decode cX3_lending 108 = .ok (.iinc 4 1, 3) := by decide +kernel
theorem dX3_lending_111 : decode cX3_lending 111 = .ok (.goto (-65), 3) := by decide +kernel
theorem dX3_lending_114 : decode cX3_lending 114 = .ok (.iload_n 3, 1) := by decide +kernel
theorem dX3_lending_115 : decode cX3_lending 115 = .ok (.bipush (-9), 2) := by decide +kernel
theorem dX3_lending_117 : decode cX3_lending 117 = .ok (.if_icmp .eq 8, 3) := by decide +kernel
theorem dX3_lending_120 : decode cX3_lending 120 = .ok (.aload_n 0, 1) := by decide +kernel
theorem dX3_lending_121 : decode cX3_lending 121 = .ok (.iload_n 2, 1) := by decide +kernel
theorem dX3_lending_122 : decode cX3_lending 122 = .ok (.putfield 83, 3) := by decide +kernel
theorem dX3_lending_125 : decode cX3_lending 125 = .ok (.iload_n 3, 1) := by decide +kernel
theorem dX3_lending_126 : decode cX3_lending 126 = .ok (.ireturn, 1) := by decide +kernel
set_option maxRecDepth 20000 in
theorem ggX3_greedy_X3_broughtWithGreedy : GoodIn wsX3_greedy wsX3_broughtWithGreedy := goodIn_r _ [7, 8, 1, 2, 9, 10, 11, 12, 13, 14, 15, 16, 17, 18, 19, 20, 6, 21, 22, 23, 24, 25, 26, 27, 28, 34, 35, 36, 37, 38, 39, 40, 41, 42, 43, 44, 45, 46, 47, 48, 49, 50, 51, 52, 53, 54, 55, 56] (by decide +kernel) (by decide +kernel)
set_option maxRecDepth 20000 in
theorem gX3_greedy_X3_broughtWithGreedy : GoodIn wsX3_greedy (wsV RX3 211 RX3 yX3_broughtWithGreedy wsX3_broughtWithGreedy) := goodIn_app (goodIn_of _ (by decide +kernel)) ggX3_greedy_X3_broughtWithGreedy
set_option maxRecDepth 20000 in
theorem ggX3_greedy_X3_tellLeast : GoodIn wsX3_greedy wsX3_tellLeast := goodIn_r _ [32, 33, 34, 35, 36, 37, 38, 39, 40, 41, 42, 43, 44, 45, 46, 47] (by decide +kernel) (by decide +kernel)
set_option maxRecDepth 20000 in
theorem gX3_greedy_X3_tellLeast : GoodIn wsX3_greedy (wsV RX3 214 RX3 yX3_tellLeast wsX3_tellLeast) := goodIn_app (goodIn_of _ (by decide +kernel)) ggX3_greedy_X3_tellLeast
theorem dX3_greedy_0 : decode cX3_greedy 0 = .ok (.iload_n 1, 1) := by decide +kernel
theorem dX3_greedy_1 : decode cX3_greedy 1 = .ok (.ifCond .lt 10, 3) := by decide +kernel
theorem dX3_greedy_4 : decode cX3_greedy 4 = .ok (.iload_n 1, 1) := by decide +kernel
theorem dX3_greedy_5 : decode cX3_greedy 5 = .ok (.sipush 999, 3) := by decide +kernel
theorem dX3_greedy_8 : decode cX3_greedy 8 = .ok (.if_icmp .le 5, 3) := by decide +kernel
theorem dX3_greedy_11 : decode cX3_greedy 11 = .ok (.iconst (-1), 1) := by decide +kernel
theorem dX3_greedy_12 : decode cX3_greedy 12 = .ok (.ireturn, 1) := by decide +kernel
theorem dX3_greedy_13 : decode cX3_greedy 13 = .ok (.aload_n 0, 1) := by decide +kernel
theorem dX3_greedy_14 : decode cX3_greedy 14 = .ok (.getfield 29, 3) := by decide +kernel
theorem dX3_greedy_17 : decode cX3_greedy 17 = .ok (.getfield 116, 3) := by decide +kernel
theorem dX3_greedy_20 : decode cX3_greedy 20 = .ok (.ifCond .ne 6, 3) := by decide +kernel
theorem dX3_greedy_23 : decode cX3_greedy 23 = .ok (.bipush (-4), 2) := by decide +kernel
theorem dX3_greedy_25 : decode cX3_greedy 25 = .ok (.ireturn, 1) := by decide +kernel
theorem dX3_greedy_26 : decode cX3_greedy 26 = .ok (.iconst 0, 1) := by decide +kernel
theorem dX3_greedy_27 : decode cX3_greedy 27 = .ok (.istore_n 2, 1) := by decide +kernel
theorem dX3_greedy_28 : decode cX3_greedy 28 = .ok (.bipush (-9), 2) := by decide +kernel
theorem dX3_greedy_30 : decode cX3_greedy 30 = .ok (.istore_n 3, 1) := by decide +kernel
theorem dX3_greedy_31 : decode cX3_greedy 31 = .ok (.iconst 0, 1) := by decide +kernel
theorem dX3_greedy_32 : decode cX3_greedy 32 = .ok (.istore 4, 2) := by decide +kernel
theorem dX3_greedy_34 : decode cX3_greedy 34 = .ok (.iload 4, 2) := by decide +kernel
theorem dX3_greedy_36 : decode cX3_greedy 36 = .ok (.iconst 1, 1) := by decide +kernel
theorem dX3_greedy_37 : decode cX3_greedy 37 = .ok (.aload_n 0, 1) := by decide +kernel
theorem dX3_greedy_38 : decode cX3_greedy 38 = .ok (.getfield 29, 3) := by decide +kernel
theorem dX3_greedy_41 : decode cX3_greedy 41 = .ok (.getfield 116, 3) := by decide +kernel
theorem dX3_greedy_44 : decode cX3_greedy 44 = .ok (.ishl, 1) := by decide +kernel
theorem dX3_greedy_45 : decode cX3_greedy 45 = .ok (.if_icmp .ge 35, 3) := by decide +kernel
theorem dX3_greedy_48 : decode cX3_greedy 48 = .ok (.aload_n 0, 1) := by decide +kernel
theorem dX3_greedy_49 : decode cX3_greedy 49 = .ok (.iload 4, 2) := by decide +kernel
theorem dX3_greedy_51 : decode cX3_greedy 51 = .ok (.invokevirtual 211, 3) := by decide +kernel
theorem dX3_greedy_54 : decode cX3_greedy 54 = .ok (.iload_n 1, 1) := by decide +kernel
theorem dX3_greedy_55 : decode cX3_greedy 55 = .ok (.if_icmp .ne 19, 3) := by decide +kernel
theorem dX3_greedy_58 : decode cX3_greedy 58 = .ok (.iinc 2 1, 3) := by decide +kernel
theorem dX3_greedy_61 : decode cX3_greedy 61 = .ok (.iload_n 3, 1) := by decide +kernel
theorem dX3_greedy_62 : decode cX3_greedy 62 = .ok (.bipush (-9), 2) := by decide +kernel
theorem dX3_greedy_64 : decode cX3_greedy 64 = .ok (.if_icmp .ne 8, 3) := by decide +kernel
theorem dX3_greedy_67 : decode cX3_greedy 67 = .ok (.iload 4, 2) := by decide +kernel
theorem dX3_greedy_69 : decode cX3_greedy 69 = .ok (.goto 4, 3) := by decide +kernel
theorem dX3_greedy_72 : decode cX3_greedy 72 = .ok (.iload_n 3, 1) := by decide +kernel
theorem dX3_greedy_73 : decode cX3_greedy 73 = .ok (.istore_n 3, 1) := by decide +kernel
theorem dX3_greedy_74 : decode cX3_greedy 74 = .ok (.iinc 4 1, 3) := by decide +kernel
theorem dX3_greedy_77 : decode cX3_greedy 77 = .ok (.goto (-43), 3) := by decide +kernel
theorem dX3_greedy_80 : decode cX3_greedy 80 = .ok (.aload_n 0, 1) := by decide +kernel
theorem dX3_greedy_81 : decode cX3_greedy 81 = .ok (.iload_n 2, 1) := by decide +kernel
theorem dX3_greedy_82 : decode cX3_greedy 82 = .ok (.iload_n 3, 1) := by decide +kernel
theorem dX3_greedy_83 : decode cX3_greedy 83 = .ok (.invokevirtual 214, 3) := by decide +kernel
theorem dX3_greedy_86 : decode cX3_greedy 86 = .ok (.ireturn, 1) := by decide +kernel
set_option maxRecDepth 20000 in
theorem ggX3_kinds_X3_pairsRefusal : GoodIn wsX3_kinds wsX3_pairsRefusal := goodIn_r _ [7, 2, 1, 8, 9, 10, 6, 11, 12, 13, 14, 15, 16, 17, 18, 19, 20, 21, 22, 23, 24, 25, 26, 37, 38, 39, 40, 41, 42, 43, 44, 45, 46, 47, 48, 49, 50, 51, 52, 53, 54] (by decide +kernel) (by decide +kernel)
set_option maxRecDepth 20000 in
theorem gX3_kinds_X3_pairsRefusal : GoodIn wsX3_kinds (wsV RX3 217 RX3 yX3_pairsRefusal wsX3_pairsRefusal) := goodIn_app (goodIn_of _ (by decide +kernel)) ggX3_kinds_X3_pairsRefusal
set_option maxRecDepth 20000 in
theorem ggX3_kinds_X3_kindsByPairs : GoodIn wsX3_kinds wsX3_kindsByPairs := goodIn_r _ [29, 30, 31, 6, 32, 33, 34, 35, 36] (by decide +kernel) (by decide +kernel)
set_option maxRecDepth 20000 in
theorem gX3_kinds_X3_kindsByPairs : GoodIn wsX3_kinds (va_wsS RX3 220 yX3_kindsByPairs wsX3_kindsByPairs) := goodIn_app (goodIn_of _ (by decide +kernel)) ggX3_kinds_X3_kindsByPairs
theorem dX3_kinds_0 : decode cX3_kinds 0 = .ok (.aload_n 0, 1) := by decide +kernel
theorem dX3_kinds_1 : decode cX3_kinds 1 = .ok (.iload_n 1, 1) := by decide +kernel
theorem dX3_kinds_2 : decode cX3_kinds 2 = .ok (.iload_n 2, 1) := by decide +kernel
theorem dX3_kinds_3 : decode cX3_kinds 3 = .ok (.invokevirtual 217, 3) := by decide +kernel
theorem dX3_kinds_6 : decode cX3_kinds 6 = .ok (.istore_n 3, 1) := by decide +kernel
theorem dX3_kinds_7 : decode cX3_kinds 7 = .ok (.iload_n 3, 1) := by decide +kernel
theorem dX3_kinds_8 : decode cX3_kinds 8 = .ok (.ifCond .eq 7, 3) := by decide +kernel
theorem dX3_kinds_11 : decode cX3_kinds 11 = .ok (.iload_n 3, 1) := by decide +kernel
theorem dX3_kinds_12 : decode cX3_kinds 12 = .ok (.goto 18, 3) := by decide +kernel
theorem dX3_kinds_15 : decode cX3_kinds 15 = .ok (.aload_n 0, 1) := by decide +kernel
theorem dX3_kinds_16 : decode cX3_kinds 16 = .ok (.getfield 11, 3) := by decide +kernel
theorem dX3_kinds_19 : decode cX3_kinds 19 = .ok (.iload_n 2, 1) := by decide +kernel
theorem dX3_kinds_20 : decode cX3_kinds 20 = .ok (.aaload, 1) := by decide +kernel
theorem dX3_kinds_21 : decode cX3_kinds 21 = .ok (.aload_n 0, 1) := by decide +kernel
theorem dX3_kinds_22 : decode cX3_kinds 22 = .ok (.getfield 14, 3) := by decide +kernel
theorem dX3_kinds_25 : decode cX3_kinds 25 = .ok (.iload_n 2, 1) := by decide +kernel
theorem dX3_kinds_26 : decode cX3_kinds 26 = .ok (.iaload, 1) := by decide +kernel
theorem dX3_kinds_27 : decode cX3_kinds 27 = .ok (.invokestatic 220, 3) := by decide +kernel
theorem dX3_kinds_30 : decode cX3_kinds 30 = .ok (.ireturn, 1) := by decide +kernel
set_option maxRecDepth 20000 in
theorem ggX3_test_X3_pairsRefusal : GoodIn wsX3_test wsX3_pairsRefusal := goodIn_r _ [8, 2, 1, 9, 10, 11, 7, 12, 13, 14, 15, 16, 17, 18, 19, 20, 21, 22, 23, 24, 25, 26, 27, 47, 48, 49, 50, 51, 52, 53, 54, 55, 56, 57, 58, 59, 60, 61, 62, 63, 64] (by decide +kernel) (by decide +kernel)
set_option maxRecDepth 20000 in
theorem gX3_test_X3_pairsRefusal : GoodIn wsX3_test (wsV RX3 217 RX3 yX3_pairsRefusal wsX3_pairsRefusal) := goodIn_app (goodIn_of _ (by decide +kernel)) ggX3_test_X3_pairsRefusal
set_option maxRecDepth 20000 in
theorem ggX3_test_X3_kindsByPairs : GoodIn wsX3_test wsX3_kindsByPairs := goodIn_r _ [30, 31, 32, 7, 33, 34, 35, 36, 37] (by decide +kernel) (by decide +kernel)
set_option maxRecDepth 20000 in
theorem gX3_test_X3_kindsByPairs : GoodIn wsX3_test (va_wsS RX3 220 yX3_kindsByPairs wsX3_kindsByPairs) := goodIn_app (goodIn_of _ (by decide +kernel)) ggX3_test_X3_kindsByPairs
set_option maxRecDepth 20000 in
theorem ggX3_test_X3_greatestPart : GoodIn wsX3_test wsX3_greatestPart := goodIn_r _ [40, 34, 35, 36, 37, 41, 42, 7, 43, 31, 32, 33, 44, 45, 46] (by decide +kernel) (by decide +kernel)
set_option maxRecDepth 20000 in
theorem gX3_test_X3_greatestPart : GoodIn wsX3_test (va_wsS RX3 224 yX3_greatestPart wsX3_greatestPart) := goodIn_app (goodIn_of _ (by decide +kernel)) ggX3_test_X3_greatestPart
theorem dX3_test_0 : decode cX3_test 0 = .ok (.aload_n 0, 1) := by decide +kernel
theorem dX3_test_1 : decode cX3_test 1 = .ok (.iload_n 1, 1) := by decide +kernel
theorem dX3_test_2 : decode cX3_test 2 = .ok (.iload_n 2, 1) := by decide +kernel
theorem dX3_test_3 : decode cX3_test 3 = .ok (.invokevirtual 217, 3) := by decide +kernel
theorem dX3_test_6 : decode cX3_test 6 = .ok (.istore_n 3, 1) := by decide +kernel
theorem dX3_test_7 : decode cX3_test 7 = .ok (.iload_n 3, 1) := by decide +kernel
theorem dX3_test_8 : decode cX3_test 8 = .ok (.ifCond .eq 5, 3) := by decide +kernel
theorem dX3_test_11 : decode cX3_test 11 = .ok (.iload_n 3, 1) := by decide +kernel
theorem dX3_test_12 : decode cX3_test 12 = .ok (.ireturn, 1) := by decide +kernel
theorem dX3_test_13 : decode cX3_test 13 = .ok (.aload_n 0, 1) := by decide +kernel
theorem dX3_test_14 : decode cX3_test 14 = .ok (.getfield 11, 3) := by decide +kernel
theorem dX3_test_17 : decode cX3_test 17 = .ok (.iload_n 2, 1) := by decide +kernel
theorem dX3_test_18 : decode cX3_test 18 = .ok (.aaload, 1) := by decide +kernel
theorem dX3_test_19 : decode cX3_test 19 = .ok (.aload_n 0, 1) := by decide +kernel
theorem dX3_test_20 : decode cX3_test 20 = .ok (.getfield 14, 3) := by decide +kernel
theorem dX3_test_23 : decode cX3_test 23 = .ok (.iload_n 2, 1) := by decide +kernel
theorem dX3_test_24 : decode cX3_test 24 = .ok (.iaload, 1) := by decide +kernel
theorem dX3_test_25 : decode cX3_test 25 = .ok (.invokestatic 220, 3) := by decide +kernel
theorem dX3_test_28 : decode cX3_test 28 = .ok (.istore 4, 2) := by decide +kernel
theorem dX3_test_30 : decode cX3_test 30 = .ok (.iload 4, 2) := by decide +kernel
theorem dX3_test_32 : decode cX3_test 32 = .ok (.ifCond .ne 6, 3) := by decide +kernel
theorem dX3_test_35 : decode cX3_test 35 = .ok (.bipush (-9), 2) := by decide +kernel
theorem dX3_test_37 : decode cX3_test 37 = .ok (.ireturn, 1) := by decide +kernel
theorem dX3_test_38 : decode cX3_test 38 = .ok (.bipush 7, 2) := by decide +kernel
theorem dX3_test_40 : decode cX3_test 40 = .ok (.istore 5, 2) := by decide +kernel
theorem dX3_test_42 : decode cX3_test 42 = .ok (.iconst 0, 1) := by decide +kernel
theorem dX3_test_43 : decode cX3_test 43 = .ok (.istore 6, 2) := by decide +kernel
theorem dX3_test_45 : decode cX3_test 45 = .ok (.iconst 0, 1) := by decide +kernel
theorem dX3_test_46 : decode cX3_test 46 = .ok (.istore 7, 2) := by decide +kernel
theorem dX3_test_48 : decode cX3_test 48 = .ok (.iload 7, 2) := by decide +kernel
theorem dX3_test_50 : decode cX3_test 50 = .ok (.bipush 99, 2) := by decide +kernel
theorem dX3_test_52 : decode cX3_test 52 = .ok (.if_icmp .gt 33, 3) := by decide +kernel
theorem dX3_test_55 : decode cX3_test 55 = .ok (.iload 4, 2) := by decide +kernel
theorem dX3_test_57 : decode cX3_test 57 = .ok (.iload 7, 2) := by decide +kernel
theorem dX3_test_59 : decode cX3_test 59 = .ok (.invokestatic 224, 3) := by decide +kernel
theorem dX3_test_62 : decode cX3_test 62 = .ok (.istore 8, 2) := by decide +kernel
theorem dX3_test_64 : decode cX3_test 64 = .ok (.iload 8, 2) := by decide +kernel
theorem dX3_test_66 : decode cX3_test 66 = .ok (.iload 5, 2) := by decide +kernel
theorem dX3_test_68 : decode cX3_test 68 = .ok (.if_icmp .ge 11, 3) := by decide +kernel
theorem dX3_test_71 : decode cX3_test 71 = .ok (.iload 8, 2) := by decide +kernel
theorem dX3_test_73 : decode cX3_test 73 = .ok (.istore 5, 2) := by decide +kernel
theorem dX3_test_75 : decode cX3_test 75 = .ok (.iload 7, 2) := by decide +kernel
theorem dX3_test_77 : decode cX3_test 77 = .ok (.istore 6, 2) := by decide +kernel
theorem dX3_test_79 : decode cX3_test 79 = .ok (.iinc 7 1, 3) := by decide +kernel
theorem dX3_test_82 : decode cX3_test 82 = .ok (.goto (-34), 3) := by decide +kernel
theorem dX3_test_85 : decode cX3_test 85 = .ok (.aload_n 0, 1) := by decide +kernel
theorem dX3_test_86 : decode cX3_test 86 = .ok (.iload 5, 2) := by decide +kernel
theorem dX3_test_88 : decode cX3_test 88 = .ok (.putfield 83, 3) := by decide +kernel
theorem dX3_test_91 : decode cX3_test 91 = .ok (.iload 6, 2) := by decide +kernel
theorem dX3_test_93 : decode cX3_test 93 = .ok (.ireturn, 1) := by decide +kernel
set_option maxRecDepth 20000 in
theorem ggX3_jars_X3_isHouse : GoodIn wsX3_jars wsX3_isHouse := goodIn_r _ [7, 1, 8, 21, 22, 23, 24, 25, 26, 27, 28, 29, 30, 31, 32, 33, 34, 35, 36, 37, 38] (by decide +kernel) (by decide +kernel)
set_option maxRecDepth 20000 in
theorem gX3_jars_X3_isHouse : GoodIn wsX3_jars (wsV RX3 119 RX3 yX3_isHouse wsX3_isHouse) := goodIn_app (goodIn_of _ (by decide +kernel)) ggX3_jars_X3_isHouse
set_option maxRecDepth 20000 in
theorem ggX3_jars_X3_worthTo : GoodIn wsX3_jars wsX3_worthTo := goodIn_r _ [11, 12, 13, 14, 15] (by decide +kernel) (by decide +kernel)
set_option maxRecDepth 20000 in
theorem gX3_jars_X3_worthTo : GoodIn wsX3_jars (va_wsS RX3 143 yX3_worthTo wsX3_worthTo) := goodIn_app (goodIn_of _ (by decide +kernel)) ggX3_jars_X3_worthTo
set_option maxRecDepth 20000 in
theorem ggX3_jars_X3_tellLeast : GoodIn wsX3_jars wsX3_tellLeast := goodIn_r _ [19, 20, 21, 22, 23, 24, 25, 26, 27, 28, 29, 30, 31, 32, 33, 34] (by decide +kernel) (by decide +kernel)
set_option maxRecDepth 20000 in
theorem gX3_jars_X3_tellLeast : GoodIn wsX3_jars (wsV RX3 214 RX3 yX3_tellLeast wsX3_tellLeast) := goodIn_app (goodIn_of _ (by decide +kernel)) ggX3_jars_X3_tellLeast
theorem dX3_jars_0 : decode cX3_jars 0 = .ok (.aload_n 0, 1) := by decide +kernel
theorem dX3_jars_1 : decode cX3_jars 1 = .ok (.iload_n 1, 1) := by decide +kernel
theorem dX3_jars_2 : decode cX3_jars 2 = .ok (.invokevirtual 119, 3) := by decide +kernel
theorem dX3_jars_5 : decode cX3_jars 5 = .ok (.ifCond .eq 14, 3) := by decide +kernel
theorem dX3_jars_8 : decode cX3_jars 8 = .ok (.iload_n 2, 1) := by decide +kernel
theorem dX3_jars_9 : decode cX3_jars 9 = .ok (.ifCond .lt 10, 3) := by decide +kernel
theorem dX3_jars_12 : decode cX3_jars 12 = .ok (.iload_n 2, 1) := by decide +kernel
theorem dX3_jars_13 : decode cX3_jars 13 = .ok (.sipush 300, 3) := by decide +kernel
theorem dX3_jars_16 : decode cX3_jars 16 = .ok (.if_icmp .le 5, 3) := by decide +kernel
theorem dX3_jars_19 : decode cX3_jars 19 = .ok (.iconst (-1), 1) := by decide +kernel
theorem dX3_jars_20 : decode cX3_jars 20 = .ok (.ireturn, 1) := by decide +kernel
theorem dX3_jars_21 : decode cX3_jars 21 = .ok (.iconst 0, 1) := by decide +kernel
theorem dX3_jars_22 : decode cX3_jars 22 = .ok (.istore_n 3, 1) := by decide +kernel
theorem dX3_jars_23 : decode cX3_jars 23 = .ok (.bipush (-9), 2) := by decide +kernel
theorem dX3_jars_25 : decode cX3_jars 25 = .ok (.istore 4, 2) := by decide +kernel
theorem dX3_jars_27 : decode cX3_jars 27 = .ok (.iconst 0, 1) := by decide +kernel
theorem dX3_jars_28 : decode cX3_jars 28 = .ok (.istore 5, 2) := by decide +kernel
theorem dX3_jars_30 : decode cX3_jars 30 = .ok (.iload 5, 2) := by decide +kernel
theorem dX3_jars_32 : decode cX3_jars 32 = .ok (.bipush 99, 2) := by decide +kernel
theorem dX3_jars_34 : decode cX3_jars 34 = .ok (.if_icmp .gt 46, 3) := by decide +kernel
theorem dX3_jars_37 : decode cX3_jars 37 = .ok (.aload_n 0, 1) := by decide +kernel
theorem dX3_jars_38 : decode cX3_jars 38 = .ok (.getfield 29, 3) := by decide +kernel
theorem dX3_jars_41 : decode cX3_jars 41 = .ok (.getfield 125, 3) := by decide +kernel
theorem dX3_jars_44 : decode cX3_jars 44 = .ok (.iload_n 1, 1) := by decide +kernel
theorem dX3_jars_45 : decode cX3_jars 45 = .ok (.iaload, 1) := by decide +kernel
theorem dX3_jars_46 : decode cX3_jars 46 = .ok (.iload 5, 2) := by decide +kernel
theorem dX3_jars_48 : decode cX3_jars 48 = .ok (.invokestatic 143, 3) := by decide +kernel
theorem dX3_jars_51 : decode cX3_jars 51 = .ok (.iload_n 2, 1) := by decide +kernel
theorem dX3_jars_52 : decode cX3_jars 52 = .ok (.if_icmp .ne 22, 3) := by decide +kernel
theorem dX3_jars_55 : decode cX3_jars 55 = .ok (.iinc 3 1, 3) := by decide +kernel
theorem dX3_jars_58 : decode cX3_jars 58 = .ok (.iload 4, 2) := by decide +kernel
theorem dX3_jars_60 : decode cX3_jars 60 = .ok (.bipush (-9), 2) := by decide +kernel
theorem dX3_jars_62 : decode cX3_jars 62 = .ok (.if_icmp .ne 8, 3) := by decide +kernel
theorem dX3_jars_65 : decode cX3_jars 65 = .ok (.iload 5, 2) := by decide +kernel
theorem dX3_jars_67 : decode cX3_jars 67 = .ok (.goto 5, 3) := by decide +kernel
theorem dX3_jars_70 : decode cX3_jars 70 = .ok (.iload 4, 2) := by decide +kernel
theorem dX3_jars_72 : decode cX3_jars 72 = .ok (.istore 4, 2) := by decide +kernel
theorem dX3_jars_74 : decode cX3_jars 74 = .ok (.iinc 5 1, 3) := by decide +kernel
theorem dX3_jars_77 : decode cX3_jars 77 = .ok (.goto (-47), 3) := by decide +kernel
theorem dX3_jars_80 : decode cX3_jars 80 = .ok (.aload_n 0, 1) := by decide +kernel
theorem dX3_jars_81 : decode cX3_jars 81 = .ok (.iload_n 3, 1) := by decide +kernel
theorem dX3_jars_82 : decode cX3_jars 82 = .ok (.iload 4, 2) := by decide +kernel
theorem dX3_jars_84 : decode cX3_jars 84 = .ok (.invokevirtual 214, 3) := by decide +kernel
theorem dX3_jars_87 : decode cX3_jars 87 = .ok (.ireturn, 1) := by decide +kernel
set_option maxRecDepth 20000 in
theorem ggX3_duel_X3_isHouse : GoodIn wsX3_duel wsX3_isHouse := goodIn_r _ [10, 2, 11, 38, 39, 40, 41, 42, 43, 44, 45, 46, 47, 48, 49, 50, 51, 52, 53, 54, 55] (by decide +kernel) (by decide +kernel)
set_option maxRecDepth 20000 in
theorem gX3_duel_X3_isHouse : GoodIn wsX3_duel (wsV RX3 119 RX3 yX3_isHouse wsX3_isHouse) := goodIn_app (goodIn_of _ (by decide +kernel)) ggX3_duel_X3_isHouse
set_option maxRecDepth 20000 in
theorem ggX3_duel_X2_now : GoodIn wsX3_duel wsX2_now := goodIn_r _ [16, 17, 18, 59, 60] (by decide +kernel) (by decide +kernel)
set_option maxRecDepth 20000 in
theorem gX3_duel_X2_now : GoodIn wsX3_duel (wsV RX3 132 RX2 yX2_now wsX2_now) := goodIn_app (goodIn_of _ (by decide +kernel)) ggX3_duel_X2_now
set_option maxRecDepth 20000 in
theorem ggX3_duel_X3_lead : GoodIn wsX3_duel wsX3_lead := goodIn_r _ [21, 22, 23, 24, 25, 26, 27, 9, 28, 29, 30, 31, 32, 33, 34, 35, 36, 37, 19, 20] (by decide +kernel) (by decide +kernel)
set_option maxRecDepth 20000 in
theorem gX3_duel_X3_lead : GoodIn wsX3_duel (va_wsS RX3 227 yX3_lead wsX3_lead) := goodIn_app (goodIn_of _ (by decide +kernel)) ggX3_duel_X3_lead
theorem dX3_duel_0 : decode cX3_duel 0 = .ok (.aload_n 0, 1) := by decide +kernel
theorem dX3_duel_1 : decode cX3_duel 1 = .ok (.iload_n 1, 1) := by decide +kernel
theorem dX3_duel_2 : decode cX3_duel 2 = .ok (.invokevirtual 119, 3) := by decide +kernel
theorem dX3_duel_5 : decode cX3_duel 5 = .ok (.ifCond .eq 26, 3) := by decide +kernel
theorem dX3_duel_8 : decode cX3_duel 8 = .ok (.aload_n 0, 1) := by decide +kernel
theorem dX3_duel_9 : decode cX3_duel 9 = .ok (.iload_n 2, 1) := by decide +kernel
theorem dX3_duel_10 : decode cX3_duel 10 = .ok (.invokevirtual 119, 3) := by decide +kernel
theorem dX3_duel_13 : decode cX3_duel 13 = .ok (.ifCond .eq 18, 3) := by decide +kernel
theorem dX3_duel_16 : decode cX3_duel 16 = .ok (.iload_n 1, 1) := by decide +kernel
theorem dX3_duel_17 : decode cX3_duel 17 = .ok (.iload_n 2, 1) := by decide +kernel
theorem dX3_duel_18 : decode cX3_duel 18 = .ok (.if_icmp .eq 13, 3) := by decide +kernel
theorem dX3_duel_21 : decode cX3_duel 21 = .ok (.iload_n 3, 1) := by decide +kernel
theorem dX3_duel_22 : decode cX3_duel 22 = .ok (.ifCond .lt 9, 3) := by decide +kernel
theorem dX3_duel_25 : decode cX3_duel 25 = .ok (.iload_n 3, 1) := by decide +kernel
theorem dX3_duel_26 : decode cX3_duel 26 = .ok (.bipush 6, 2) := by decide +kernel
theorem dX3_duel_28 : decode cX3_duel 28 = .ok (.if_icmp .le 5, 3) := by decide +kernel
theorem dX3_duel_31 : decode cX3_duel 31 = .ok (.iconst (-1), 1) := by decide +kernel
theorem dX3_duel_32 : decode cX3_duel 32 = .ok (.ireturn, 1) := by decide +kernel
theorem dX3_duel_33 : decode cX3_duel 33 = .ok (.aload_n 0, 1) := by decide +kernel
theorem dX3_duel_34 : decode cX3_duel 34 = .ok (.getfield 36, 3) := by decide +kernel
theorem dX3_duel_37 : decode cX3_duel 37 = .ok (.invokevirtual 132, 3) := by decide +kernel
theorem dX3_duel_40 : decode cX3_duel 40 = .ok (.astore 4, 2) := by decide +kernel
theorem dX3_duel_42 : decode cX3_duel 42 = .ok (.sipush 500, 3) := by decide +kernel
theorem dX3_duel_45 : decode cX3_duel 45 = .ok (.aload_n 0, 1) := by decide +kernel
theorem dX3_duel_46 : decode cX3_duel 46 = .ok (.getfield 29, 3) := by decide +kernel
theorem dX3_duel_49 : decode cX3_duel 49 = .ok (.getfield 125, 3) := by decide +kernel
theorem dX3_duel_52 : decode cX3_duel 52 = .ok (.iload_n 1, 1) := by decide +kernel
theorem dX3_duel_53 : decode cX3_duel 53 = .ok (.iaload, 1) := by decide +kernel
theorem dX3_duel_54 : decode cX3_duel 54 = .ok (.aload 4, 2) := by decide +kernel
theorem dX3_duel_56 : decode cX3_duel 56 = .ok (.getfield 136, 3) := by decide +kernel
theorem dX3_duel_59 : decode cX3_duel 59 = .ok (.iload_n 1, 1) := by decide +kernel
theorem dX3_duel_60 : decode cX3_duel 60 = .ok (.iaload, 1) := by decide +kernel
theorem dX3_duel_61 : decode cX3_duel 61 = .ok (.aload_n 0, 1) := by decide +kernel
theorem dX3_duel_62 : decode cX3_duel 62 = .ok (.getfield 29, 3) := by decide +kernel
theorem dX3_duel_65 : decode cX3_duel 65 = .ok (.getfield 125, 3) := by decide +kernel
theorem dX3_duel_68 : decode cX3_duel 68 = .ok (.iload_n 2, 1) := by decide +kernel
theorem dX3_duel_69 : decode cX3_duel 69 = .ok (.iaload, 1) := by decide +kernel
theorem dX3_duel_70 : decode cX3_duel 70 = .ok (.aload 4, 2) := by decide +kernel
theorem dX3_duel_72 : decode cX3_duel 72 = .ok (.getfield 136, 3) := by decide +kernel
theorem dX3_duel_75 : decode cX3_duel 75 = .ok (.iload_n 2, 1) := by decide +kernel
theorem dX3_duel_76 : decode cX3_duel 76 = .ok (.iaload, 1) := by decide +kernel
theorem dX3_duel_77 : decode cX3_duel 77 = .ok (.aload 4, 2) := by decide +kernel
theorem dX3_duel_79 : decode cX3_duel 79 = .ok (.getfield 164, 3) := by decide +kernel
theorem dX3_duel_82 : decode cX3_duel 82 = .ok (.iload_n 3, 1) := by decide +kernel
theorem dX3_duel_83 : decode cX3_duel 83 = .ok (.invokestatic 227, 3) := by decide +kernel
theorem dX3_duel_86 : decode cX3_duel 86 = .ok (.iadd, 1) := by decide +kernel
theorem dX3_duel_87 : decode cX3_duel 87 = .ok (.ireturn, 1) := by decide +kernel
set_option maxRecDepth 20000 in
theorem ggX3_odds_X3_isTwelfths : GoodIn wsX3_odds wsX3_isTwelfths := goodIn_r _ [6] (by decide +kernel) (by decide +kernel)
set_option maxRecDepth 20000 in
theorem gX3_odds_X3_isTwelfths : GoodIn wsX3_odds (va_wsS RX3 231 yX3_isTwelfths wsX3_isTwelfths) := goodIn_app (goodIn_of _ (by decide +kernel)) ggX3_odds_X3_isTwelfths
set_option maxRecDepth 20000 in
theorem ggX3_odds_X3_partOf : GoodIn wsX3_odds wsX3_partOf := goodIn_r _ [10, 1, 2, 11, 12, 5, 13, 57, 58, 59, 60, 61, 62, 63, 64, 65, 66, 67, 68, 69, 70, 71, 72, 73, 74] (by decide +kernel) (by decide +kernel)
set_option maxRecDepth 20000 in
theorem gX3_odds_X3_partOf : GoodIn wsX3_odds (wsV RX3 234 RX3 yX3_partOf wsX3_partOf) := goodIn_app (goodIn_of _ (by decide +kernel)) ggX3_odds_X3_partOf
set_option maxRecDepth 20000 in
theorem ggX3_odds_X3_worksWithIdle : GoodIn wsX3_odds wsX3_worksWithIdle := goodIn_r _ [17, 18, 1, 2, 19, 20, 21, 22, 23, 24, 25, 26, 11, 12, 5, 13, 27, 28, 29, 30, 31, 32, 33, 34, 35, 36, 37, 38, 39, 40, 41, 42, 43, 44, 45, 46, 47, 57, 58, 59, 60, 61, 62, 63, 64, 65, 66, 67, 68, 69, 70, 71, 72, 73, 74, 75, 76, 77, 78, 79] (by decide +kernel) (by decide +kernel)
set_option maxRecDepth 20000 in
theorem gX3_odds_X3_worksWithIdle : GoodIn wsX3_odds (wsV RX3 238 RX3 yX3_worksWithIdle wsX3_worksWithIdle) := goodIn_app (goodIn_of _ (by decide +kernel)) ggX3_odds_X3_worksWithIdle
set_option maxRecDepth 20000 in
theorem ggX3_odds_X3_tellChance : GoodIn wsX3_odds wsX3_tellChance := goodIn_r _ [51, 52, 53, 54, 55, 5, 56, 57, 58, 59, 60, 61, 62, 63, 64, 65, 66, 67, 68, 69, 70] (by decide +kernel) (by decide +kernel)
set_option maxRecDepth 20000 in
theorem gX3_odds_X3_tellChance : GoodIn wsX3_odds (wsV RX3 241 RX3 yX3_tellChance wsX3_tellChance) := goodIn_app (goodIn_of _ (by decide +kernel)) ggX3_odds_X3_tellChance
theorem dX3_odds_0 : decode cX3_odds 0 = .ok (.iload_n 1, 1) := by decide +kernel
theorem dX3_odds_1 : decode cX3_odds 1 = .ok (.ifCond .lt 16, 3) := by decide +kernel
theorem dX3_odds_4 : decode cX3_odds 4 = .ok (.iload_n 1, 1) := by decide +kernel
theorem dX3_odds_5 : decode cX3_odds 5 = .ok (.bipush 7, 2) := by decide +kernel
theorem dX3_odds_7 : decode cX3_odds 7 = .ok (.if_icmp .gt 10, 3) := by decide +kernel
theorem dX3_odds_10 : decode cX3_odds 10 = .ok (.iload_n 2, 1) := by decide +kernel
theorem dX3_odds_11 : decode cX3_odds 11 = .ok (.invokestatic 231, 3) := by decide +kernel
theorem dX3_odds_14 : decode cX3_odds 14 = .ok (.ifCond .ne 5, 3) := by decide +kernel
theorem dX3_odds_17 : decode cX3_odds 17 = .ok (.iconst (-1), 1) := by decide +kernel
theorem dX3_odds_18 : decode cX3_odds 18 = .ok (.ireturn, 1) := by decide +kernel
theorem dX3_odds_19 : decode cX3_odds 19 = .ok (.aload_n 0, 1) := by decide +kernel
theorem dX3_odds_20 : decode cX3_odds 20 = .ok (.getfield 29, 3) := by decide +kernel
theorem dX3_odds_23 : decode cX3_odds 23 = .ok (.getfield 116, 3) := by decide +kernel
theorem dX3_odds_26 : decode cX3_odds 26 = .ok (.ifCond .ne 6, 3) := by decide +kernel
theorem dX3_odds_29 : decode cX3_odds 29 = .ok (.bipush (-4), 2) := by decide +kernel
theorem dX3_odds_31 : decode cX3_odds 31 = .ok (.ireturn, 1) := by decide +kernel
theorem dX3_odds_32 : decode cX3_odds 32 = .ok (.lconst 0, 1) := by decide +kernel
theorem dX3_odds_33 : decode cX3_odds 33 = .ok (.lstore_n 3, 1) := by decide +kernel
theorem dX3_odds_34 : decode cX3_odds 34 = .ok (.lconst 0, 1) := by decide +kernel
theorem dX3_odds_35 : decode cX3_odds 35 = .ok (.lstore 5, 2) := by decide +kernel
theorem dX3_odds_37 : decode cX3_odds 37 = .ok (.iconst 0, 1) := by decide +kernel
theorem dX3_odds_38 : decode cX3_odds 38 = .ok (.istore 7, 2) := by decide +kernel
theorem dX3_odds_40 : decode cX3_odds 40 = .ok (.iload 7, 2) := by decide +kernel
theorem dX3_odds_42 : decode cX3_odds 42 = .ok (.iconst 1, 1) := by decide +kernel
theorem dX3_odds_43 : decode cX3_odds 43 = .ok (.aload_n 0, 1) := by decide +kernel
theorem dX3_odds_44 : decode cX3_odds 44 = .ok (.getfield 29, 3) := by decide +kernel
theorem dX3_odds_47 : decode cX3_odds 47 = .ok (.getfield 116, 3) := by decide +kernel
theorem dX3_odds_50 : decode cX3_odds 50 = .ok (.ishl, 1) := by decide +kernel
theorem dX3_odds_51 : decode cX3_odds 51 = .ok (.if_icmp .ge 40, 3) := by decide +kernel
theorem dX3_odds_54 : decode cX3_odds 54 = .ok (.aload_n 0, 1) := by decide +kernel
theorem dX3_odds_55 : decode cX3_odds 55 = .ok (.iload 7, 2) := by decide +kernel
theorem dX3_odds_57 : decode cX3_odds 57 = .ok (.iload_n 2, 1) := by decide +kernel
theorem dX3_odds_58 : decode cX3_odds 58 = .ok (.invokevirtual 234, 3) := by decide +kernel
theorem dX3_odds_61 : decode cX3_odds 61 = .ok (.lstore 8, 2) := by decide +kernel
theorem dX3_odds_63 : decode cX3_odds 63 = .ok (.lload 5, 2) := by decide +kernel
theorem dX3_odds_65 : decode cX3_odds 65 = .ok (.lload 8, 2) := by decide +kernel
theorem dX3_odds_67 : decode cX3_odds 67 = .ok (.ladd, 1) := by decide +kernel
theorem dX3_odds_68 : decode cX3_odds 68 = .ok (.lstore 5, 2) := by decide +kernel
theorem dX3_odds_70 : decode cX3_odds 70 = .ok (.aload_n 0, 1) := by decide +kernel
theorem dX3_odds_71 : decode cX3_odds 71 = .ok (.iload 7, 2) := by decide +kernel
theorem dX3_odds_73 : decode cX3_odds 73 = .ok (.invokevirtual 238, 3) := by decide +kernel
theorem dX3_odds_76 : decode cX3_odds 76 = .ok (.iload_n 1, 1) := by decide +kernel
theorem dX3_odds_77 : decode cX3_odds 77 = .ok (.if_icmp .lt 8, 3) := by decide +kernel
theorem dX3_odds_80 : decode cX3_odds 80 = .ok (.lload_n 3, 1) := by decide +kernel
theorem dX3_odds_81 : decode cX3_odds 81 = .ok (.lload 8, 2) := by decide +kernel
theorem dX3_odds_83 : decode cX3_odds 83 = .ok (.ladd, 1) := by decide +kernel
theorem dX3_odds_84 : decode cX3_odds 84 = .ok (.lstore_n 3, 1) := by decide +kernel
theorem dX3_odds_85 : decode cX3_odds 85 = .ok (.iinc 7 1, 3) := by decide +kernel
theorem dX3_odds_88 : decode cX3_odds 88 = .ok (.goto (-48), 3) := by decide +kernel
theorem dX3_odds_91 : decode cX3_odds 91 = .ok (.aload_n 0, 1) := by decide +kernel
theorem dX3_odds_92 : decode cX3_odds 92 = .ok (.lload_n 3, 1) := by decide +kernel
theorem dX3_odds_93 : decode cX3_odds 93 = .ok (.lload 5, 2) := by decide +kernel
theorem dX3_odds_95 : decode cX3_odds 95 = .ok (.invokevirtual 241, 3) := by decide +kernel
theorem dX3_odds_98 : decode cX3_odds 98 = .ok (.ireturn, 1) := by decide +kernel
set_option maxRecDepth 20000 in
theorem ggX3_mid_X3_isTwelfths : GoodIn wsX3_mid wsX3_isTwelfths := goodIn_r _ [9] (by decide +kernel) (by decide +kernel)
set_option maxRecDepth 20000 in
theorem gX3_mid_X3_isTwelfths : GoodIn wsX3_mid (va_wsS RX3 231 yX3_isTwelfths wsX3_isTwelfths) := goodIn_app (goodIn_of _ (by decide +kernel)) ggX3_mid_X3_isTwelfths
set_option maxRecDepth 20000 in
theorem ggX3_mid_X2_now : GoodIn wsX3_mid wsX2_now := goodIn_r _ [14, 15, 16, 68, 69] (by decide +kernel) (by decide +kernel)
set_option maxRecDepth 20000 in
theorem gX3_mid_X2_now : GoodIn wsX3_mid (wsV RX3 132 RX2 yX2_now wsX2_now) := goodIn_app (goodIn_of _ (by decide +kernel)) ggX3_mid_X2_now
set_option maxRecDepth 20000 in
theorem ggX3_mid_X0_comesOff : GoodIn wsX3_mid wsX0_comesOff := goodIn_r _ [21, 22, 23, 24, 8, 25, 26, 27, 28, 29, 61, 62, 63, 64] (by decide +kernel) (by decide +kernel)
set_option maxRecDepth 20000 in
theorem gX3_mid_X0_comesOff : GoodIn wsX3_mid (wsV RX3 199 RX0 yX0_comesOff wsX0_comesOff) := goodIn_app (goodIn_of _ (by decide +kernel)) ggX3_mid_X0_comesOff
set_option maxRecDepth 20000 in
theorem ggX3_mid_X0_jarBehind : GoodIn wsX3_mid wsX0_jarBehind := goodIn_r _ [33, 34, 35, 36, 28, 37, 61, 62, 63, 64] (by decide +kernel) (by decide +kernel)
set_option maxRecDepth 20000 in
theorem gX3_mid_X0_jarBehind : GoodIn wsX3_mid (wsV RX3 196 RX0 yX0_jarBehind wsX0_jarBehind) := goodIn_app (goodIn_of _ (by decide +kernel)) ggX3_mid_X0_jarBehind
set_option maxRecDepth 20000 in
theorem ggX3_mid_X3_tellChance : GoodIn wsX3_mid wsX3_tellChance := goodIn_r _ [41, 42, 43, 44, 45, 8, 46, 47, 48, 49, 50, 51, 52, 53, 54, 55, 56, 57, 58, 59, 60] (by decide +kernel) (by decide +kernel)
set_option maxRecDepth 20000 in
theorem gX3_mid_X3_tellChance : GoodIn wsX3_mid (wsV RX3 241 RX3 yX3_tellChance wsX3_tellChance) := goodIn_app (goodIn_of _ (by decide +kernel)) ggX3_mid_X3_tellChance
theorem dX3_mid_0 : decode cX3_mid 0 = .ok (.iload_n 1, 1) := by decide +kernel
theorem dX3_mid_1 : decode cX3_mid 1 = .ok (.invokestatic 231, 3) := by decide +kernel
theorem dX3_mid_4 : decode cX3_mid 4 = .ok (.ifCond .ne 5, 3) := by decide +kernel
theorem dX3_mid_7 : decode cX3_mid 7 = .ok (.iconst (-1), 1) := by decide +kernel
theorem dX3_mid_8 : decode cX3_mid 8 = .ok (.ireturn, 1) := by decide +kernel
theorem dX3_mid_9 : decode cX3_mid 9 = .ok (.aload_n 0, 1) := by decide +kernel
theorem dX3_mid_10 : decode cX3_mid 10 = .ok (.getfield 29, 3) := by decide +kernel
theorem dX3_mid_13 : decode cX3_mid 13 = .ok (.getfield 116, 3) := by decide +kernel
theorem dX3_mid_16 : decode cX3_mid 16 = .ok (.ifCond .ne 6, 3) := by decide +kernel
theorem dX3_mid_19 : decode cX3_mid 19 = .ok (.bipush (-4), 2) := by decide +kernel
theorem dX3_mid_21 : decode cX3_mid 21 = .ok (.ireturn, 1) := by decide +kernel
theorem dX3_mid_22 : decode cX3_mid 22 = .ok (.iconst 0, 1) := by decide +kernel
theorem dX3_mid_23 : decode cX3_mid 23 = .ok (.istore_n 2, 1) := by decide +kernel
theorem dX3_mid_24 : decode cX3_mid 24 = .ok (.iconst 0, 1) := by decide +kernel
theorem dX3_mid_25 : decode cX3_mid 25 = .ok (.istore_n 3, 1) := by decide +kernel
theorem dX3_mid_26 : decode cX3_mid 26 = .ok (.iload_n 3, 1) := by decide +kernel
theorem dX3_mid_27 : decode cX3_mid 27 = .ok (.aload_n 0, 1) := by decide +kernel
theorem dX3_mid_28 : decode cX3_mid 28 = .ok (.getfield 29, 3) := by decide +kernel
theorem dX3_mid_31 : decode cX3_mid 31 = .ok (.getfield 116, 3) := by decide +kernel
theorem dX3_mid_34 : decode cX3_mid 34 = .ok (.if_icmp .ge 69, 3) := by decide +kernel
theorem dX3_mid_37 : decode cX3_mid 37 = .ok (.aload_n 0, 1) := by decide +kernel
theorem dX3_mid_38 : decode cX3_mid 38 = .ok (.getfield 36, 3) := by decide +kernel
theorem dX3_mid_41 : decode cX3_mid 41 = .ok (.invokevirtual 132, 3) := by decide +kernel
theorem dX3_mid_44 : decode cX3_mid 44 = .ok (.getfield 136, 3) := by decide +kernel
theorem dX3_mid_47 : decode cX3_mid 47 = .ok (.iload_n 3, 1) := by decide +kernel
theorem dX3_mid_48 : decode cX3_mid 48 = .ok (.iaload, 1) := by decide +kernel
theorem dX3_mid_49 : decode cX3_mid 49 = .ok (.istore 4, 2) := by decide +kernel
theorem dX3_mid_51 : decode cX3_mid 51 = .ok (.aload_n 0, 1) := by decide +kernel
theorem dX3_mid_52 : decode cX3_mid 52 = .ok (.getfield 29, 3) := by decide +kernel
theorem dX3_mid_55 : decode cX3_mid 55 = .ok (.iload_n 3, 1) := by decide +kernel
theorem dX3_mid_56 : decode cX3_mid 56 = .ok (.iload 4, 2) := by decide +kernel
theorem dX3_mid_58 : decode cX3_mid 58 = .ok (.invokevirtual 199, 3) := by decide +kernel
theorem dX3_mid_61 : decode cX3_mid 61 = .ok (.ifCond .eq 7, 3) := by decide +kernel
theorem dX3_mid_64 : decode cX3_mid 64 = .ok (.iload_n 2, 1) := by decide +kernel
theorem dX3_mid_65 : decode cX3_mid 65 = .ok (.iload_n 1, 1) := by decide +kernel
theorem dX3_mid_66 : decode cX3_mid 66 = .ok (.iadd, 1) := by decide +kernel
theorem dX3_mid_67 : decode cX3_mid 67 = .ok (.istore_n 2, 1) := by decide +kernel
theorem dX3_mid_68 : decode cX3_mid 68 = .ok (.aload_n 0, 1) := by decide +kernel
theorem dX3_mid_69 : decode cX3_mid 69 = .ok (.getfield 29, 3) := by decide +kernel
theorem dX3_mid_72 : decode cX3_mid 72 = .ok (.iload_n 3, 1) := by decide +kernel
theorem dX3_mid_73 : decode cX3_mid 73 = .ok (.aload_n 0, 1) := by decide +kernel
theorem dX3_mid_74 : decode cX3_mid 74 = .ok (.getfield 29, 3) := by decide +kernel
theorem dX3_mid_77 : decode cX3_mid 77 = .ok (.iload_n 3, 1) := by decide +kernel
theorem dX3_mid_78 : decode cX3_mid 78 = .ok (.iload 4, 2) := by decide +kernel
theorem dX3_mid_80 : decode cX3_mid 80 = .ok (.iconst 1, 1) := by decide +kernel
theorem dX3_mid_81 : decode cX3_mid 81 = .ok (.invokevirtual 196, 3) := by decide +kernel
theorem dX3_mid_84 : decode cX3_mid 84 = .ok (.invokevirtual 199, 3) := by decide +kernel
theorem dX3_mid_87 : decode cX3_mid 87 = .ok (.ifCond .eq 10, 3) := by decide +kernel
theorem dX3_mid_90 : decode cX3_mid 90 = .ok (.iload_n 2, 1) := by decide +kernel
theorem dX3_mid_91 : decode cX3_mid 91 = .ok (.bipush 12, 2) := by decide +kernel
theorem dX3_mid_93 : decode cX3_mid 93 = .ok (.iload_n 1, 1) := by decide +kernel
theorem dX3_mid_94 : decode cX3_mid 94 = .ok (.isub, 1) := by decide +kernel
theorem dX3_mid_95 : decode cX3_mid 95 = .ok (.iadd, 1) := by decide +kernel
theorem dX3_mid_96 : decode cX3_mid 96 = .ok (.istore_n 2, 1) := by decide +kernel
theorem dX3_mid_97 : decode cX3_mid 97 = .ok (.iinc 3 1, 3) := by decide +kernel
theorem dX3_mid_100 : decode cX3_mid 100 = .ok (.goto (-74), 3) := by decide +kernel
theorem dX3_mid_103 : decode cX3_mid 103 = .ok (.aload_n 0, 1) := by decide +kernel
theorem dX3_mid_104 : decode cX3_mid 104 = .ok (.iload_n 2, 1) := by decide +kernel
theorem dX3_mid_105 : decode cX3_mid 105 = .ok (.i2l, 1) := by decide +kernel
theorem dX3_mid_106 : decode cX3_mid 106 = .ok (.ldc2_w 245, 3) := by decide +kernel
theorem dX3_mid_109 : decode cX3_mid 109 = .ok (.invokevirtual 241, 3) := by decide +kernel
theorem dX3_mid_112 : decode cX3_mid 112 = .ok (.ireturn, 1) := by decide +kernel
set_option maxRecDepth 20000 in
theorem ggX3_lots_X2_next : GoodIn wsX3_lots wsX2_next := goodIn_r _ [13, 14, 15, 16, 17, 18, 19, 20, 21, 22, 23, 24, 25, 26, 27, 106, 107, 108, 109, 110] (by decide +kernel) (by decide +kernel)
set_option maxRecDepth 20000 in
theorem gX3_lots_X2_next : GoodIn wsX3_lots (wsV RX3 153 RX2 yX2_next wsX2_next) := goodIn_app (goodIn_of _ (by decide +kernel)) ggX3_lots_X2_next
set_option maxRecDepth 20000 in
theorem ggX3_lots_X3_doByLot : GoodIn wsX3_lots wsX3_doByLot := goodIn_r _ [32, 2, 3, 33, 8, 34, 35, 36, 37, 19, 38, 39, 27, 21, 40, 41, 42, 43, 44, 45, 46, 47, 48, 26, 49, 31, 50, 51, 52, 53, 54, 55, 56, 57, 58, 59, 60, 61, 62, 63, 64, 65, 66, 67, 68, 69, 70, 71, 72, 73, 74, 75, 76, 77, 78, 79, 80, 81, 82, 83, 88, 89, 90, 91, 92, 93, 94, 95, 96, 97, 98, 99, 100, 101, 102, 103, 104, 105, 108, 109, 110] (by decide +kernel) (by decide +kernel)
set_option maxRecDepth 20000 in
theorem gX3_lots_X3_doByLot : GoodIn wsX3_lots (wsV RX3 252 RX3 yX3_doByLot wsX3_doByLot) := goodIn_app (goodIn_of _ (by decide +kernel)) ggX3_lots_X3_doByLot
set_option maxRecDepth 20000 in
theorem ggX3_lots_X2_now : GoodIn wsX3_lots wsX2_now := goodIn_r _ [87, 14, 15, 106, 107] (by decide +kernel) (by decide +kernel)
set_option maxRecDepth 20000 in
theorem gX3_lots_X2_now : GoodIn wsX3_lots (wsV RX3 132 RX2 yX2_now wsX2_now) := goodIn_app (goodIn_of _ (by decide +kernel)) ggX3_lots_X2_now
theorem dX3_lots_0 : decode cX3_lots 0 = .ok (.iload_n 1, 1) := by decide +kernel
theorem dX3_lots_1 : decode cX3_lots 1 = .ok (.iconst 1, 1) := by decide +kernel
theorem dX3_lots_2 : decode cX3_lots 2 = .ok (.if_icmp .lt 20, 3) := by decide +kernel
theorem dX3_lots_5 : decode cX3_lots 5 = .ok (.iload_n 1, 1) := by decide +kernel
theorem dX3_lots_6 : decode cX3_lots 6 = .ok (.bipush 20, 2) := by decide +kernel
theorem dX3_lots_8 : decode cX3_lots 8 = .ok (.if_icmp .gt 14, 3) := by decide +kernel
theorem dX3_lots_11 : decode cX3_lots 11 = .ok (.iload_n 2, 1) := by decide +kernel
theorem dX3_lots_12 : decode cX3_lots 12 = .ok (.iconst 1, 1) := by decide +kernel
theorem dX3_lots_13 : decode cX3_lots 13 = .ok (.if_icmp .lt 9, 3) := by decide +kernel
theorem dX3_lots_16 : decode cX3_lots 16 = .ok (.iload_n 2, 1) := by decide +kernel
theorem dX3_lots_17 : decode cX3_lots 17 = .ok (.ldc 247, 2) := by decide +kernel
theorem dX3_lots_19 : decode cX3_lots 19 = .ok (.if_icmp .lt 5, 3) := by decide +kernel
theorem dX3_lots_22 : decode cX3_lots 22 = .ok (.iconst (-1), 1) := by decide +kernel
theorem dX3_lots_23 : decode cX3_lots 23 = .ok (.ireturn, 1) := by decide +kernel
theorem dX3_lots_24 : decode cX3_lots 24 = .ok (.aload_n 0, 1) := by decide +kernel
theorem dX3_lots_25 : decode cX3_lots 25 = .ok (.getfield 29, 3) := by decide +kernel
theorem dX3_lots_28 : decode cX3_lots 28 = .ok (.getfield 116, 3) := by decide +kernel
theorem dX3_lots_31 : decode cX3_lots 31 = .ok (.ifCond .ne 6, 3) := by decide +kernel
theorem dX3_lots_34 : decode cX3_lots 34 = .ok (.bipush (-4), 2) := by decide +kernel
theorem dX3_lots_36 : decode cX3_lots 36 = .ok (.ireturn, 1) := by decide +kernel
theorem dX3_lots_37 : decode cX3_lots 37 = .ok (.aload_n 0, 1) := by decide +kernel
theorem dX3_lots_38 : decode cX3_lots 38 = .ok (.getfield 36, 3) := by decide +kernel
theorem dX3_lots_41 : decode cX3_lots 41 = .ok (.getfield 67, 3) := by decide +kernel
theorem dX3_lots_44 : decode cX3_lots 44 = .ok (.iload_n 1, 1) := by decide +kernel
theorem dX3_lots_45 : decode cX3_lots 45 = .ok (.iadd, 1) := by decide +kernel
theorem dX3_lots_46 : decode cX3_lots 46 = .ok (.bipush 40, 2) := by decide +kernel
theorem dX3_lots_48 : decode cX3_lots 48 = .ok (.if_icmp .le 6, 3) := by decide +kernel
theorem dX3_lots_51 : decode cX3_lots 51 = .ok (.bipush (-2), 2) := by decide +kernel
theorem dX3_lots_53 : decode cX3_lots 53 = .ok (.ireturn, 1) := by decide +kernel
theorem dX3_lots_54 : decode cX3_lots 54 = .ok (.iload_n 2, 1) := by decide +kernel
theorem dX3_lots_55 : decode cX3_lots 55 = .ok (.i2l, 1) := by decide +kernel
theorem dX3_lots_56 : decode cX3_lots 56 = .ok (.lstore_n 3, 1) := by decide +kernel
theorem dX3_lots_57 : decode cX3_lots 57 = .ok (.iconst 0, 1) := by decide +kernel
theorem dX3_lots_58 : decode cX3_lots 58 = .ok (.istore 5, 2) := by decide +kernel
theorem dX3_lots_60 : decode cX3_lots 60 = .ok (.iload 5, 2) := by decide +kernel
theorem dX3_lots_62 : decode cX3_lots 62 = .ok (.iload_n 1, 1) := by decide +kernel
theorem dX3_lots_63 : decode cX3_lots 63 = .ok (.if_icmp .ge 32, 3) := by decide +kernel
theorem dX3_lots_66 : decode cX3_lots 66 = .ok (.lload_n 3, 1) := by decide +kernel
theorem dX3_lots_67 : decode cX3_lots 67 = .ok (.ldc2_w 248, 3) := by decide +kernel
theorem dX3_lots_70 : decode cX3_lots 70 = .ok (.lmul, 1) := by decide +kernel
theorem dX3_lots_71 : decode cX3_lots 71 = .ok (.ldc2_w 250, 3) := by decide +kernel
theorem dX3_lots_74 : decode cX3_lots 74 = .ok (.lrem, 1) := by decide +kernel
theorem dX3_lots_75 : decode cX3_lots 75 = .ok (.lstore_n 3, 1) := by decide +kernel
theorem dX3_lots_76 : decode cX3_lots 76 = .ok (.aload_n 0, 1) := by decide +kernel
theorem dX3_lots_77 : decode cX3_lots 77 = .ok (.aload_n 0, 1) := by decide +kernel
theorem dX3_lots_78 : decode cX3_lots 78 = .ok (.getfield 36, 3) := by decide +kernel
theorem dX3_lots_81 : decode cX3_lots 81 = .ok (.invokevirtual 153, 3) := by decide +kernel
theorem dX3_lots_84 : decode cX3_lots 84 = .ok (.lload_n 3, 1) := by decide +kernel
theorem dX3_lots_85 : decode cX3_lots 85 = .ok (.l2i, 1) := by decide +kernel
theorem dX3_lots_86 : decode cX3_lots 86 = .ok (.invokevirtual 252, 3) := by decide +kernel
theorem dX3_lots_89 : decode cX3_lots 89 = .ok (.iinc 5 1, 3) := by decide +kernel
theorem dX3_lots_92 : decode cX3_lots 92 = .ok (.goto (-32), 3) := by decide +kernel
theorem dX3_lots_95 : decode cX3_lots 95 = .ok (.aload_n 0, 1) := by decide +kernel
theorem dX3_lots_96 : decode cX3_lots 96 = .ok (.getfield 36, 3) := by decide +kernel
theorem dX3_lots_99 : decode cX3_lots 99 = .ok (.invokevirtual 132, 3) := by decide +kernel
theorem dX3_lots_102 : decode cX3_lots 102 = .ok (.getfield 164, 3) := by decide +kernel
theorem dX3_lots_105 : decode cX3_lots 105 = .ok (.ireturn, 1) := by decide +kernel
theorem dX3_asked_0 : decode cX3_asked 0 = .ok (.aload_n 0, 1) := by decide +kernel
theorem dX3_asked_1 : decode cX3_asked 1 = .ok (.getfield 83, 3) := by decide +kernel
theorem dX3_asked_4 : decode cX3_asked 4 = .ok (.ireturn, 1) := by decide +kernel
theorem dX3_upper_0 : decode cX3_upper 0 = .ok (.aload_n 0, 1) := by decide +kernel
theorem dX3_upper_1 : decode cX3_upper 1 = .ok (.getfield 256, 3) := by decide +kernel
theorem dX3_upper_4 : decode cX3_upper 4 = .ok (.lreturn, 1) := by decide +kernel
theorem dX3_lower_0 : decode cX3_lower 0 = .ok (.aload_n 0, 1) := by decide +kernel
theorem dX3_lower_1 : decode cX3_lower 1 = .ok (.getfield 54, 3) := by decide +kernel
theorem dX3_lower_4 : decode cX3_lower 4 = .ok (.lreturn, 1) := by decide +kernel
set_option maxRecDepth 20000 in
theorem ggX3_count_X2_now : GoodIn wsX3_count wsX2_now := goodIn_r _ [13, 14, 15, 96, 97] (by decide +kernel) (by decide +kernel)
set_option maxRecDepth 20000 in
theorem gX3_count_X2_now : GoodIn wsX3_count (wsV RX3 132 RX2 yX2_now wsX2_now) := goodIn_app (goodIn_of _ (by decide +kernel)) ggX3_count_X2_now
set_option maxRecDepth 20000 in
theorem ggX3_count_X1_inJars : GoodIn wsX3_count wsX1_inJars := goodIn_r _ [20, 21, 22, 89, 90, 91, 92, 93, 94, 95] (by decide +kernel) (by decide +kernel)
set_option maxRecDepth 20000 in
theorem gX3_count_X1_inJars : GoodIn wsX3_count (wsV RX3 259 RX1 yX1_inJars wsX1_inJars) := goodIn_app (goodIn_of _ (by decide +kernel)) ggX3_count_X1_inJars
set_option maxRecDepth 20000 in
theorem ggX3_count_X1_worksOff : GoodIn wsX3_count wsX1_worksOff := goodIn_r _ [26, 21, 22, 27, 28, 29, 30, 31, 32, 33, 34, 35, 36, 37, 38, 39, 40, 89, 90, 91, 92, 93, 94, 95] (by decide +kernel) (by decide +kernel)
set_option maxRecDepth 20000 in
theorem gX3_count_X1_worksOff : GoodIn wsX3_count (wsV RX3 185 RX1 yX1_worksOff wsX1_worksOff) := goodIn_app (goodIn_of _ (by decide +kernel)) ggX3_count_X1_worksOff
set_option maxRecDepth 20000 in
theorem ggX3_count_J6_bitCount_0f7a4 : GoodIn wsX3_count wsJ6_bitCount_0f7a4 := goodIn_r _ [44, 45, 46, 47] (by decide +kernel) (by decide +kernel)
set_option maxRecDepth 20000 in
theorem gX3_count_J6_bitCount_0f7a4 : GoodIn wsX3_count (va_wsS RX3 188 yJ6_bitCount_0f7a4 wsJ6_bitCount_0f7a4) := goodIn_app (goodIn_of _ (by decide +kernel)) ggX3_count_J6_bitCount_0f7a4
set_option maxRecDepth 20000 in
theorem ggX3_count_X1_brought : GoodIn wsX3_count wsX1_brought := goodIn_r _ [51, 21, 52, 53, 54, 19, 55, 56, 22, 57, 58, 35, 59, 37, 38, 39, 40, 89, 90, 91, 92, 93, 94, 95] (by decide +kernel) (by decide +kernel)
set_option maxRecDepth 20000 in
theorem gX3_count_X1_brought : GoodIn wsX3_count (wsV RX3 262 RX1 yX1_brought wsX1_brought) := goodIn_app (goodIn_of _ (by decide +kernel)) ggX3_count_X1_brought
set_option maxRecDepth 20000 in
theorem ggX3_count_X3_thoseThere : GoodIn wsX3_count wsX3_thoseThere := goodIn_r _ [62] (by decide +kernel) (by decide +kernel)
set_option maxRecDepth 20000 in
theorem gX3_count_X3_thoseThere : GoodIn wsX3_count (va_wsS RX3 265 yX3_thoseThere wsX3_thoseThere) := goodIn_app (goodIn_of _ (by decide +kernel)) ggX3_count_X3_thoseThere
set_option maxRecDepth 20000 in
theorem ggX3_count_X3_keptThere : GoodIn wsX3_count wsX3_keptThere := goodIn_r _ [66, 67, 5, 75, 76, 77, 78, 79, 80, 81, 82, 83, 84, 85, 86, 87, 88, 96, 97] (by decide +kernel) (by decide +kernel)
set_option maxRecDepth 20000 in
theorem gX3_count_X3_keptThere : GoodIn wsX3_count (wsV RX3 269 RX3 yX3_keptThere wsX3_keptThere) := goodIn_app (goodIn_of _ (by decide +kernel)) ggX3_count_X3_keptThere
set_option maxRecDepth 20000 in
theorem ggX3_count_X0_ofKind : GoodIn wsX3_count wsX0_ofKind := goodIn_r _ [71, 72, 32, 73, 35, 74, 89, 90, 91, 92] (by decide +kernel) (by decide +kernel)
set_option maxRecDepth 20000 in
theorem gX3_count_X0_ofKind : GoodIn wsX3_count (wsV RX3 273 RX0 yX0_ofKind wsX0_ofKind) := goodIn_app (goodIn_of _ (by decide +kernel)) ggX3_count_X0_ofKind
theorem dX3_count_0 : decode cX3_count 0 = .ok (.aload_n 0, 1) := by decide +kernel
theorem dX3_count_1 : decode cX3_count 1 = .ok (.getfield 36, 3) := by decide +kernel
theorem dX3_count_4 : decode cX3_count 4 = .ok (.invokevirtual 132, 3) := by decide +kernel
theorem dX3_count_7 : decode cX3_count 7 = .ok (.astore_n 2, 1) := by decide +kernel
theorem dX3_count_8 : decode cX3_count 8 = .ok (.iload_n 1, 1) := by decide +kernel
theorem dX3_count_9 : decode cX3_count 9 = .ok (.tableswitch 158 0 11 #[63, 71, 76, 84, 89, 98, 110, 119, 127, 135, 140, 149], 63) := by decide +kernel
theorem dX3_count_72 : decode cX3_count 72 = .ok (.aload_n 0, 1) := by decide +kernel
theorem dX3_count_73 : decode cX3_count 73 = .ok (.getfield 29, 3) := by decide +kernel
theorem dX3_count_76 : decode cX3_count 76 = .ok (.getfield 116, 3) := by decide +kernel
theorem dX3_count_79 : decode cX3_count 79 = .ok (.ireturn, 1) := by decide +kernel
theorem dX3_count_80 : decode cX3_count 80 = .ok (.aload_n 2, 1) := by decide +kernel
theorem dX3_count_81 : decode cX3_count 81 = .ok (.getfield 146, 3) := by decide +kernel
theorem dX3_count_84 : decode cX3_count 84 = .ok (.ireturn, 1) := by decide +kernel
theorem dX3_count_85 : decode cX3_count 85 = .ok (.aload_n 0, 1) := by decide +kernel
theorem dX3_count_86 : decode cX3_count 86 = .ok (.getfield 36, 3) := by decide +kernel
theorem dX3_count_89 : decode cX3_count 89 = .ok (.getfield 67, 3) := by decide +kernel
theorem dX3_count_92 : decode cX3_count 92 = .ok (.ireturn, 1) := by decide +kernel
theorem dX3_count_93 : decode cX3_count 93 = .ok (.aload_n 2, 1) := by decide +kernel
theorem dX3_count_94 : decode cX3_count 94 = .ok (.getfield 164, 3) := by decide +kernel
theorem dX3_count_97 : decode cX3_count 97 = .ok (.ireturn, 1) := by decide +kernel
theorem dX3_count_98 : decode cX3_count 98 = .ok (.aload_n 2, 1) := by decide +kernel
theorem dX3_count_99 : decode cX3_count 99 = .ok (.aload_n 0, 1) := by decide +kernel
theorem dX3_count_100 : decode cX3_count 100 = .ok (.getfield 29, 3) := by decide +kernel
theorem dX3_count_103 : decode cX3_count 103 = .ok (.invokevirtual 259, 3) := by decide +kernel
theorem dX3_count_106 : decode cX3_count 106 = .ok (.ireturn, 1) := by decide +kernel
theorem dX3_count_107 : decode cX3_count 107 = .ok (.aload_n 2, 1) := by decide +kernel
theorem dX3_count_108 : decode cX3_count 108 = .ok (.aload_n 0, 1) := by decide +kernel
theorem dX3_count_109 : decode cX3_count 109 = .ok (.getfield 29, 3) := by decide +kernel
theorem dX3_count_112 : decode cX3_count 112 = .ok (.invokevirtual 185, 3) := by decide +kernel
theorem dX3_count_115 : decode cX3_count 115 = .ok (.invokestatic 188, 3) := by decide +kernel
theorem dX3_count_118 : decode cX3_count 118 = .ok (.ireturn, 1) := by decide +kernel
theorem dX3_count_119 : decode cX3_count 119 = .ok (.aload_n 2, 1) := by decide +kernel
theorem dX3_count_120 : decode cX3_count 120 = .ok (.aload_n 0, 1) := by decide +kernel
theorem dX3_count_121 : decode cX3_count 121 = .ok (.getfield 29, 3) := by decide +kernel
theorem dX3_count_124 : decode cX3_count 124 = .ok (.invokevirtual 262, 3) := by decide +kernel
theorem dX3_count_127 : decode cX3_count 127 = .ok (.ireturn, 1) := by decide +kernel
theorem dX3_count_128 : decode cX3_count 128 = .ok (.aload_n 0, 1) := by decide +kernel
theorem dX3_count_129 : decode cX3_count 129 = .ok (.getfield 14, 3) := by decide +kernel
theorem dX3_count_132 : decode cX3_count 132 = .ok (.invokestatic 265, 3) := by decide +kernel
theorem dX3_count_135 : decode cX3_count 135 = .ok (.ireturn, 1) := by decide +kernel
theorem dX3_count_136 : decode cX3_count 136 = .ok (.aload_n 0, 1) := by decide +kernel
theorem dX3_count_137 : decode cX3_count 137 = .ok (.getfield 23, 3) := by decide +kernel
theorem dX3_count_140 : decode cX3_count 140 = .ok (.invokestatic 265, 3) := by decide +kernel
theorem dX3_count_143 : decode cX3_count 143 = .ok (.ireturn, 1) := by decide +kernel
theorem dX3_count_144 : decode cX3_count 144 = .ok (.aload_n 0, 1) := by decide +kernel
theorem dX3_count_145 : decode cX3_count 145 = .ok (.invokevirtual 269, 3) := by decide +kernel
theorem dX3_count_148 : decode cX3_count 148 = .ok (.ireturn, 1) := by decide +kernel
theorem dX3_count_149 : decode cX3_count 149 = .ok (.aload_n 0, 1) := by decide +kernel
theorem dX3_count_150 : decode cX3_count 150 = .ok (.getfield 29, 3) := by decide +kernel
theorem dX3_count_153 : decode cX3_count 153 = .ok (.iconst 1, 1) := by decide +kernel
theorem dX3_count_154 : decode cX3_count 154 = .ok (.invokevirtual 273, 3) := by decide +kernel
theorem dX3_count_157 : decode cX3_count 157 = .ok (.ireturn, 1) := by decide +kernel
theorem dX3_count_158 : decode cX3_count 158 = .ok (.aload_n 0, 1) := by decide +kernel
theorem dX3_count_159 : decode cX3_count 159 = .ok (.getfield 29, 3) := by decide +kernel
theorem dX3_count_162 : decode cX3_count 162 = .ok (.iconst 2, 1) := by decide +kernel
theorem dX3_count_163 : decode cX3_count 163 = .ok (.invokevirtual 273, 3) := by decide +kernel
theorem dX3_count_166 : decode cX3_count 166 = .ok (.ireturn, 1) := by decide +kernel
theorem dX3_count_167 : decode cX3_count 167 = .ok (.iconst (-1), 1) := by decide +kernel
theorem dX3_count_168 : decode cX3_count 168 = .ok (.ireturn, 1) := by decide +kernel
theorem dX3_finding_0 : decode cX3_finding 0 = .ok (.aload_n 0, 1) := by decide +kernel
theorem dX3_finding_1 : decode cX3_finding 1 = .ok (.getfield 276, 3) := by decide +kernel
theorem dX3_finding_4 : decode cX3_finding 4 = .ok (.ireturn, 1) := by decide +kernel
theorem dX3_findings_0 : decode cX3_findings 0 = .ok (.iload_n 1, 1) := by decide +kernel
theorem dX3_findings_1 : decode cX3_findings 1 = .ok (.iconst 1, 1) := by decide +kernel
theorem dX3_findings_2 : decode cX3_findings 2 = .ok (.if_icmp .lt 8, 3) := by decide +kernel
theorem dX3_findings_5 : decode cX3_findings 5 = .ok (.iload_n 1, 1) := by decide +kernel
theorem dX3_findings_6 : decode cX3_findings 6 = .ok (.iconst 5, 1) := by decide +kernel
theorem dX3_findings_7 : decode cX3_findings 7 = .ok (.if_icmp .le 5, 3) := by decide +kernel
theorem dX3_findings_10 : decode cX3_findings 10 = .ok (.iconst (-1), 1) := by decide +kernel
theorem dX3_findings_11 : decode cX3_findings 11 = .ok (.ireturn, 1) := by decide +kernel
theorem dX3_findings_12 : decode cX3_findings 12 = .ok (.aload_n 0, 1) := by decide +kernel
theorem dX3_findings_13 : decode cX3_findings 13 = .ok (.getfield 58, 3) := by decide +kernel
theorem dX3_findings_16 : decode cX3_findings 16 = .ok (.iload_n 1, 1) := by decide +kernel
theorem dX3_findings_17 : decode cX3_findings 17 = .ok (.iaload, 1) := by decide +kernel
theorem dX3_findings_18 : decode cX3_findings 18 = .ok (.ireturn, 1) := by decide +kernel
set_option maxRecDepth 20000 in
theorem ggX3_digest_X3_count : GoodIn wsX3_digest wsX3_count := goodIn_r _ [11, 12, 3, 4, 13, 6, 14, 15, 16, 17, 18, 19, 20, 21, 22, 23, 24, 25, 26, 27, 28, 29, 30, 31, 32, 33, 34, 35, 36, 37, 38, 39, 40, 41, 42, 10, 43, 44, 45, 46, 47, 48, 49, 50, 51, 52, 53, 54, 55, 56, 57, 58, 59, 60, 61, 62, 63, 64, 65, 66, 67, 68, 69, 70, 71, 72, 73, 5, 74, 75, 76, 77, 78, 79, 80, 102, 103, 104, 105, 106, 107, 108, 109, 110, 111, 112, 113, 114, 115, 116, 117, 118, 119, 122, 123, 124, 120, 121] (by decide +kernel) (by decide +kernel)
set_option maxRecDepth 20000 in
theorem gX3_digest_X3_count : GoodIn wsX3_digest (wsV RX3 283 RX3 yX3_count wsX3_count) := goodIn_app (goodIn_of _ (by decide +kernel)) ggX3_digest_X3_count
set_option maxRecDepth 20000 in
theorem ggX3_digest_X3_ofHouse : GoodIn wsX3_digest wsX3_ofHouse := goodIn_r _ [84, 12, 3, 85, 86, 87, 88, 17, 18, 19, 20, 21, 22, 23, 89, 60, 61, 27, 62, 63, 30, 64, 65, 10, 66, 44, 45, 46, 47, 90, 42, 43, 91, 36, 37, 38, 39, 40, 41, 102, 103, 104, 105, 106, 107, 108, 109, 110, 111, 112, 113, 114, 115, 116, 117, 118, 119, 122, 123, 124, 120, 121] (by decide +kernel) (by decide +kernel)
set_option maxRecDepth 20000 in
theorem gX3_digest_X3_ofHouse : GoodIn wsX3_digest (wsV RX3 122 RX3 yX3_ofHouse wsX3_ofHouse) := goodIn_app (goodIn_of _ (by decide +kernel)) ggX3_digest_X3_ofHouse
set_option maxRecDepth 20000 in
theorem ggX3_digest_X3_digestRows : GoodIn wsX3_digest wsX3_digestRows := goodIn_r _ [95, 2, 15, 96, 102, 103, 104, 105, 106, 107, 108, 109, 110, 111, 112, 113, 114, 115] (by decide +kernel) (by decide +kernel)
set_option maxRecDepth 20000 in
theorem gX3_digest_X3_digestRows : GoodIn wsX3_digest (wsV RX3 286 RX3 yX3_digestRows wsX3_digestRows) := goodIn_app (goodIn_of _ (by decide +kernel)) ggX3_digest_X3_digestRows
set_option maxRecDepth 20000 in
theorem ggX3_digest_X3_digestTexts : GoodIn wsX3_digest wsX3_digestTexts := goodIn_r _ [100, 2, 16, 101, 102, 103, 104, 105, 106, 107, 108, 109, 110, 111, 112, 113, 114, 115] (by decide +kernel) (by decide +kernel)
set_option maxRecDepth 20000 in
theorem gX3_digest_X3_digestTexts : GoodIn wsX3_digest (wsV RX3 290 RX3 yX3_digestTexts wsX3_digestTexts) := goodIn_app (goodIn_of _ (by decide +kernel)) ggX3_digest_X3_digestTexts
theorem dX3_digest_0 : decode cX3_digest 0 = .ok (.ldc2_w 279, 3) := by decide +kernel
theorem dX3_digest_3 : decode cX3_digest 3 = .ok (.lstore_n 1, 1) := by decide +kernel
theorem dX3_digest_4 : decode cX3_digest 4 = .ok (.iconst 0, 1) := by decide +kernel
theorem dX3_digest_5 : decode cX3_digest 5 = .ok (.istore_n 3, 1) := by decide +kernel
theorem dX3_digest_6 : decode cX3_digest 6 = .ok (.iload_n 3, 1) := by decide +kernel
theorem dX3_digest_7 : decode cX3_digest 7 = .ok (.bipush 12, 2) := by decide +kernel
theorem dX3_digest_9 : decode cX3_digest 9 = .ok (.if_icmp .ge 22, 3) := by decide +kernel
theorem dX3_digest_12 : decode cX3_digest 12 = .ok (.ldc2_w 281, 3) := by decide +kernel
theorem dX3_digest_15 : decode cX3_digest 15 = .ok (.lload_n 1, 1) := by decide +kernel
theorem dX3_digest_16 : decode cX3_digest 16 = .ok (.lmul, 1) := by decide +kernel
theorem dX3_digest_17 : decode cX3_digest 17 = .ok (.aload_n 0, 1) := by decide +kernel
theorem dX3_digest_18 : decode cX3_digest 18 = .ok (.iload_n 3, 1) := by decide +kernel
theorem dX3_digest_19 : decode cX3_digest 19 = .ok (.invokevirtual 283, 3) := by decide +kernel
theorem dX3_digest_22 : decode cX3_digest 22 = .ok (.i2l, 1) := by decide +kernel
theorem dX3_digest_23 : decode cX3_digest 23 = .ok (.ladd, 1) := by decide +kernel
theorem dX3_digest_24 : decode cX3_digest 24 = .ok (.lstore_n 1, 1) := by decide +kernel
theorem dX3_digest_25 : decode cX3_digest 25 = .ok (.iinc 3 1, 3) := by decide +kernel
theorem dX3_digest_28 : decode cX3_digest 28 = .ok (.goto (-22), 3) := by decide +kernel
theorem dX3_digest_31 : decode cX3_digest 31 = .ok (.iconst 0, 1) := by decide +kernel
theorem dX3_digest_32 : decode cX3_digest 32 = .ok (.istore_n 3, 1) := by decide +kernel
theorem dX3_digest_33 : decode cX3_digest 33 = .ok (.iload_n 3, 1) := by decide +kernel
theorem dX3_digest_34 : decode cX3_digest 34 = .ok (.aload_n 0, 1) := by decide +kernel
theorem dX3_digest_35 : decode cX3_digest 35 = .ok (.getfield 29, 3) := by decide +kernel
theorem dX3_digest_38 : decode cX3_digest 38 = .ok (.getfield 116, 3) := by decide +kernel
theorem dX3_digest_41 : decode cX3_digest 41 = .ok (.if_icmp .ge 40, 3) := by decide +kernel
theorem dX3_digest_44 : decode cX3_digest 44 = .ok (.iconst 0, 1) := by decide +kernel
theorem dX3_digest_45 : decode cX3_digest 45 = .ok (.istore 4, 2) := by decide +kernel
theorem dX3_digest_47 : decode cX3_digest 47 = .ok (.iload 4, 2) := by decide +kernel
theorem dX3_digest_49 : decode cX3_digest 49 = .ok (.bipush 7, 2) := by decide +kernel
theorem dX3_digest_51 : decode cX3_digest 51 = .ok (.if_icmp .ge 24, 3) := by decide +kernel
theorem dX3_digest_54 : decode cX3_digest 54 = .ok (.ldc2_w 281, 3) := by decide +kernel
theorem dX3_digest_57 : decode cX3_digest 57 = .ok (.lload_n 1, 1) := by decide +kernel
theorem dX3_digest_58 : decode cX3_digest 58 = .ok (.lmul, 1) := by decide +kernel
theorem dX3_digest_59 : decode cX3_digest 59 = .ok (.aload_n 0, 1) := by decide +kernel
theorem dX3_digest_60 : decode cX3_digest 60 = .ok (.iload_n 3, 1) := by decide +kernel
theorem dX3_digest_61 : decode cX3_digest 61 = .ok (.iload 4, 2) := by decide +kernel
theorem dX3_digest_63 : decode cX3_digest 63 = .ok (.invokevirtual 122, 3) := by decide +kernel
theorem dX3_digest_66 : decode cX3_digest 66 = .ok (.i2l, 1) := by decide +kernel
theorem dX3_digest_67 : decode cX3_digest 67 = .ok (.ladd, 1) := by decide +kernel
theorem dX3_digest_68 : decode cX3_digest 68 = .ok (.lstore_n 1, 1) := by decide +kernel
theorem dX3_digest_69 : decode cX3_digest 69 = .ok (.iinc 4 1, 3) := by decide +kernel
theorem dX3_digest_72 : decode cX3_digest 72 = .ok (.goto (-25), 3) := by decide +kernel
theorem dX3_digest_75 : decode cX3_digest 75 = .ok (.iinc 3 1, 3) := by decide +kernel
theorem dX3_digest_78 : decode cX3_digest 78 = .ok (.goto (-45), 3) := by decide +kernel
theorem dX3_digest_81 : decode cX3_digest 81 = .ok (.iconst 0, 1) := by decide +kernel
theorem dX3_digest_82 : decode cX3_digest 82 = .ok (.istore_n 3, 1) := by decide +kernel
theorem dX3_digest_83 : decode cX3_digest 83 = .ok (.iload_n 3, 1) := by decide +kernel
theorem dX3_digest_84 : decode cX3_digest 84 = .ok (.iconst 3, 1) := by decide +kernel
theorem dX3_digest_85 : decode cX3_digest 85 = .ok (.if_icmp .ge 26, 3) := by decide +kernel
theorem dX3_digest_88 : decode cX3_digest 88 = .ok (.ldc2_w 281, 3) := by decide +kernel
theorem dX3_digest_91 : decode cX3_digest 91 = .ok (.lload_n 1, 1) := by decide +kernel
theorem dX3_digest_92 : decode cX3_digest 92 = .ok (.lmul, 1) := by decide +kernel
theorem dX3_digest_93 : decode cX3_digest 93 = .ok (.aload_n 0, 1) := by decide +kernel
theorem dX3_digest_94 : decode cX3_digest 94 = .ok (.getfield 40, 3) := by decide +kernel
theorem dX3_digest_97 : decode cX3_digest 97 = .ok (.iload_n 3, 1) := by decide +kernel
theorem dX3_digest_98 : decode cX3_digest 98 = .ok (.aaload, 1) := by decide +kernel
theorem dX3_digest_99 : decode cX3_digest 99 = .ok (.getfield 67, 3) := by decide +kernel
theorem dX3_digest_102 : decode cX3_digest 102 = .ok (.i2l, 1) := by decide +kernel
theorem dX3_digest_103 : decode cX3_digest 103 = .ok (.ladd, 1) := by decide +kernel
theorem dX3_digest_104 : decode cX3_digest 104 = .ok (.lstore_n 1, 1) := by decide +kernel
theorem dX3_digest_105 : decode cX3_digest 105 = .ok (.iinc 3 1, 3) := by decide +kernel
theorem dX3_digest_108 : decode cX3_digest 108 = .ok (.goto (-25), 3) := by decide +kernel
theorem dX3_digest_111 : decode cX3_digest 111 = .ok (.aload_n 0, 1) := by decide +kernel
theorem dX3_digest_112 : decode cX3_digest 112 = .ok (.aload_n 0, 1) := by decide +kernel
theorem dX3_digest_113 : decode cX3_digest 113 = .ok (.lload_n 1, 1) := by decide +kernel
theorem dX3_digest_114 : decode cX3_digest 114 = .ok (.invokevirtual 286, 3) := by decide +kernel
theorem dX3_digest_117 : decode cX3_digest 117 = .ok (.invokevirtual 290, 3) := by decide +kernel
theorem dX3_digest_120 : decode cX3_digest 120 = .ok (.lreturn, 1) := by decide +kernel
theorem dX3_digestRows_0 : decode cX3_digestRows 0 = .ok (.lload_n 1, 1) := by decide +kernel
theorem dX3_digestRows_1 : decode cX3_digestRows 1 = .ok (.lstore_n 3, 1) := by decide +kernel
theorem dX3_digestRows_2 : decode cX3_digestRows 2 = .ok (.iconst 0, 1) := by decide +kernel
theorem dX3_digestRows_3 : decode cX3_digestRows 3 = .ok (.istore 5, 2) := by decide +kernel
theorem dX3_digestRows_5 : decode cX3_digestRows 5 = .ok (.iload 5, 2) := by decide +kernel
theorem dX3_digestRows_7 : decode cX3_digestRows 7 = .ok (.bipush 6, 2) := by decide +kernel
theorem dX3_digestRows_9 : decode cX3_digestRows 9 = .ok (.if_icmp .ge 63, 3) := by decide +kernel
theorem dX3_digestRows_12 : decode cX3_digestRows 12 = .ok (.ldc2_w 281, 3) := by decide +kernel
theorem dX3_digestRows_15 : decode cX3_digestRows 15 = .ok (.lload_n 3, 1) := by decide +kernel
theorem dX3_digestRows_16 : decode cX3_digestRows 16 = .ok (.lmul, 1) := by decide +kernel
theorem dX3_digestRows_17 : decode cX3_digestRows 17 = .ok (.aload_n 0, 1) := by decide +kernel
theorem dX3_digestRows_18 : decode cX3_digestRows 18 = .ok (.getfield 14, 3) := by decide +kernel
theorem dX3_digestRows_21 : decode cX3_digestRows 21 = .ok (.iload 5, 2) := by decide +kernel
theorem dX3_digestRows_23 : decode cX3_digestRows 23 = .ok (.iaload, 1) := by decide +kernel
theorem dX3_digestRows_24 : decode cX3_digestRows 24 = .ok (.i2l, 1) := by decide +kernel
theorem dX3_digestRows_25 : decode cX3_digestRows 25 = .ok (.ladd, 1) := by decide +kernel
theorem dX3_digestRows_26 : decode cX3_digestRows 26 = .ok (.lstore_n 3, 1) := by decide +kernel
theorem dX3_digestRows_27 : decode cX3_digestRows 27 = .ok (.iconst 0, 1) := by decide +kernel
theorem dX3_digestRows_28 : decode cX3_digestRows 28 = .ok (.istore 6, 2) := by decide +kernel
theorem dX3_digestRows_30 : decode cX3_digestRows 30 = .ok (.iload 6, 2) := by decide +kernel
theorem dX3_digestRows_32 : decode cX3_digestRows 32 = .ok (.aload_n 0, 1) := by decide +kernel
theorem dX3_digestRows_33 : decode cX3_digestRows 33 = .ok (.getfield 14, 3) := by decide +kernel
theorem dX3_digestRows_36 : decode cX3_digestRows 36 = .ok (.iload 5, 2) := by decide +kernel
theorem dX3_digestRows_38 : decode cX3_digestRows 38 = .ok (.iaload, 1) := by decide +kernel
theorem dX3_digestRows_39 : decode cX3_digestRows 39 = .ok (.if_icmp .ge 27, 3) := by decide +kernel
theorem dX3_digestRows_42 : decode cX3_digestRows 42 = .ok (.ldc2_w 281, 3) := by decide +kernel
theorem dX3_digestRows_45 : decode cX3_digestRows 45 = .ok (.lload_n 3, 1) := by decide +kernel
theorem dX3_digestRows_46 : decode cX3_digestRows 46 = .ok (.lmul, 1) := by decide +kernel
theorem dX3_digestRows_47 : decode cX3_digestRows 47 = .ok (.aload_n 0, 1) := by decide +kernel
theorem dX3_digestRows_48 : decode cX3_digestRows 48 = .ok (.getfield 11, 3) := by decide +kernel
theorem dX3_digestRows_51 : decode cX3_digestRows 51 = .ok (.iload 5, 2) := by decide +kernel
theorem dX3_digestRows_53 : decode cX3_digestRows 53 = .ok (.aaload, 1) := by decide +kernel
theorem dX3_digestRows_54 : decode cX3_digestRows 54 = .ok (.iload 6, 2) := by decide +kernel
theorem dX3_digestRows_56 : decode cX3_digestRows 56 = .ok (.iaload, 1) := by decide +kernel
theorem dX3_digestRows_57 : decode cX3_digestRows 57 = .ok (.i2l, 1) := by decide +kernel
theorem dX3_digestRows_58 : decode cX3_digestRows 58 = .ok (.ladd, 1) := by decide +kernel
theorem dX3_digestRows_59 : decode cX3_digestRows 59 = .ok (.lstore_n 3, 1) := by decide +kernel
theorem dX3_digestRows_60 : decode cX3_digestRows 60 = .ok (.iinc 6 1, 3) := by decide +kernel
theorem dX3_digestRows_63 : decode cX3_digestRows 63 = .ok (.goto (-33), 3) := by decide +kernel
theorem dX3_digestRows_66 : decode cX3_digestRows 66 = .ok (.iinc 5 1, 3) := by decide +kernel
theorem dX3_digestRows_69 : decode cX3_digestRows 69 = .ok (.goto (-64), 3) := by decide +kernel
theorem dX3_digestRows_72 : decode cX3_digestRows 72 = .ok (.lload_n 3, 1) := by decide +kernel
theorem dX3_digestRows_73 : decode cX3_digestRows 73 = .ok (.lreturn, 1) := by decide +kernel
theorem dX3_digestTexts_0 : decode cX3_digestTexts 0 = .ok (.lload_n 1, 1) := by decide +kernel
theorem dX3_digestTexts_1 : decode cX3_digestTexts 1 = .ok (.lstore_n 3, 1) := by decide +kernel
theorem dX3_digestTexts_2 : decode cX3_digestTexts 2 = .ok (.iconst 0, 1) := by decide +kernel
theorem dX3_digestTexts_3 : decode cX3_digestTexts 3 = .ok (.istore 5, 2) := by decide +kernel
theorem dX3_digestTexts_5 : decode cX3_digestTexts 5 = .ok (.iload 5, 2) := by decide +kernel
theorem dX3_digestTexts_7 : decode cX3_digestTexts 7 = .ok (.iconst 4, 1) := by decide +kernel
theorem dX3_digestTexts_8 : decode cX3_digestTexts 8 = .ok (.if_icmp .ge 63, 3) := by decide +kernel
theorem dX3_digestTexts_11 : decode cX3_digestTexts 11 = .ok (.ldc2_w 281, 3) := by decide +kernel
theorem dX3_digestTexts_14 : decode cX3_digestTexts 14 = .ok (.lload_n 3, 1) := by decide +kernel
theorem dX3_digestTexts_15 : decode cX3_digestTexts 15 = .ok (.lmul, 1) := by decide +kernel
theorem dX3_digestTexts_16 : decode cX3_digestTexts 16 = .ok (.aload_n 0, 1) := by decide +kernel
theorem dX3_digestTexts_17 : decode cX3_digestTexts 17 = .ok (.getfield 23, 3) := by decide +kernel
theorem dX3_digestTexts_20 : decode cX3_digestTexts 20 = .ok (.iload 5, 2) := by decide +kernel
theorem dX3_digestTexts_22 : decode cX3_digestTexts 22 = .ok (.iaload, 1) := by decide +kernel
theorem dX3_digestTexts_23 : decode cX3_digestTexts 23 = .ok (.i2l, 1) := by decide +kernel
theorem dX3_digestTexts_24 : decode cX3_digestTexts 24 = .ok (.ladd, 1) := by decide +kernel
theorem dX3_digestTexts_25 : decode cX3_digestTexts 25 = .ok (.lstore_n 3, 1) := by decide +kernel
theorem dX3_digestTexts_26 : decode cX3_digestTexts 26 = .ok (.iconst 0, 1) := by decide +kernel
theorem dX3_digestTexts_27 : decode cX3_digestTexts 27 = .ok (.istore 6, 2) := by decide +kernel
theorem dX3_digestTexts_29 : decode cX3_digestTexts 29 = .ok (.iload 6, 2) := by decide +kernel
theorem dX3_digestTexts_31 : decode cX3_digestTexts 31 = .ok (.aload_n 0, 1) := by decide +kernel
theorem dX3_digestTexts_32 : decode cX3_digestTexts 32 = .ok (.getfield 23, 3) := by decide +kernel
theorem dX3_digestTexts_35 : decode cX3_digestTexts 35 = .ok (.iload 5, 2) := by decide +kernel
theorem dX3_digestTexts_37 : decode cX3_digestTexts 37 = .ok (.iaload, 1) := by decide +kernel
theorem dX3_digestTexts_38 : decode cX3_digestTexts 38 = .ok (.if_icmp .ge 27, 3) := by decide +kernel
theorem dX3_digestTexts_41 : decode cX3_digestTexts 41 = .ok (.ldc2_w 281, 3) := by decide +kernel
theorem dX3_digestTexts_44 : decode cX3_digestTexts 44 = .ok (.lload_n 3, 1) := by decide +kernel
theorem dX3_digestTexts_45 : decode cX3_digestTexts 45 = .ok (.lmul, 1) := by decide +kernel
theorem dX3_digestTexts_46 : decode cX3_digestTexts 46 = .ok (.aload_n 0, 1) := by decide +kernel
theorem dX3_digestTexts_47 : decode cX3_digestTexts 47 = .ok (.getfield 20, 3) := by decide +kernel
theorem dX3_digestTexts_50 : decode cX3_digestTexts 50 = .ok (.iload 5, 2) := by decide +kernel
theorem dX3_digestTexts_52 : decode cX3_digestTexts 52 = .ok (.aaload, 1) := by decide +kernel
theorem dX3_digestTexts_53 : decode cX3_digestTexts 53 = .ok (.iload 6, 2) := by decide +kernel
theorem dX3_digestTexts_55 : decode cX3_digestTexts 55 = .ok (.baload, 1) := by decide +kernel
theorem dX3_digestTexts_56 : decode cX3_digestTexts 56 = .ok (.i2l, 1) := by decide +kernel
theorem dX3_digestTexts_57 : decode cX3_digestTexts 57 = .ok (.ladd, 1) := by decide +kernel
theorem dX3_digestTexts_58 : decode cX3_digestTexts 58 = .ok (.lstore_n 3, 1) := by decide +kernel
theorem dX3_digestTexts_59 : decode cX3_digestTexts 59 = .ok (.iinc 6 1, 3) := by decide +kernel
theorem dX3_digestTexts_62 : decode cX3_digestTexts 62 = .ok (.goto (-33), 3) := by decide +kernel
theorem dX3_digestTexts_65 : decode cX3_digestTexts 65 = .ok (.iinc 5 1, 3) := by decide +kernel
theorem dX3_digestTexts_68 : decode cX3_digestTexts 68 = .ok (.goto (-63), 3) := by decide +kernel
theorem dX3_digestTexts_71 : decode cX3_digestTexts 71 = .ok (.lload_n 3, 1) := by decide +kernel
theorem dX3_digestTexts_72 : decode cX3_digestTexts 72 = .ok (.lreturn, 1) := by decide +kernel
theorem dX3_foundThat_0 : decode cX3_foundThat 0 = .ok (.aload_n 0, 1) := by decide +kernel
theorem dX3_foundThat_1 : decode cX3_foundThat 1 = .ok (.iload_n 1, 1) := by decide +kernel
theorem dX3_foundThat_2 : decode cX3_foundThat 2 = .ok (.putfield 276, 3) := by decide +kernel
theorem dX3_foundThat_5 : decode cX3_foundThat 5 = .ok (.aload_n 0, 1) := by decide +kernel
theorem dX3_foundThat_6 : decode cX3_foundThat 6 = .ok (.getfield 58, 3) := by decide +kernel
theorem dX3_foundThat_9 : decode cX3_foundThat 9 = .ok (.iload_n 1, 1) := by decide +kernel
theorem dX3_foundThat_10 : decode cX3_foundThat 10 = .ok (.dup2, 1) := by decide +kernel
theorem dX3_foundThat_11 : decode cX3_foundThat 11 = .ok (.iaload, 1) := by decide +kernel
theorem dX3_foundThat_12 : decode cX3_foundThat 12 = .ok (.iconst 1, 1) := by decide +kernel
theorem dX3_foundThat_13 : decode cX3_foundThat 13 = .ok (.iadd, 1) := by decide +kernel
theorem dX3_foundThat_14 : decode cX3_foundThat 14 = .ok (.iastore, 1) := by decide +kernel
theorem dX3_foundThat_15 : decode cX3_foundThat 15 = .ok (.bipush (-3), 2) := by decide +kernel
theorem dX3_foundThat_17 : decode cX3_foundThat 17 = .ok (.ireturn, 1) := by decide +kernel
set_option maxRecDepth 20000 in
theorem ggX3_rowRefusal_X3_isRow : GoodIn wsX3_rowRefusal wsX3_isRow := goodIn_r _ [5] (by decide +kernel) (by decide +kernel)
set_option maxRecDepth 20000 in
theorem gX3_rowRefusal_X3_isRow : GoodIn wsX3_rowRefusal (va_wsS RX3 71 yX3_isRow wsX3_isRow) := goodIn_app (goodIn_of _ (by decide +kernel)) ggX3_rowRefusal_X3_isRow
set_option maxRecDepth 20000 in
theorem ggX3_rowRefusal_X3_foundThat : GoodIn wsX3_rowRefusal wsX3_foundThat := goodIn_r _ [9, 10, 11, 12, 13, 14, 15, 16, 17, 18, 19, 20, 21, 22, 23, 24, 25] (by decide +kernel) (by decide +kernel)
set_option maxRecDepth 20000 in
theorem gX3_rowRefusal_X3_foundThat : GoodIn wsX3_rowRefusal (wsV RX3 75 RX3 yX3_foundThat wsX3_foundThat) := goodIn_app (goodIn_of _ (by decide +kernel)) ggX3_rowRefusal_X3_foundThat
theorem dX3_rowRefusal_0 : decode cX3_rowRefusal 0 = .ok (.iload_n 1, 1) := by decide +kernel
theorem dX3_rowRefusal_1 : decode cX3_rowRefusal 1 = .ok (.invokestatic 71, 3) := by decide +kernel
theorem dX3_rowRefusal_4 : decode cX3_rowRefusal 4 = .ok (.ifCond .ne 5, 3) := by decide +kernel
theorem dX3_rowRefusal_7 : decode cX3_rowRefusal 7 = .ok (.iconst (-1), 1) := by decide +kernel
theorem dX3_rowRefusal_8 : decode cX3_rowRefusal 8 = .ok (.ireturn, 1) := by decide +kernel
theorem dX3_rowRefusal_9 : decode cX3_rowRefusal 9 = .ok (.aload_n 0, 1) := by decide +kernel
theorem dX3_rowRefusal_10 : decode cX3_rowRefusal 10 = .ok (.getfield 14, 3) := by decide +kernel
theorem dX3_rowRefusal_13 : decode cX3_rowRefusal 13 = .ok (.iload_n 1, 1) := by decide +kernel
theorem dX3_rowRefusal_14 : decode cX3_rowRefusal 14 = .ok (.iaload, 1) := by decide +kernel
theorem dX3_rowRefusal_15 : decode cX3_rowRefusal 15 = .ok (.iconst (-1), 1) := by decide +kernel
theorem dX3_rowRefusal_16 : decode cX3_rowRefusal 16 = .ok (.if_icmp .ne 11, 3) := by decide +kernel
theorem dX3_rowRefusal_19 : decode cX3_rowRefusal 19 = .ok (.aload_n 0, 1) := by decide +kernel
theorem dX3_rowRefusal_20 : decode cX3_rowRefusal 20 = .ok (.iconst 1, 1) := by decide +kernel
theorem dX3_rowRefusal_21 : decode cX3_rowRefusal 21 = .ok (.invokevirtual 75, 3) := by decide +kernel
theorem dX3_rowRefusal_24 : decode cX3_rowRefusal 24 = .ok (.goto 4, 3) := by decide +kernel
theorem dX3_rowRefusal_27 : decode cX3_rowRefusal 27 = .ok (.iconst 0, 1) := by decide +kernel
theorem dX3_rowRefusal_28 : decode cX3_rowRefusal 28 = .ok (.ireturn, 1) := by decide +kernel
set_option maxRecDepth 20000 in
theorem ggX3_placeRefusal_X3_rowRefusal : GoodIn wsX3_placeRefusal wsX3_rowRefusal := goodIn_r _ [6, 1, 7, 8, 5, 9, 10, 11, 12, 13, 14, 15, 16, 17, 18, 19, 20, 21, 22, 23, 24, 25, 26, 27, 28, 29] (by decide +kernel) (by decide +kernel)
set_option maxRecDepth 20000 in
theorem gX3_placeRefusal_X3_rowRefusal : GoodIn wsX3_placeRefusal (wsV RX3 86 RX3 yX3_rowRefusal wsX3_rowRefusal) := goodIn_app (goodIn_of _ (by decide +kernel)) ggX3_placeRefusal_X3_rowRefusal
set_option maxRecDepth 20000 in
theorem ggX3_placeRefusal_X3_foundThat : GoodIn wsX3_placeRefusal wsX3_foundThat := goodIn_r _ [13, 14, 15, 16, 17, 18, 19, 20, 21, 22, 23, 24, 25, 26, 27, 28, 29] (by decide +kernel) (by decide +kernel)
set_option maxRecDepth 20000 in
theorem gX3_placeRefusal_X3_foundThat : GoodIn wsX3_placeRefusal (wsV RX3 75 RX3 yX3_foundThat wsX3_foundThat) := goodIn_app (goodIn_of _ (by decide +kernel)) ggX3_placeRefusal_X3_foundThat
theorem dX3_placeRefusal_0 : decode cX3_placeRefusal 0 = .ok (.aload_n 0, 1) := by decide +kernel
theorem dX3_placeRefusal_1 : decode cX3_placeRefusal 1 = .ok (.iload_n 1, 1) := by decide +kernel
theorem dX3_placeRefusal_2 : decode cX3_placeRefusal 2 = .ok (.invokevirtual 86, 3) := by decide +kernel
theorem dX3_placeRefusal_5 : decode cX3_placeRefusal 5 = .ok (.istore_n 3, 1) := by decide +kernel
theorem dX3_placeRefusal_6 : decode cX3_placeRefusal 6 = .ok (.iload_n 3, 1) := by decide +kernel
theorem dX3_placeRefusal_7 : decode cX3_placeRefusal 7 = .ok (.ifCond .eq 5, 3) := by decide +kernel
theorem dX3_placeRefusal_10 : decode cX3_placeRefusal 10 = .ok (.iload_n 3, 1) := by decide +kernel
theorem dX3_placeRefusal_11 : decode cX3_placeRefusal 11 = .ok (.ireturn, 1) := by decide +kernel
theorem dX3_placeRefusal_12 : decode cX3_placeRefusal 12 = .ok (.iload_n 2, 1) := by decide +kernel
theorem dX3_placeRefusal_13 : decode cX3_placeRefusal 13 = .ok (.ifCond .lt 13, 3) := by decide +kernel
theorem dX3_placeRefusal_16 : decode cX3_placeRefusal 16 = .ok (.iload_n 2, 1) := by decide +kernel
theorem dX3_placeRefusal_17 : decode cX3_placeRefusal 17 = .ok (.aload_n 0, 1) := by decide +kernel
theorem dX3_placeRefusal_18 : decode cX3_placeRefusal 18 = .ok (.getfield 14, 3) := by decide +kernel
theorem dX3_placeRefusal_21 : decode cX3_placeRefusal 21 = .ok (.iload_n 1, 1) := by decide +kernel
theorem dX3_placeRefusal_22 : decode cX3_placeRefusal 22 = .ok (.iaload, 1) := by decide +kernel
theorem dX3_placeRefusal_23 : decode cX3_placeRefusal 23 = .ok (.if_icmp .lt 11, 3) := by decide +kernel
theorem dX3_placeRefusal_26 : decode cX3_placeRefusal 26 = .ok (.aload_n 0, 1) := by decide +kernel
theorem dX3_placeRefusal_27 : decode cX3_placeRefusal 27 = .ok (.iconst 2, 1) := by decide +kernel
theorem dX3_placeRefusal_28 : decode cX3_placeRefusal 28 = .ok (.invokevirtual 75, 3) := by decide +kernel
theorem dX3_placeRefusal_31 : decode cX3_placeRefusal 31 = .ok (.goto 4, 3) := by decide +kernel
theorem dX3_placeRefusal_34 : decode cX3_placeRefusal 34 = .ok (.iconst 0, 1) := by decide +kernel
theorem dX3_placeRefusal_35 : decode cX3_placeRefusal 35 = .ok (.ireturn, 1) := by decide +kernel
set_option maxRecDepth 20000 in
theorem ggX3_textRefusal_X3_isText : GoodIn wsX3_textRefusal wsX3_isText := goodIn_r _ [5] (by decide +kernel) (by decide +kernel)
set_option maxRecDepth 20000 in
theorem gX3_textRefusal_X3_isText : GoodIn wsX3_textRefusal (va_wsS RX3 99 yX3_isText wsX3_isText) := goodIn_app (goodIn_of _ (by decide +kernel)) ggX3_textRefusal_X3_isText
set_option maxRecDepth 20000 in
theorem ggX3_textRefusal_X3_foundThat : GoodIn wsX3_textRefusal wsX3_foundThat := goodIn_r _ [9, 10, 11, 12, 13, 14, 15, 16, 17, 18, 19, 20, 21, 22, 23, 24, 25] (by decide +kernel) (by decide +kernel)
set_option maxRecDepth 20000 in
theorem gX3_textRefusal_X3_foundThat : GoodIn wsX3_textRefusal (wsV RX3 75 RX3 yX3_foundThat wsX3_foundThat) := goodIn_app (goodIn_of _ (by decide +kernel)) ggX3_textRefusal_X3_foundThat
theorem dX3_textRefusal_0 : decode cX3_textRefusal 0 = .ok (.iload_n 1, 1) := by decide +kernel
theorem dX3_textRefusal_1 : decode cX3_textRefusal 1 = .ok (.invokestatic 99, 3) := by decide +kernel
theorem dX3_textRefusal_4 : decode cX3_textRefusal 4 = .ok (.ifCond .ne 5, 3) := by decide +kernel
theorem dX3_textRefusal_7 : decode cX3_textRefusal 7 = .ok (.iconst (-1), 1) := by decide +kernel
theorem dX3_textRefusal_8 : decode cX3_textRefusal 8 = .ok (.ireturn, 1) := by decide +kernel
theorem dX3_textRefusal_9 : decode cX3_textRefusal 9 = .ok (.aload_n 0, 1) := by decide +kernel
theorem dX3_textRefusal_10 : decode cX3_textRefusal 10 = .ok (.getfield 23, 3) := by decide +kernel
theorem dX3_textRefusal_13 : decode cX3_textRefusal 13 = .ok (.iload_n 1, 1) := by decide +kernel
theorem dX3_textRefusal_14 : decode cX3_textRefusal 14 = .ok (.iaload, 1) := by decide +kernel
theorem dX3_textRefusal_15 : decode cX3_textRefusal 15 = .ok (.iconst (-1), 1) := by decide +kernel
theorem dX3_textRefusal_16 : decode cX3_textRefusal 16 = .ok (.if_icmp .ne 11, 3) := by decide +kernel
theorem dX3_textRefusal_19 : decode cX3_textRefusal 19 = .ok (.aload_n 0, 1) := by decide +kernel
theorem dX3_textRefusal_20 : decode cX3_textRefusal 20 = .ok (.iconst 1, 1) := by decide +kernel
theorem dX3_textRefusal_21 : decode cX3_textRefusal 21 = .ok (.invokevirtual 75, 3) := by decide +kernel
theorem dX3_textRefusal_24 : decode cX3_textRefusal 24 = .ok (.goto 4, 3) := by decide +kernel
theorem dX3_textRefusal_27 : decode cX3_textRefusal 27 = .ok (.iconst 0, 1) := by decide +kernel
theorem dX3_textRefusal_28 : decode cX3_textRefusal 28 = .ok (.ireturn, 1) := by decide +kernel
set_option maxRecDepth 20000 in
theorem ggX3_pairsRefusal_X3_isHouse : GoodIn wsX3_pairsRefusal wsX3_isHouse := goodIn_r _ [7, 8, 9, 23, 24, 25, 26, 27, 28, 29, 30, 31, 32, 33, 34, 35, 36, 37, 38, 39, 40] (by decide +kernel) (by decide +kernel)
set_option maxRecDepth 20000 in
theorem gX3_pairsRefusal_X3_isHouse : GoodIn wsX3_pairsRefusal (wsV RX3 119 RX3 yX3_isHouse wsX3_isHouse) := goodIn_app (goodIn_of _ (by decide +kernel)) ggX3_pairsRefusal_X3_isHouse
set_option maxRecDepth 20000 in
theorem ggX3_pairsRefusal_X3_rowRefusal : GoodIn wsX3_pairsRefusal wsX3_rowRefusal := goodIn_r _ [13, 1, 14, 15, 6, 16, 17, 18, 19, 20, 21, 22, 23, 24, 25, 26, 27, 28, 29, 30, 31, 32, 33, 34, 35, 36] (by decide +kernel) (by decide +kernel)
set_option maxRecDepth 20000 in
theorem gX3_pairsRefusal_X3_rowRefusal : GoodIn wsX3_pairsRefusal (wsV RX3 86 RX3 yX3_rowRefusal wsX3_rowRefusal) := goodIn_app (goodIn_of _ (by decide +kernel)) ggX3_pairsRefusal_X3_rowRefusal
set_option maxRecDepth 20000 in
theorem ggX3_pairsRefusal_X3_foundThat : GoodIn wsX3_pairsRefusal wsX3_foundThat := goodIn_r _ [20, 21, 22, 23, 24, 25, 26, 27, 28, 29, 30, 31, 32, 33, 34, 35, 36] (by decide +kernel) (by decide +kernel)
set_option maxRecDepth 20000 in
theorem gX3_pairsRefusal_X3_foundThat : GoodIn wsX3_pairsRefusal (wsV RX3 75 RX3 yX3_foundThat wsX3_foundThat) := goodIn_app (goodIn_of _ (by decide +kernel)) ggX3_pairsRefusal_X3_foundThat
theorem dX3_pairsRefusal_0 : decode cX3_pairsRefusal 0 = .ok (.aload_n 0, 1) := by decide +kernel
theorem dX3_pairsRefusal_1 : decode cX3_pairsRefusal 1 = .ok (.iload_n 1, 1) := by decide +kernel
theorem dX3_pairsRefusal_2 : decode cX3_pairsRefusal 2 = .ok (.invokevirtual 119, 3) := by decide +kernel
theorem dX3_pairsRefusal_5 : decode cX3_pairsRefusal 5 = .ok (.ifCond .ne 5, 3) := by decide +kernel
theorem dX3_pairsRefusal_8 : decode cX3_pairsRefusal 8 = .ok (.iconst (-1), 1) := by decide +kernel
theorem dX3_pairsRefusal_9 : decode cX3_pairsRefusal 9 = .ok (.ireturn, 1) := by decide +kernel
theorem dX3_pairsRefusal_10 : decode cX3_pairsRefusal 10 = .ok (.aload_n 0, 1) := by decide +kernel
theorem dX3_pairsRefusal_11 : decode cX3_pairsRefusal 11 = .ok (.iload_n 2, 1) := by decide +kernel
theorem dX3_pairsRefusal_12 : decode cX3_pairsRefusal 12 = .ok (.invokevirtual 86, 3) := by decide +kernel
theorem dX3_pairsRefusal_15 : decode cX3_pairsRefusal 15 = .ok (.istore_n 3, 1) := by decide +kernel
theorem dX3_pairsRefusal_16 : decode cX3_pairsRefusal 16 = .ok (.iload_n 3, 1) := by decide +kernel
theorem dX3_pairsRefusal_17 : decode cX3_pairsRefusal 17 = .ok (.ifCond .eq 5, 3) := by decide +kernel
theorem dX3_pairsRefusal_20 : decode cX3_pairsRefusal 20 = .ok (.iload_n 3, 1) := by decide +kernel
theorem dX3_pairsRefusal_21 : decode cX3_pairsRefusal 21 = .ok (.ireturn, 1) := by decide +kernel
theorem dX3_pairsRefusal_22 : decode cX3_pairsRefusal 22 = .ok (.aload_n 0, 1) := by decide +kernel
theorem dX3_pairsRefusal_23 : decode cX3_pairsRefusal 23 = .ok (.getfield 14, 3) := by decide +kernel
theorem dX3_pairsRefusal_26 : decode cX3_pairsRefusal 26 = .ok (.iload_n 2, 1) := by decide +kernel
theorem dX3_pairsRefusal_27 : decode cX3_pairsRefusal 27 = .ok (.iaload, 1) := by decide +kernel
theorem dX3_pairsRefusal_28 : decode cX3_pairsRefusal 28 = .ok (.iconst 2, 1) := by decide +kernel
theorem dX3_pairsRefusal_29 : decode cX3_pairsRefusal 29 = .ok (.irem, 1) := by decide +kernel
theorem dX3_pairsRefusal_30 : decode cX3_pairsRefusal 30 = .ok (.ifCond .eq 9, 3) := by decide +kernel
theorem dX3_pairsRefusal_33 : decode cX3_pairsRefusal 33 = .ok (.aload_n 0, 1) := by decide +kernel
theorem dX3_pairsRefusal_34 : decode cX3_pairsRefusal 34 = .ok (.iconst 5, 1) := by decide +kernel
theorem dX3_pairsRefusal_35 : decode cX3_pairsRefusal 35 = .ok (.invokevirtual 75, 3) := by decide +kernel
theorem dX3_pairsRefusal_38 : decode cX3_pairsRefusal 38 = .ok (.ireturn, 1) := by decide +kernel
theorem dX3_pairsRefusal_39 : decode cX3_pairsRefusal 39 = .ok (.iconst 0, 1) := by decide +kernel
theorem dX3_pairsRefusal_40 : decode cX3_pairsRefusal 40 = .ok (.istore 4, 2) := by decide +kernel
theorem dX3_pairsRefusal_42 : decode cX3_pairsRefusal 42 = .ok (.iload 4, 2) := by decide +kernel
theorem dX3_pairsRefusal_44 : decode cX3_pairsRefusal 44 = .ok (.aload_n 0, 1) := by decide +kernel
theorem dX3_pairsRefusal_45 : decode cX3_pairsRefusal 45 = .ok (.getfield 14, 3) := by decide +kernel
theorem dX3_pairsRefusal_48 : decode cX3_pairsRefusal 48 = .ok (.iload_n 2, 1) := by decide +kernel
theorem dX3_pairsRefusal_49 : decode cX3_pairsRefusal 49 = .ok (.iaload, 1) := by decide +kernel
theorem dX3_pairsRefusal_50 : decode cX3_pairsRefusal 50 = .ok (.if_icmp .ge 58, 3) := by decide +kernel
theorem dX3_pairsRefusal_53 : decode cX3_pairsRefusal 53 = .ok (.iload 4, 2) := by decide +kernel
theorem dX3_pairsRefusal_55 : decode cX3_pairsRefusal 55 = .ok (.iconst 2, 1) := by decide +kernel
theorem dX3_pairsRefusal_56 : decode cX3_pairsRefusal 56 = .ok (.irem, 1) := by decide +kernel
theorem dX3_pairsRefusal_57 : decode cX3_pairsRefusal 57 = .ok (.ifCond .ne 8, 3) := by decide +kernel
theorem dX3_pairsRefusal_60 : decode cX3_pairsRefusal 60 = .ok (.bipush 99, 2) := by decide +kernel
theorem dX3_pairsRefusal_62 : decode cX3_pairsRefusal 62 = .ok (.goto 6, 3) := by decide +kernel
theorem dX3_pairsRefusal_65 : decode cX3_pairsRefusal 65 = .ok (.sipush 300, 3) := by decide +kernel
theorem dX3_pairsRefusal_68 : decode cX3_pairsRefusal 68 = .ok (.istore 5, 2) := by decide +kernel
theorem dX3_pairsRefusal_70 : decode cX3_pairsRefusal 70 = .ok (.aload_n 0, 1) := by decide +kernel
theorem dX3_pairsRefusal_71 : decode cX3_pairsRefusal 71 = .ok (.getfield 11, 3) := by decide +kernel
theorem dX3_pairsRefusal_74 : decode cX3_pairsRefusal 74 = .ok (.iload_n 2, 1) := by decide +kernel
theorem dX3_pairsRefusal_75 : decode cX3_pairsRefusal 75 = .ok (.aaload, 1) := by decide +kernel
theorem dX3_pairsRefusal_76 : decode cX3_pairsRefusal 76 = .ok (.iload 4, 2) := by decide +kernel
theorem dX3_pairsRefusal_78 : decode cX3_pairsRefusal 78 = .ok (.iaload, 1) := by decide +kernel
theorem dX3_pairsRefusal_79 : decode cX3_pairsRefusal 79 = .ok (.ifCond .lt 17, 3) := by decide +kernel
theorem dX3_pairsRefusal_82 : decode cX3_pairsRefusal 82 = .ok (.aload_n 0, 1) := by decide +kernel
theorem dX3_pairsRefusal_83 : decode cX3_pairsRefusal 83 = .ok (.getfield 11, 3) := by decide +kernel
theorem dX3_pairsRefusal_86 : decode cX3_pairsRefusal 86 = .ok (.iload_n 2, 1) := by decide +kernel
theorem dX3_pairsRefusal_87 : decode cX3_pairsRefusal 87 = .ok (.aaload, 1) := by decide +kernel
theorem dX3_pairsRefusal_88 : decode cX3_pairsRefusal 88 = .ok (.iload 4, 2) := by decide +kernel
theorem dX3_pairsRefusal_90 : decode cX3_pairsRefusal 90 = .ok (.iaload, 1) := by decide +kernel
theorem dX3_pairsRefusal_91 : decode cX3_pairsRefusal 91 = .ok (.iload 5, 2) := by decide +kernel
theorem dX3_pairsRefusal_93 : decode cX3_pairsRefusal 93 = .ok (.if_icmp .le 9, 3) := by decide +kernel
theorem dX3_pairsRefusal_96 : decode cX3_pairsRefusal 96 = .ok (.aload_n 0, 1) := by decide +kernel
theorem dX3_pairsRefusal_97 : decode cX3_pairsRefusal 97 = .ok (.iconst 3, 1) := by decide +kernel
theorem dX3_pairsRefusal_98 : decode cX3_pairsRefusal 98 = .ok (.invokevirtual 75, 3) := by decide +kernel
theorem dX3_pairsRefusal_101 : decode cX3_pairsRefusal 101 = .ok (.ireturn, 1) := by decide +kernel
theorem dX3_pairsRefusal_102 : decode cX3_pairsRefusal 102 = .ok (.iinc 4 1, 3) := by decide +kernel
theorem dX3_pairsRefusal_105 : decode cX3_pairsRefusal 105 = .ok (.goto (-63), 3) := by decide +kernel
theorem dX3_pairsRefusal_108 : decode cX3_pairsRefusal 108 = .ok (.iconst 0, 1) := by decide +kernel
theorem dX3_pairsRefusal_109 : decode cX3_pairsRefusal 109 = .ok (.ireturn, 1) := by decide +kernel
theorem dX3_isRow_0 : decode cX3_isRow 0 = .ok (.iload_n 0, 1) := by decide +kernel
theorem dX3_isRow_1 : decode cX3_isRow 1 = .ok (.ifCond .lt 13, 3) := by decide +kernel
theorem dX3_isRow_4 : decode cX3_isRow 4 = .ok (.iload_n 0, 1) := by decide +kernel
theorem dX3_isRow_5 : decode cX3_isRow 5 = .ok (.bipush 6, 2) := by decide +kernel
theorem dX3_isRow_7 : decode cX3_isRow 7 = .ok (.if_icmp .ge 7, 3) := by decide +kernel
theorem dX3_isRow_10 : decode cX3_isRow 10 = .ok (.iconst 1, 1) := by decide +kernel
theorem dX3_isRow_11 : decode cX3_isRow 11 = .ok (.goto 4, 3) := by decide +kernel
theorem dX3_isRow_14 : decode cX3_isRow 14 = .ok (.iconst 0, 1) := by decide +kernel
theorem dX3_isRow_15 : decode cX3_isRow 15 = .ok (.ireturn, 1) := by decide +kernel
theorem dX3_isText_0 : decode cX3_isText 0 = .ok (.iload_n 0, 1) := by decide +kernel
theorem dX3_isText_1 : decode cX3_isText 1 = .ok (.ifCond .lt 12, 3) := by decide +kernel
theorem dX3_isText_4 : decode cX3_isText 4 = .ok (.iload_n 0, 1) := by decide +kernel
theorem dX3_isText_5 : decode cX3_isText 5 = .ok (.iconst 4, 1) := by decide +kernel
theorem dX3_isText_6 : decode cX3_isText 6 = .ok (.if_icmp .ge 7, 3) := by decide +kernel
theorem dX3_isText_9 : decode cX3_isText 9 = .ok (.iconst 1, 1) := by decide +kernel
theorem dX3_isText_10 : decode cX3_isText 10 = .ok (.goto 4, 3) := by decide +kernel
theorem dX3_isText_13 : decode cX3_isText 13 = .ok (.iconst 0, 1) := by decide +kernel
theorem dX3_isText_14 : decode cX3_isText 14 = .ok (.ireturn, 1) := by decide +kernel
theorem dX3_isHouse_0 : decode cX3_isHouse 0 = .ok (.iload_n 1, 1) := by decide +kernel
theorem dX3_isHouse_1 : decode cX3_isHouse 1 = .ok (.ifCond .lt 18, 3) := by decide +kernel
theorem dX3_isHouse_4 : decode cX3_isHouse 4 = .ok (.iload_n 1, 1) := by decide +kernel
theorem dX3_isHouse_5 : decode cX3_isHouse 5 = .ok (.aload_n 0, 1) := by decide +kernel
theorem dX3_isHouse_6 : decode cX3_isHouse 6 = .ok (.getfield 29, 3) := by decide +kernel
theorem dX3_isHouse_9 : decode cX3_isHouse 9 = .ok (.getfield 116, 3) := by decide +kernel
theorem dX3_isHouse_12 : decode cX3_isHouse 12 = .ok (.if_icmp .ge 7, 3) := by decide +kernel
theorem dX3_isHouse_15 : decode cX3_isHouse 15 = .ok (.iconst 1, 1) := by decide +kernel
theorem dX3_isHouse_16 : decode cX3_isHouse 16 = .ok (.goto 4, 3) := by decide +kernel
theorem dX3_isHouse_19 : decode cX3_isHouse 19 = .ok (.iconst 0, 1) := by decide +kernel
theorem dX3_isHouse_20 : decode cX3_isHouse 20 = .ok (.ireturn, 1) := by decide +kernel
theorem dX3_isCup_0 : decode cX3_isCup 0 = .ok (.iload_n 0, 1) := by decide +kernel
theorem dX3_isCup_1 : decode cX3_isCup 1 = .ok (.iconst 1, 1) := by decide +kernel
theorem dX3_isCup_2 : decode cX3_isCup 2 = .ok (.if_icmp .lt 13, 3) := by decide +kernel
theorem dX3_isCup_5 : decode cX3_isCup 5 = .ok (.iload_n 0, 1) := by decide +kernel
theorem dX3_isCup_6 : decode cX3_isCup 6 = .ok (.bipush 99, 2) := by decide +kernel
theorem dX3_isCup_8 : decode cX3_isCup 8 = .ok (.if_icmp .gt 7, 3) := by decide +kernel
theorem dX3_isCup_11 : decode cX3_isCup 11 = .ok (.iconst 1, 1) := by decide +kernel
theorem dX3_isCup_12 : decode cX3_isCup 12 = .ok (.goto 4, 3) := by decide +kernel
theorem dX3_isCup_15 : decode cX3_isCup 15 = .ok (.iconst 0, 1) := by decide +kernel
theorem dX3_isCup_16 : decode cX3_isCup 16 = .ok (.ireturn, 1) := by decide +kernel
theorem dX3_isKeeping_0 : decode cX3_isKeeping 0 = .ok (.iload_n 0, 1) := by decide +kernel
theorem dX3_isKeeping_1 : decode cX3_isKeeping 1 = .ok (.ifCond .lt 12, 3) := by decide +kernel
theorem dX3_isKeeping_4 : decode cX3_isKeeping 4 = .ok (.iload_n 0, 1) := by decide +kernel
theorem dX3_isKeeping_5 : decode cX3_isKeeping 5 = .ok (.iconst 3, 1) := by decide +kernel
theorem dX3_isKeeping_6 : decode cX3_isKeeping 6 = .ok (.if_icmp .ge 7, 3) := by decide +kernel
theorem dX3_isKeeping_9 : decode cX3_isKeeping 9 = .ok (.iconst 1, 1) := by decide +kernel
theorem dX3_isKeeping_10 : decode cX3_isKeeping 10 = .ok (.goto 4, 3) := by decide +kernel
theorem dX3_isKeeping_13 : decode cX3_isKeeping 13 = .ok (.iconst 0, 1) := by decide +kernel
theorem dX3_isKeeping_14 : decode cX3_isKeeping 14 = .ok (.ireturn, 1) := by decide +kernel
theorem dX3_isTwelfths_0 : decode cX3_isTwelfths 0 = .ok (.iload_n 0, 1) := by decide +kernel
theorem dX3_isTwelfths_1 : decode cX3_isTwelfths 1 = .ok (.ifCond .lt 13, 3) := by decide +kernel
theorem dX3_isTwelfths_4 : decode cX3_isTwelfths 4 = .ok (.iload_n 0, 1) := by decide +kernel
theorem dX3_isTwelfths_5 : decode cX3_isTwelfths 5 = .ok (.bipush 12, 2) := by decide +kernel
theorem dX3_isTwelfths_7 : decode cX3_isTwelfths 7 = .ok (.if_icmp .gt 7, 3) := by decide +kernel
theorem dX3_isTwelfths_10 : decode cX3_isTwelfths 10 = .ok (.iconst 1, 1) := by decide +kernel
theorem dX3_isTwelfths_11 : decode cX3_isTwelfths 11 = .ok (.goto 4, 3) := by decide +kernel
theorem dX3_isTwelfths_14 : decode cX3_isTwelfths 14 = .ok (.iconst 0, 1) := by decide +kernel
theorem dX3_isTwelfths_15 : decode cX3_isTwelfths 15 = .ok (.ireturn, 1) := by decide +kernel
theorem dX3_reaches_0 : decode cX3_reaches 0 = .ok (.iload_n 1, 1) := by decide +kernel
theorem dX3_reaches_1 : decode cX3_reaches 1 = .ok (.ifCond .lt 14, 3) := by decide +kernel
theorem dX3_reaches_4 : decode cX3_reaches 4 = .ok (.iload_n 1, 1) := by decide +kernel
theorem dX3_reaches_5 : decode cX3_reaches 5 = .ok (.iload_n 0, 1) := by decide +kernel
theorem dX3_reaches_6 : decode cX3_reaches 6 = .ok (.iload_n 2, 1) := by decide +kernel
theorem dX3_reaches_7 : decode cX3_reaches 7 = .ok (.isub, 1) := by decide +kernel
theorem dX3_reaches_8 : decode cX3_reaches 8 = .ok (.if_icmp .gt 7, 3) := by decide +kernel
theorem dX3_reaches_11 : decode cX3_reaches 11 = .ok (.iconst 1, 1) := by decide +kernel
theorem dX3_reaches_12 : decode cX3_reaches 12 = .ok (.goto 4, 3) := by decide +kernel
theorem dX3_reaches_15 : decode cX3_reaches 15 = .ok (.iconst 0, 1) := by decide +kernel
theorem dX3_reaches_16 : decode cX3_reaches 16 = .ok (.ireturn, 1) := by decide +kernel
theorem dX3_tellLeast_0 : decode cX3_tellLeast 0 = .ok (.iload_n 1, 1) := by decide +kernel
theorem dX3_tellLeast_1 : decode cX3_tellLeast 1 = .ok (.ifCond .ne 6, 3) := by decide +kernel
theorem dX3_tellLeast_4 : decode cX3_tellLeast 4 = .ok (.bipush (-9), 2) := by decide +kernel
theorem dX3_tellLeast_6 : decode cX3_tellLeast 6 = .ok (.ireturn, 1) := by decide +kernel
theorem dX3_tellLeast_7 : decode cX3_tellLeast 7 = .ok (.aload_n 0, 1) := by decide +kernel
theorem dX3_tellLeast_8 : decode cX3_tellLeast 8 = .ok (.iload_n 2, 1) := by decide +kernel
theorem dX3_tellLeast_9 : decode cX3_tellLeast 9 = .ok (.putfield 83, 3) := by decide +kernel
theorem dX3_tellLeast_12 : decode cX3_tellLeast 12 = .ok (.iload_n 1, 1) := by decide +kernel
theorem dX3_tellLeast_13 : decode cX3_tellLeast 13 = .ok (.ireturn, 1) := by decide +kernel
set_option maxRecDepth 20000 in
theorem ggX3_tellChance_X3_greatestCommon : GoodIn wsX3_tellChance wsX3_greatestCommon := goodIn_r _ [6] (by decide +kernel) (by decide +kernel)
set_option maxRecDepth 20000 in
theorem gX3_tellChance_X3_greatestCommon : GoodIn wsX3_tellChance (va_wsS RX3 293 yX3_greatestCommon wsX3_greatestCommon) := goodIn_app (goodIn_of _ (by decide +kernel)) ggX3_tellChance_X3_greatestCommon
theorem dX3_tellChance_0 : decode cX3_tellChance 0 = .ok (.lload_n 1, 1) := by decide +kernel
theorem dX3_tellChance_1 : decode cX3_tellChance 1 = .ok (.lload_n 3, 1) := by decide +kernel
theorem dX3_tellChance_2 : decode cX3_tellChance 2 = .ok (.invokestatic 293, 3) := by decide +kernel
theorem dX3_tellChance_5 : decode cX3_tellChance 5 = .ok (.lstore 5, 2) := by decide +kernel
theorem dX3_tellChance_7 : decode cX3_tellChance 7 = .ok (.lload 5, 2) := by decide +kernel
theorem dX3_tellChance_9 : decode cX3_tellChance 9 = .ok (.lconst 0, 1) := by decide +kernel
theorem dX3_tellChance_10 : decode cX3_tellChance 10 = .ok (.lcmp, 1) := by decide +kernel
theorem dX3_tellChance_11 : decode cX3_tellChance 11 = .ok (.ifCond .ne 6, 3) := by decide +kernel
theorem dX3_tellChance_14 : decode cX3_tellChance 14 = .ok (.bipush (-9), 2) := by decide +kernel
theorem dX3_tellChance_16 : decode cX3_tellChance 16 = .ok (.ireturn, 1) := by decide +kernel
theorem dX3_tellChance_17 : decode cX3_tellChance 17 = .ok (.aload_n 0, 1) := by decide +kernel
theorem dX3_tellChance_18 : decode cX3_tellChance 18 = .ok (.lload_n 1, 1) := by decide +kernel
theorem dX3_tellChance_19 : decode cX3_tellChance 19 = .ok (.lload 5, 2) := by decide +kernel
theorem dX3_tellChance_21 : decode cX3_tellChance 21 = .ok (.ldiv, 1) := by decide +kernel
theorem dX3_tellChance_22 : decode cX3_tellChance 22 = .ok (.putfield 256, 3) := by decide +kernel
theorem dX3_tellChance_25 : decode cX3_tellChance 25 = .ok (.aload_n 0, 1) := by decide +kernel
theorem dX3_tellChance_26 : decode cX3_tellChance 26 = .ok (.lload_n 3, 1) := by decide +kernel
theorem dX3_tellChance_27 : decode cX3_tellChance 27 = .ok (.lload 5, 2) := by decide +kernel
theorem dX3_tellChance_29 : decode cX3_tellChance 29 = .ok (.ldiv, 1) := by decide +kernel
theorem dX3_tellChance_30 : decode cX3_tellChance 30 = .ok (.putfield 54, 3) := by decide +kernel
theorem dX3_tellChance_33 : decode cX3_tellChance 33 = .ok (.iconst 1, 1) := by decide +kernel
theorem dX3_tellChance_34 : decode cX3_tellChance 34 = .ok (.ireturn, 1) := by decide +kernel
theorem dX3_greatestCommon_0 : decode cX3_greatestCommon 0 = .ok (.lload_n 0, 1) := by decide +kernel
theorem dX3_greatestCommon_1 : decode cX3_greatestCommon 1 = .ok (.lstore 4, 2) := by decide +kernel
theorem dX3_greatestCommon_3 : decode cX3_greatestCommon 3 = .ok (.lload_n 2, 1) := by decide +kernel
theorem dX3_greatestCommon_4 : decode cX3_greatestCommon 4 = .ok (.lstore 6, 2) := by decide +kernel
theorem dX3_greatestCommon_6 : decode cX3_greatestCommon 6 = .ok (.iconst 0, 1) := by decide +kernel
theorem dX3_greatestCommon_7 : decode cX3_greatestCommon 7 = .ok (.istore 8, 2) := by decide +kernel
theorem dX3_greatestCommon_9 : decode cX3_greatestCommon 9 = .ok (.iload 8, 2) := by decide +kernel
theorem dX3_greatestCommon_11 : decode cX3_greatestCommon 11 = .ok (.bipush 100, 2) := by decide +kernel
theorem dX3_greatestCommon_13 : decode cX3_greatestCommon 13 = .ok (.if_icmp .ge 31, 3) := by decide +kernel
theorem dX3_greatestCommon_16 : decode cX3_greatestCommon 16 = .ok (.lload 6, 2) := by decide +kernel
theorem dX3_greatestCommon_18 : decode cX3_greatestCommon 18 = .ok (.lconst 0, 1) := by decide +kernel
theorem dX3_greatestCommon_19 : decode cX3_greatestCommon 19 = .ok (.lcmp, 1) := by decide +kernel
theorem dX3_greatestCommon_20 : decode cX3_greatestCommon 20 = .ok (.ifCond .eq 24, 3) := by decide +kernel
theorem dX3_greatestCommon_23 : decode cX3_greatestCommon 23 = .ok (.lload 4, 2) := by decide +kernel
theorem dX3_greatestCommon_25 : decode cX3_greatestCommon 25 = .ok (.lload 6, 2) := by decide +kernel
theorem dX3_greatestCommon_27 : decode cX3_greatestCommon 27 = .ok (.lrem, 1) := by decide +kernel
theorem dX3_greatestCommon_28 : decode cX3_greatestCommon 28 = .ok (.lstore 9, 2) := by decide +kernel
theorem dX3_greatestCommon_30 : decode cX3_greatestCommon 30 = .ok (.lload 6, 2) := by decide +kernel
theorem dX3_greatestCommon_32 : decode cX3_greatestCommon 32 = .ok (.lstore 4, 2) := by decide +kernel
theorem dX3_greatestCommon_34 : decode cX3_greatestCommon 34 = .ok (.lload 9, 2) := by decide +kernel
theorem dX3_greatestCommon_36 : decode cX3_greatestCommon 36 = .ok (.lstore 6, 2) := by decide +kernel
theorem dX3_greatestCommon_38 : decode cX3_greatestCommon 38 = .ok (.iinc 8 1, 3) := by decide +kernel
theorem dX3_greatestCommon_41 : decode cX3_greatestCommon 41 = .ok (.goto (-32), 3) := by decide +kernel
theorem dX3_greatestCommon_44 : decode cX3_greatestCommon 44 = .ok (.lload 4, 2) := by decide +kernel
theorem dX3_greatestCommon_46 : decode cX3_greatestCommon 46 = .ok (.lreturn, 1) := by decide +kernel
theorem dX3_thoseThere_0 : decode cX3_thoseThere 0 = .ok (.iconst 0, 1) := by decide +kernel
theorem dX3_thoseThere_1 : decode cX3_thoseThere 1 = .ok (.istore_n 1, 1) := by decide +kernel
theorem dX3_thoseThere_2 : decode cX3_thoseThere 2 = .ok (.iconst 0, 1) := by decide +kernel
theorem dX3_thoseThere_3 : decode cX3_thoseThere 3 = .ok (.istore_n 2, 1) := by decide +kernel
theorem dX3_thoseThere_4 : decode cX3_thoseThere 4 = .ok (.iload_n 2, 1) := by decide +kernel
theorem dX3_thoseThere_5 : decode cX3_thoseThere 5 = .ok (.aload_n 0, 1) := by decide +kernel
theorem dX3_thoseThere_6 : decode cX3_thoseThere 6 = .ok (.arraylength, 1) := by decide +kernel
theorem dX3_thoseThere_7 : decode cX3_thoseThere 7 = .ok (.if_icmp .ge 19, 3) := by decide +kernel
theorem dX3_thoseThere_10 : decode cX3_thoseThere 10 = .ok (.aload_n 0, 1) := by decide +kernel
theorem dX3_thoseThere_11 : decode cX3_thoseThere 11 = .ok (.iload_n 2, 1) := by decide +kernel
theorem dX3_thoseThere_12 : decode cX3_thoseThere 12 = .ok (.iaload, 1) := by decide +kernel
theorem dX3_thoseThere_13 : decode cX3_thoseThere 13 = .ok (.iconst (-1), 1) := by decide +kernel
theorem dX3_thoseThere_14 : decode cX3_thoseThere 14 = .ok (.if_icmp .eq 6, 3) := by decide +kernel
theorem dX3_thoseThere_17 : decode cX3_thoseThere 17 = .ok (.iinc 1 1, 3) := by decide +kernel
theorem dX3_thoseThere_20 : decode cX3_thoseThere 20 = .ok (.iinc 2 1, 3) := by decide +kernel
theorem dX3_thoseThere_23 : decode cX3_thoseThere 23 = .ok (.goto (-19), 3) := by decide +kernel
theorem dX3_thoseThere_26 : decode cX3_thoseThere 26 = .ok (.iload_n 1, 1) := by decide +kernel
theorem dX3_thoseThere_27 : decode cX3_thoseThere 27 = .ok (.ireturn, 1) := by decide +kernel
theorem dX3_keptThere_0 : decode cX3_keptThere 0 = .ok (.iconst 0, 1) := by decide +kernel
theorem dX3_keptThere_1 : decode cX3_keptThere 1 = .ok (.istore_n 1, 1) := by decide +kernel
theorem dX3_keptThere_2 : decode cX3_keptThere 2 = .ok (.iconst 0, 1) := by decide +kernel
theorem dX3_keptThere_3 : decode cX3_keptThere 3 = .ok (.istore_n 2, 1) := by decide +kernel
theorem dX3_keptThere_4 : decode cX3_keptThere 4 = .ok (.iload_n 2, 1) := by decide +kernel
theorem dX3_keptThere_5 : decode cX3_keptThere 5 = .ok (.iconst 3, 1) := by decide +kernel
theorem dX3_keptThere_6 : decode cX3_keptThere 6 = .ok (.if_icmp .ge 25, 3) := by decide +kernel
theorem dX3_keptThere_9 : decode cX3_keptThere 9 = .ok (.aload_n 0, 1) := by decide +kernel
theorem dX3_keptThere_10 : decode cX3_keptThere 10 = .ok (.getfield 40, 3) := by decide +kernel
theorem dX3_keptThere_13 : decode cX3_keptThere 13 = .ok (.iload_n 2, 1) := by decide +kernel
theorem dX3_keptThere_14 : decode cX3_keptThere 14 = .ok (.aaload, 1) := by decide +kernel
theorem dX3_keptThere_15 : decode cX3_keptThere 15 = .ok (.getfield 67, 3) := by decide +kernel
theorem dX3_keptThere_18 : decode cX3_keptThere 18 = .ok (.iconst (-1), 1) := by decide +kernel
theorem dX3_keptThere_19 : decode cX3_keptThere 19 = .ok (.if_icmp .eq 6, 3) := by decide +kernel
theorem dX3_keptThere_22 : decode cX3_keptThere 22 = .ok (.iinc 1 1, 3) := by decide +kernel
theorem dX3_keptThere_25 : decode cX3_keptThere 25 = .ok (.iinc 2 1, 3) := by decide +kernel
theorem dX3_keptThere_28 : decode cX3_keptThere 28 = .ok (.goto (-24), 3) := by decide +kernel
theorem dX3_keptThere_31 : decode cX3_keptThere 31 = .ok (.iload_n 1, 1) := by decide +kernel
theorem dX3_keptThere_32 : decode cX3_keptThere 32 = .ok (.ireturn, 1) := by decide +kernel
set_option maxRecDepth 20000 in
theorem ggX3_ofHouse_X2_now : GoodIn wsX3_ofHouse wsX2_now := goodIn_r _ [11, 12, 13, 60, 61] (by decide +kernel) (by decide +kernel)
set_option maxRecDepth 20000 in
theorem gX3_ofHouse_X2_now : GoodIn wsX3_ofHouse (wsV RX3 132 RX2 yX2_now wsX2_now) := goodIn_app (goodIn_of _ (by decide +kernel)) ggX3_ofHouse_X2_now
set_option maxRecDepth 20000 in
theorem ggX3_ofHouse_X1_bringsOf : GoodIn wsX3_ofHouse wsX1_bringsOf := goodIn_r _ [18, 19, 20, 21, 22, 23, 24, 25, 26, 27, 28, 53, 54, 55, 56, 57, 58, 59] (by decide +kernel) (by decide +kernel)
set_option maxRecDepth 20000 in
theorem gX3_ofHouse_X1_bringsOf : GoodIn wsX3_ofHouse (wsV RX3 303 RX1 yX1_bringsOf wsX1_bringsOf) := goodIn_app (goodIn_of _ (by decide +kernel)) ggX3_ofHouse_X1_bringsOf
set_option maxRecDepth 20000 in
theorem ggX3_ofHouse_X3_worthTo : GoodIn wsX3_ofHouse wsX3_worthTo := goodIn_r _ [31, 25, 26, 27, 28] (by decide +kernel) (by decide +kernel)
set_option maxRecDepth 20000 in
theorem gX3_ofHouse_X3_worthTo : GoodIn wsX3_ofHouse (va_wsS RX3 143 yX3_worthTo wsX3_worthTo) := goodIn_app (goodIn_of _ (by decide +kernel)) ggX3_ofHouse_X3_worthTo
set_option maxRecDepth 20000 in
theorem ggX3_ofHouse_X0_comesOff : GoodIn wsX3_ofHouse wsX0_comesOff := goodIn_r _ [36, 37, 38, 30, 23, 31, 25, 26, 27, 28, 53, 54, 55, 56] (by decide +kernel) (by decide +kernel)
set_option maxRecDepth 20000 in
theorem gX3_ofHouse_X0_comesOff : GoodIn wsX3_ofHouse (wsV RX3 199 RX0 yX0_comesOff wsX0_comesOff) := goodIn_app (goodIn_of _ (by decide +kernel)) ggX3_ofHouse_X0_comesOff
theorem dX3_ofHouse_0 : decode cX3_ofHouse 0 = .ok (.aload_n 0, 1) := by decide +kernel
theorem dX3_ofHouse_1 : decode cX3_ofHouse 1 = .ok (.getfield 36, 3) := by decide +kernel
theorem dX3_ofHouse_4 : decode cX3_ofHouse 4 = .ok (.invokevirtual 132, 3) := by decide +kernel
theorem dX3_ofHouse_7 : decode cX3_ofHouse 7 = .ok (.astore_n 3, 1) := by decide +kernel
theorem dX3_ofHouse_8 : decode cX3_ofHouse 8 = .ok (.iload_n 2, 1) := by decide +kernel
theorem dX3_ofHouse_9 : decode cX3_ofHouse 9 = .ok (.tableswitch 105 0 5 #[39, 49, 59, 69, 76, 86], 39) := by decide +kernel
theorem dX3_ofHouse_48 : decode cX3_ofHouse 48 = .ok (.aload_n 0, 1) := by decide +kernel
theorem dX3_ofHouse_49 : decode cX3_ofHouse 49 = .ok (.getfield 29, 3) := by decide +kernel
theorem dX3_ofHouse_52 : decode cX3_ofHouse 52 = .ok (.getfield 125, 3) := by decide +kernel
theorem dX3_ofHouse_55 : decode cX3_ofHouse 55 = .ok (.iload_n 1, 1) := by decide +kernel
theorem dX3_ofHouse_56 : decode cX3_ofHouse 56 = .ok (.iaload, 1) := by decide +kernel
theorem dX3_ofHouse_57 : decode cX3_ofHouse 57 = .ok (.ireturn, 1) := by decide +kernel
theorem dX3_ofHouse_58 : decode cX3_ofHouse 58 = .ok (.aload_n 0, 1) := by decide +kernel
theorem dX3_ofHouse_59 : decode cX3_ofHouse 59 = .ok (.getfield 29, 3) := by decide +kernel
theorem dX3_ofHouse_62 : decode cX3_ofHouse 62 = .ok (.getfield 297, 3) := by decide +kernel
theorem dX3_ofHouse_65 : decode cX3_ofHouse 65 = .ok (.iload_n 1, 1) := by decide +kernel
theorem dX3_ofHouse_66 : decode cX3_ofHouse 66 = .ok (.iaload, 1) := by decide +kernel
theorem dX3_ofHouse_67 : decode cX3_ofHouse 67 = .ok (.ireturn, 1) := by decide +kernel
theorem dX3_ofHouse_68 : decode cX3_ofHouse 68 = .ok (.aload_n 0, 1) := by decide +kernel
theorem dX3_ofHouse_69 : decode cX3_ofHouse 69 = .ok (.getfield 29, 3) := by decide +kernel
theorem dX3_ofHouse_72 : decode cX3_ofHouse 72 = .ok (.getfield 300, 3) := by decide +kernel
theorem dX3_ofHouse_75 : decode cX3_ofHouse 75 = .ok (.iload_n 1, 1) := by decide +kernel
theorem dX3_ofHouse_76 : decode cX3_ofHouse 76 = .ok (.iaload, 1) := by decide +kernel
theorem dX3_ofHouse_77 : decode cX3_ofHouse 77 = .ok (.ireturn, 1) := by decide +kernel
theorem dX3_ofHouse_78 : decode cX3_ofHouse 78 = .ok (.aload_n 3, 1) := by decide +kernel
theorem dX3_ofHouse_79 : decode cX3_ofHouse 79 = .ok (.getfield 136, 3) := by decide +kernel
theorem dX3_ofHouse_82 : decode cX3_ofHouse 82 = .ok (.iload_n 1, 1) := by decide +kernel
theorem dX3_ofHouse_83 : decode cX3_ofHouse 83 = .ok (.iaload, 1) := by decide +kernel
theorem dX3_ofHouse_84 : decode cX3_ofHouse 84 = .ok (.ireturn, 1) := by decide +kernel
theorem dX3_ofHouse_85 : decode cX3_ofHouse 85 = .ok (.aload_n 3, 1) := by decide +kernel
theorem dX3_ofHouse_86 : decode cX3_ofHouse 86 = .ok (.aload_n 0, 1) := by decide +kernel
theorem dX3_ofHouse_87 : decode cX3_ofHouse 87 = .ok (.getfield 29, 3) := by decide +kernel
theorem dX3_ofHouse_90 : decode cX3_ofHouse 90 = .ok (.iload_n 1, 1) := by decide +kernel
theorem dX3_ofHouse_91 : decode cX3_ofHouse 91 = .ok (.invokevirtual 303, 3) := by decide +kernel
theorem dX3_ofHouse_94 : decode cX3_ofHouse 94 = .ok (.ireturn, 1) := by decide +kernel
theorem dX3_ofHouse_95 : decode cX3_ofHouse 95 = .ok (.aload_n 0, 1) := by decide +kernel
theorem dX3_ofHouse_96 : decode cX3_ofHouse 96 = .ok (.getfield 29, 3) := by decide +kernel
theorem dX3_ofHouse_99 : decode cX3_ofHouse 99 = .ok (.getfield 125, 3) := by decide +kernel
theorem dX3_ofHouse_102 : decode cX3_ofHouse 102 = .ok (.iload_n 1, 1) := by decide +kernel
theorem dX3_ofHouse_103 : decode cX3_ofHouse 103 = .ok (.iaload, 1) := by decide +kernel
theorem dX3_ofHouse_104 : decode cX3_ofHouse 104 = .ok (.aload_n 3, 1) := by decide +kernel
theorem dX3_ofHouse_105 : decode cX3_ofHouse 105 = .ok (.getfield 136, 3) := by decide +kernel
theorem dX3_ofHouse_108 : decode cX3_ofHouse 108 = .ok (.iload_n 1, 1) := by decide +kernel
theorem dX3_ofHouse_109 : decode cX3_ofHouse 109 = .ok (.iaload, 1) := by decide +kernel
theorem dX3_ofHouse_110 : decode cX3_ofHouse 110 = .ok (.invokestatic 143, 3) := by decide +kernel
theorem dX3_ofHouse_113 : decode cX3_ofHouse 113 = .ok (.ireturn, 1) := by decide +kernel
theorem dX3_ofHouse_114 : decode cX3_ofHouse 114 = .ok (.aload_n 0, 1) := by decide +kernel
theorem dX3_ofHouse_115 : decode cX3_ofHouse 115 = .ok (.getfield 29, 3) := by decide +kernel
theorem dX3_ofHouse_118 : decode cX3_ofHouse 118 = .ok (.iload_n 1, 1) := by decide +kernel
theorem dX3_ofHouse_119 : decode cX3_ofHouse 119 = .ok (.aload_n 3, 1) := by decide +kernel
theorem dX3_ofHouse_120 : decode cX3_ofHouse 120 = .ok (.getfield 136, 3) := by decide +kernel
theorem dX3_ofHouse_123 : decode cX3_ofHouse 123 = .ok (.iload_n 1, 1) := by decide +kernel
theorem dX3_ofHouse_124 : decode cX3_ofHouse 124 = .ok (.iaload, 1) := by decide +kernel
theorem dX3_ofHouse_125 : decode cX3_ofHouse 125 = .ok (.invokevirtual 199, 3) := by decide +kernel
theorem dX3_ofHouse_128 : decode cX3_ofHouse 128 = .ok (.ifCond .eq 7, 3) := by decide +kernel
theorem dX3_ofHouse_131 : decode cX3_ofHouse 131 = .ok (.iconst 1, 1) := by decide +kernel
theorem dX3_ofHouse_132 : decode cX3_ofHouse 132 = .ok (.goto 4, 3) := by decide +kernel
theorem dX3_ofHouse_135 : decode cX3_ofHouse 135 = .ok (.iconst 0, 1) := by decide +kernel
theorem dX3_ofHouse_136 : decode cX3_ofHouse 136 = .ok (.ireturn, 1) := by decide +kernel
set_option maxRecDepth 20000 in
theorem ggX3_firstFault_X3_kindByLetter : GoodIn wsX3_firstFault wsX3_kindByLetter := goodIn_r _ [4, 5] (by decide +kernel) (by decide +kernel)
set_option maxRecDepth 20000 in
theorem gX3_firstFault_X3_kindByLetter : GoodIn wsX3_firstFault (va_wsS RX3 307 yX3_kindByLetter wsX3_kindByLetter) := goodIn_app (goodIn_of _ (by decide +kernel)) ggX3_firstFault_X3_kindByLetter
set_option maxRecDepth 20000 in
theorem ggX3_firstFault_X3_isFigure : GoodIn wsX3_firstFault wsX3_isFigure := goodIn_r _ [8] (by decide +kernel) (by decide +kernel)
set_option maxRecDepth 20000 in
theorem gX3_firstFault_X3_isFigure : GoodIn wsX3_firstFault (va_wsS RX3 311 yX3_isFigure wsX3_isFigure) := goodIn_app (goodIn_of _ (by decide +kernel)) ggX3_firstFault_X3_isFigure
theorem dX3_firstFault_0 : decode cX3_firstFault 0 = .ok (.iconst 0, 1) := by decide +kernel
theorem dX3_firstFault_1 : decode cX3_firstFault 1 = .ok (.istore_n 2, 1) := by decide +kernel
theorem dX3_firstFault_2 : decode cX3_firstFault 2 = .ok (.iconst 0, 1) := by decide +kernel
theorem dX3_firstFault_3 : decode cX3_firstFault 3 = .ok (.istore_n 3, 1) := by decide +kernel
theorem dX3_firstFault_4 : decode cX3_firstFault 4 = .ok (.iload_n 3, 1) := by decide +kernel
theorem dX3_firstFault_5 : decode cX3_firstFault 5 = .ok (.iload_n 1, 1) := by decide +kernel
theorem dX3_firstFault_6 : decode cX3_firstFault 6 = .ok (.if_icmp .ge 85, 3) := by decide +kernel
theorem dX3_firstFault_9 : decode cX3_firstFault 9 = .ok (.aload_n 0, 1) := by decide +kernel
theorem dX3_firstFault_10 : decode cX3_firstFault 10 = .ok (.iload_n 3, 1) := by decide +kernel
theorem dX3_firstFault_11 : decode cX3_firstFault 11 = .ok (.baload, 1) := by decide +kernel
theorem dX3_firstFault_12 : decode cX3_firstFault 12 = .ok (.bipush 32, 2) := by decide +kernel
theorem dX3_firstFault_14 : decode cX3_firstFault 14 = .ok (.if_icmp .ne 9, 3) := by decide +kernel
theorem dX3_firstFault_17 : decode cX3_firstFault 17 = .ok (.iinc 3 1, 3) := by decide +kernel
theorem dX3_firstFault_20 : decode cX3_firstFault 20 = .ok (.goto (-16), 3) := by decide +kernel
theorem dX3_firstFault_23 : decode cX3_firstFault 23 = .ok (.iload_n 2, 1) := by decide +kernel
theorem dX3_firstFault_24 : decode cX3_firstFault 24 = .ok (.bipush 7, 2) := by decide +kernel
theorem dX3_firstFault_26 : decode cX3_firstFault 26 = .ok (.if_icmp .eq 14, 3) := by decide +kernel
theorem dX3_firstFault_29 : decode cX3_firstFault 29 = .ok (.aload_n 0, 1) := by decide +kernel
theorem dX3_firstFault_30 : decode cX3_firstFault 30 = .ok (.iload_n 3, 1) := by decide +kernel
theorem dX3_firstFault_31 : decode cX3_firstFault 31 = .ok (.baload, 1) := by decide +kernel
theorem dX3_firstFault_32 : decode cX3_firstFault 32 = .ok (.invokestatic 307, 3) := by decide +kernel
theorem dX3_firstFault_35 : decode cX3_firstFault 35 = .ok (.bipush (-9), 2) := by decide +kernel
theorem dX3_firstFault_37 : decode cX3_firstFault 37 = .ok (.if_icmp .ne 5, 3) := by decide +kernel
theorem dX3_firstFault_40 : decode cX3_firstFault 40 = .ok (.iload_n 3, 1) := by decide +kernel
theorem dX3_firstFault_41 : decode cX3_firstFault 41 = .ok (.ireturn, 1) := by decide +kernel
theorem dX3_firstFault_42 : decode cX3_firstFault 42 = .ok (.iconst 1, 1) := by decide +kernel
theorem dX3_firstFault_43 : decode cX3_firstFault 43 = .ok (.istore 4, 2) := by decide +kernel
theorem dX3_firstFault_45 : decode cX3_firstFault 45 = .ok (.iload 4, 2) := by decide +kernel
theorem dX3_firstFault_47 : decode cX3_firstFault 47 = .ok (.iconst 5, 1) := by decide +kernel
theorem dX3_firstFault_48 : decode cX3_firstFault 48 = .ok (.if_icmp .ge 34, 3) := by decide +kernel
theorem dX3_firstFault_51 : decode cX3_firstFault 51 = .ok (.iload_n 3, 1) := by decide +kernel
theorem dX3_firstFault_52 : decode cX3_firstFault 52 = .ok (.iload 4, 2) := by decide +kernel
theorem dX3_firstFault_54 : decode cX3_firstFault 54 = .ok (.iadd, 1) := by decide +kernel
theorem dX3_firstFault_55 : decode cX3_firstFault 55 = .ok (.iload_n 1, 1) := by decide +kernel
theorem dX3_firstFault_56 : decode cX3_firstFault 56 = .ok (.if_icmp .ge 15, 3) := by decide +kernel
theorem dX3_firstFault_59 : decode cX3_firstFault 59 = .ok (.aload_n 0, 1) := by decide +kernel
theorem dX3_firstFault_60 : decode cX3_firstFault 60 = .ok (.iload_n 3, 1) := by decide +kernel
theorem dX3_firstFault_61 : decode cX3_firstFault 61 = .ok (.iload 4, 2) := by decide +kernel
theorem dX3_firstFault_63 : decode cX3_firstFault 63 = .ok (.iadd, 1) := by decide +kernel
theorem dX3_firstFault_64 : decode cX3_firstFault 64 = .ok (.baload, 1) := by decide +kernel
theorem dX3_firstFault_65 : decode cX3_firstFault 65 = .ok (.invokestatic 311, 3) := by decide +kernel
theorem dX3_firstFault_68 : decode cX3_firstFault 68 = .ok (.ifCond .ne 8, 3) := by decide +kernel
theorem dX3_firstFault_71 : decode cX3_firstFault 71 = .ok (.iload_n 3, 1) := by decide +kernel
theorem dX3_firstFault_72 : decode cX3_firstFault 72 = .ok (.iload 4, 2) := by decide +kernel
theorem dX3_firstFault_74 : decode cX3_firstFault 74 = .ok (.iadd, 1) := by decide +kernel
theorem dX3_firstFault_75 : decode cX3_firstFault 75 = .ok (.ireturn, 1) := by decide +kernel
theorem dX3_firstFault_76 : decode cX3_firstFault 76 = .ok (.iinc 4 1, 3) := by decide +kernel
theorem dX3_firstFault_79 : decode cX3_firstFault 79 = .ok (.goto (-34), 3) := by decide +kernel
theorem dX3_firstFault_82 : decode cX3_firstFault 82 = .ok (.iinc 2 1, 3) := by decide +kernel
theorem dX3_firstFault_85 : decode cX3_firstFault 85 = .ok (.iinc 3 5, 3) := by decide +kernel
theorem dX3_firstFault_88 : decode cX3_firstFault 88 = .ok (.goto (-84), 3) := by decide +kernel
theorem dX3_firstFault_91 : decode cX3_firstFault 91 = .ok (.iload_n 2, 1) := by decide +kernel
theorem dX3_firstFault_92 : decode cX3_firstFault 92 = .ok (.iconst 2, 1) := by decide +kernel
theorem dX3_firstFault_93 : decode cX3_firstFault 93 = .ok (.if_icmp .ge 7, 3) := by decide +kernel
theorem dX3_firstFault_96 : decode cX3_firstFault 96 = .ok (.iload_n 1, 1) := by decide +kernel
theorem dX3_firstFault_97 : decode cX3_firstFault 97 = .ok (.goto 5, 3) := by decide +kernel
theorem dX3_firstFault_100 : decode cX3_firstFault 100 = .ok (.bipush (-9), 2) := by decide +kernel
theorem dX3_firstFault_102 : decode cX3_firstFault 102 = .ok (.ireturn, 1) := by decide +kernel
set_option maxRecDepth 20000 in
theorem ggX3_settle_X2_startAnew : GoodIn wsX3_settle wsX2_startAnew := goodIn_r _ [12, 13, 14, 44, 45] (by decide +kernel) (by decide +kernel)
set_option maxRecDepth 20000 in
theorem gX3_settle_X2_startAnew : GoodIn wsX3_settle (wsV RX3 315 RX2 yX2_startAnew wsX2_startAnew) := goodIn_app (goodIn_of _ (by decide +kernel)) ggX3_settle_X2_startAnew
set_option maxRecDepth 20000 in
theorem ggX3_settle_X3_kindByLetter : GoodIn wsX3_settle wsX3_kindByLetter := goodIn_r _ [18, 19] (by decide +kernel) (by decide +kernel)
set_option maxRecDepth 20000 in
theorem gX3_settle_X3_kindByLetter : GoodIn wsX3_settle (va_wsS RX3 307 yX3_kindByLetter wsX3_kindByLetter) := goodIn_app (goodIn_of _ (by decide +kernel)) ggX3_settle_X3_kindByLetter
set_option maxRecDepth 20000 in
theorem ggX3_settle_X3_figure : GoodIn wsX3_settle wsX3_figure := goodIn_r _ [22] (by decide +kernel) (by decide +kernel)
set_option maxRecDepth 20000 in
theorem gX3_settle_X3_figure : GoodIn wsX3_settle (va_wsS RX3 318 yX3_figure wsX3_figure) := goodIn_app (goodIn_of _ (by decide +kernel)) ggX3_settle_X3_figure
theorem dX3_settle_0 : decode cX3_settle 0 = .ok (.aload_n 0, 1) := by decide +kernel
theorem dX3_settle_1 : decode cX3_settle 1 = .ok (.getfield 36, 3) := by decide +kernel
theorem dX3_settle_4 : decode cX3_settle 4 = .ok (.invokevirtual 315, 3) := by decide +kernel
theorem dX3_settle_7 : decode cX3_settle 7 = .ok (.astore_n 3, 1) := by decide +kernel
theorem dX3_settle_8 : decode cX3_settle 8 = .ok (.iconst 0, 1) := by decide +kernel
theorem dX3_settle_9 : decode cX3_settle 9 = .ok (.istore 4, 2) := by decide +kernel
theorem dX3_settle_11 : decode cX3_settle 11 = .ok (.iconst 0, 1) := by decide +kernel
theorem dX3_settle_12 : decode cX3_settle 12 = .ok (.istore 5, 2) := by decide +kernel
theorem dX3_settle_14 : decode cX3_settle 14 = .ok (.iload 5, 2) := by decide +kernel
theorem dX3_settle_16 : decode cX3_settle 16 = .ok (.iconst 5, 1) := by decide +kernel
theorem dX3_settle_17 : decode cX3_settle 17 = .ok (.iadd, 1) := by decide +kernel
theorem dX3_settle_18 : decode cX3_settle 18 = .ok (.iload_n 2, 1) := by decide +kernel
theorem dX3_settle_19 : decode cX3_settle 19 = .ok (.if_icmp .gt 114, 3) := by decide +kernel
theorem dX3_settle_22 : decode cX3_settle 22 = .ok (.iload 4, 2) := by decide +kernel
theorem dX3_settle_24 : decode cX3_settle 24 = .ok (.bipush 7, 2) := by decide +kernel
theorem dX3_settle_26 : decode cX3_settle 26 = .ok (.if_icmp .ge 107, 3) := by decide +kernel
theorem dX3_settle_29 : decode cX3_settle 29 = .ok (.aload_n 1, 1) := by decide +kernel
theorem dX3_settle_30 : decode cX3_settle 30 = .ok (.iload 5, 2) := by decide +kernel
theorem dX3_settle_32 : decode cX3_settle 32 = .ok (.baload, 1) := by decide +kernel
theorem dX3_settle_33 : decode cX3_settle 33 = .ok (.invokestatic 307, 3) := by decide +kernel
theorem dX3_settle_36 : decode cX3_settle 36 = .ok (.istore 6, 2) := by decide +kernel
theorem dX3_settle_38 : decode cX3_settle 38 = .ok (.iload 6, 2) := by decide +kernel
theorem dX3_settle_40 : decode cX3_settle 40 = .ok (.bipush (-9), 2) := by decide +kernel
theorem dX3_settle_42 : decode cX3_settle 42 = .ok (.if_icmp .eq 85, 3) := by decide +kernel
theorem dX3_settle_45 : decode cX3_settle 45 = .ok (.aload_n 0, 1) := by decide +kernel
theorem dX3_settle_46 : decode cX3_settle 46 = .ok (.getfield 29, 3) := by decide +kernel
theorem dX3_settle_49 : decode cX3_settle 49 = .ok (.getfield 125, 3) := by decide +kernel
theorem dX3_settle_52 : decode cX3_settle 52 = .ok (.iload 4, 2) := by decide +kernel
theorem dX3_settle_54 : decode cX3_settle 54 = .ok (.iload 6, 2) := by decide +kernel
theorem dX3_settle_56 : decode cX3_settle 56 = .ok (.iastore, 1) := by decide +kernel
theorem dX3_settle_57 : decode cX3_settle 57 = .ok (.aload_n 0, 1) := by decide +kernel
theorem dX3_settle_58 : decode cX3_settle 58 = .ok (.getfield 29, 3) := by decide +kernel
theorem dX3_settle_61 : decode cX3_settle 61 = .ok (.getfield 297, 3) := by decide +kernel
theorem dX3_settle_64 : decode cX3_settle 64 = .ok (.iload 4, 2) := by decide +kernel
theorem dX3_settle_66 : decode cX3_settle 66 = .ok (.aload_n 1, 1) := by decide +kernel
theorem dX3_settle_67 : decode cX3_settle 67 = .ok (.iload 5, 2) := by decide +kernel
theorem dX3_settle_69 : decode cX3_settle 69 = .ok (.iconst 1, 1) := by decide +kernel
theorem dX3_settle_70 : decode cX3_settle 70 = .ok (.iadd, 1) := by decide +kernel
theorem dX3_settle_71 : decode cX3_settle 71 = .ok (.baload, 1) := by decide +kernel
theorem dX3_settle_72 : decode cX3_settle 72 = .ok (.invokestatic 318, 3) := by decide +kernel
theorem dX3_settle_75 : decode cX3_settle 75 = .ok (.iastore, 1) := by decide +kernel
theorem dX3_settle_76 : decode cX3_settle 76 = .ok (.aload_n 0, 1) := by decide +kernel
theorem dX3_settle_77 : decode cX3_settle 77 = .ok (.getfield 29, 3) := by decide +kernel
theorem dX3_settle_80 : decode cX3_settle 80 = .ok (.getfield 300, 3) := by decide +kernel
theorem dX3_settle_83 : decode cX3_settle 83 = .ok (.iload 4, 2) := by decide +kernel
theorem dX3_settle_85 : decode cX3_settle 85 = .ok (.aload_n 1, 1) := by decide +kernel
theorem dX3_settle_86 : decode cX3_settle 86 = .ok (.iload 5, 2) := by decide +kernel
theorem dX3_settle_88 : decode cX3_settle 88 = .ok (.iconst 2, 1) := by decide +kernel
theorem dX3_settle_89 : decode cX3_settle 89 = .ok (.iadd, 1) := by decide +kernel
theorem dX3_settle_90 : decode cX3_settle 90 = .ok (.baload, 1) := by decide +kernel
theorem dX3_settle_91 : decode cX3_settle 91 = .ok (.invokestatic 318, 3) := by decide +kernel
theorem dX3_settle_94 : decode cX3_settle 94 = .ok (.iastore, 1) := by decide +kernel
theorem dX3_settle_95 : decode cX3_settle 95 = .ok (.aload_n 3, 1) := by decide +kernel
theorem dX3_settle_96 : decode cX3_settle 96 = .ok (.getfield 136, 3) := by decide +kernel
theorem dX3_settle_99 : decode cX3_settle 99 = .ok (.iload 4, 2) := by decide +kernel
theorem dX3_settle_101 : decode cX3_settle 101 = .ok (.bipush 10, 2) := by decide +kernel
theorem dX3_settle_103 : decode cX3_settle 103 = .ok (.aload_n 1, 1) := by decide +kernel
theorem dX3_settle_104 : decode cX3_settle 104 = .ok (.iload 5, 2) := by decide +kernel
theorem dX3_settle_106 : decode cX3_settle 106 = .ok (.iconst 3, 1) := by decide +kernel
theorem dX3_settle_107 : decode cX3_settle 107 = .ok (.iadd, 1) := by decide +kernel
theorem dX3_settle_108 : decode cX3_settle 108 = .ok (.baload, 1) := by decide +kernel
theorem dX3_settle_109 : decode cX3_settle 109 = .ok (.invokestatic 318, 3) := by decide +kernel
theorem dX3_settle_112 : decode cX3_settle 112 = .ok (.imul, 1) := by decide +kernel
theorem dX3_settle_113 : decode cX3_settle 113 = .ok (.aload_n 1, 1) := by decide +kernel
theorem dX3_settle_114 : decode cX3_settle 114 = .ok (.iload 5, 2) := by decide +kernel
theorem dX3_settle_116 : decode cX3_settle 116 = .ok (.iconst 4, 1) := by decide +kernel
theorem dX3_settle_117 : decode cX3_settle 117 = .ok (.iadd, 1) := by decide +kernel
theorem dX3_settle_118 : decode cX3_settle 118 = .ok (.baload, 1) := by decide +kernel
theorem dX3_settle_119 : decode cX3_settle 119 = .ok (.invokestatic 318, 3) := by decide +kernel
theorem dX3_settle_122 : decode cX3_settle 122 = .ok (.iadd, 1) := by decide +kernel
theorem dX3_settle_123 : decode cX3_settle 123 = .ok (.iastore, 1) := by decide +kernel
theorem dX3_settle_124 : decode cX3_settle 124 = .ok (.iinc 4 1, 3) := by decide +kernel
theorem dX3_settle_127 : decode cX3_settle 127 = .ok (.iinc 5 1, 3) := by decide +kernel
theorem dX3_settle_130 : decode cX3_settle 130 = .ok (.goto (-116), 3) := by decide +kernel
theorem dX3_settle_133 : decode cX3_settle 133 = .ok (.aload_n 0, 1) := by decide +kernel
theorem dX3_settle_134 : decode cX3_settle 134 = .ok (.getfield 29, 3) := by decide +kernel
theorem dX3_settle_137 : decode cX3_settle 137 = .ok (.iload 4, 2) := by decide +kernel
theorem dX3_settle_139 : decode cX3_settle 139 = .ok (.putfield 116, 3) := by decide +kernel
theorem dX3_settle_142 : decode cX3_settle 142 = .ok (.return_, 1) := by decide +kernel
theorem dX3_kindByLetter_0 : decode cX3_kindByLetter 0 = .ok (.iconst 0, 1) := by decide +kernel
theorem dX3_kindByLetter_1 : decode cX3_kindByLetter 1 = .ok (.istore_n 1, 1) := by decide +kernel
theorem dX3_kindByLetter_2 : decode cX3_kindByLetter 2 = .ok (.iload_n 1, 1) := by decide +kernel
theorem dX3_kindByLetter_3 : decode cX3_kindByLetter 3 = .ok (.bipush 6, 2) := by decide +kernel
theorem dX3_kindByLetter_5 : decode cX3_kindByLetter 5 = .ok (.if_icmp .ge 20, 3) := by decide +kernel
theorem dX3_kindByLetter_8 : decode cX3_kindByLetter 8 = .ok (.getstatic 321, 3) := by decide +kernel
theorem dX3_kindByLetter_11 : decode cX3_kindByLetter 11 = .ok (.iload_n 1, 1) := by decide +kernel
theorem dX3_kindByLetter_12 : decode cX3_kindByLetter 12 = .ok (.baload, 1) := by decide +kernel
theorem dX3_kindByLetter_13 : decode cX3_kindByLetter 13 = .ok (.iload_n 0, 1) := by decide +kernel
theorem dX3_kindByLetter_14 : decode cX3_kindByLetter 14 = .ok (.if_icmp .ne 5, 3) := by decide +kernel
theorem dX3_kindByLetter_17 : decode cX3_kindByLetter 17 = .ok (.iload_n 1, 1) := by decide +kernel
theorem dX3_kindByLetter_18 : decode cX3_kindByLetter 18 = .ok (.ireturn, 1) := by decide +kernel
theorem dX3_kindByLetter_19 : decode cX3_kindByLetter 19 = .ok (.iinc 1 1, 3) := by decide +kernel
theorem dX3_kindByLetter_22 : decode cX3_kindByLetter 22 = .ok (.goto (-20), 3) := by decide +kernel
theorem dX3_kindByLetter_25 : decode cX3_kindByLetter 25 = .ok (.bipush (-9), 2) := by decide +kernel
theorem dX3_kindByLetter_27 : decode cX3_kindByLetter 27 = .ok (.ireturn, 1) := by decide +kernel
theorem dX3_isFigure_0 : decode cX3_isFigure 0 = .ok (.iload_n 0, 1) := by decide +kernel
theorem dX3_isFigure_1 : decode cX3_isFigure 1 = .ok (.bipush 48, 2) := by decide +kernel
theorem dX3_isFigure_3 : decode cX3_isFigure 3 = .ok (.if_icmp .lt 13, 3) := by decide +kernel
theorem dX3_isFigure_6 : decode cX3_isFigure 6 = .ok (.iload_n 0, 1) := by decide +kernel
theorem dX3_isFigure_7 : decode cX3_isFigure 7 = .ok (.bipush 57, 2) := by decide +kernel
theorem dX3_isFigure_9 : decode cX3_isFigure 9 = .ok (.if_icmp .gt 7, 3) := by decide +kernel
theorem dX3_isFigure_12 : decode cX3_isFigure 12 = .ok (.iconst 1, 1) := by decide +kernel
theorem dX3_isFigure_13 : decode cX3_isFigure 13 = .ok (.goto 4, 3) := by decide +kernel
theorem dX3_isFigure_16 : decode cX3_isFigure 16 = .ok (.iconst 0, 1) := by decide +kernel
theorem dX3_isFigure_17 : decode cX3_isFigure 17 = .ok (.ireturn, 1) := by decide +kernel
theorem dX3_figure_0 : decode cX3_figure 0 = .ok (.iload_n 0, 1) := by decide +kernel
theorem dX3_figure_1 : decode cX3_figure 1 = .ok (.bipush 48, 2) := by decide +kernel
theorem dX3_figure_3 : decode cX3_figure 3 = .ok (.isub, 1) := by decide +kernel
theorem dX3_figure_4 : decode cX3_figure 4 = .ok (.ireturn, 1) := by decide +kernel
theorem dX3_isA_0 : decode cX3_isA 0 = .ok (.iload_n 0, 1) := by decide +kernel
theorem dX3_isA_1 : decode cX3_isA 1 = .ok (.iload_n 1, 1) := by decide +kernel
theorem dX3_isA_2 : decode cX3_isA 2 = .ok (.if_icmp .eq 23, 3) := by decide +kernel
theorem dX3_isA_5 : decode cX3_isA 5 = .ok (.iload_n 0, 1) := by decide +kernel
theorem dX3_isA_6 : decode cX3_isA 6 = .ok (.iconst 4, 1) := by decide +kernel
theorem dX3_isA_7 : decode cX3_isA 7 = .ok (.if_icmp .ne 8, 3) := by decide +kernel
theorem dX3_isA_10 : decode cX3_isA 10 = .ok (.iload_n 1, 1) := by decide +kernel
theorem dX3_isA_11 : decode cX3_isA 11 = .ok (.iconst 1, 1) := by decide +kernel
theorem dX3_isA_12 : decode cX3_isA 12 = .ok (.if_icmp .eq 13, 3) := by decide +kernel
theorem dX3_isA_15 : decode cX3_isA 15 = .ok (.iload_n 0, 1) := by decide +kernel
theorem dX3_isA_16 : decode cX3_isA 16 = .ok (.iconst 5, 1) := by decide +kernel
theorem dX3_isA_17 : decode cX3_isA 17 = .ok (.if_icmp .ne 12, 3) := by decide +kernel
theorem dX3_isA_20 : decode cX3_isA 20 = .ok (.iload_n 1, 1) := by decide +kernel
theorem dX3_isA_21 : decode cX3_isA 21 = .ok (.iconst 2, 1) := by decide +kernel
theorem dX3_isA_22 : decode cX3_isA 22 = .ok (.if_icmp .ne 7, 3) := by decide +kernel
theorem dX3_isA_25 : decode cX3_isA 25 = .ok (.iconst 1, 1) := by decide +kernel
theorem dX3_isA_26 : decode cX3_isA 26 = .ok (.goto 4, 3) := by decide +kernel
theorem dX3_isA_29 : decode cX3_isA 29 = .ok (.iconst 0, 1) := by decide +kernel
theorem dX3_isA_30 : decode cX3_isA 30 = .ok (.ireturn, 1) := by decide +kernel
theorem dX3_worthTo_0 : decode cX3_worthTo 0 = .ok (.iload_n 0, 1) := by decide +kernel
theorem dX3_worthTo_1 : decode cX3_worthTo 1 = .ok (.tableswitch 71 1 5 #[35, 39, 43, 55, 61], 35) := by decide +kernel
theorem dX3_worthTo_36 : decode cX3_worthTo 36 = .ok (.iload_n 1, 1) := by decide +kernel
theorem dX3_worthTo_37 : decode cX3_worthTo 37 = .ok (.iconst 3, 1) := by decide +kernel
theorem dX3_worthTo_38 : decode cX3_worthTo 38 = .ok (.iadd, 1) := by decide +kernel
theorem dX3_worthTo_39 : decode cX3_worthTo 39 = .ok (.ireturn, 1) := by decide +kernel
theorem dX3_worthTo_40 : decode cX3_worthTo 40 = .ok (.iconst 2, 1) := by decide +kernel
theorem dX3_worthTo_41 : decode cX3_worthTo 41 = .ok (.iload_n 1, 1) := by decide +kernel
theorem dX3_worthTo_42 : decode cX3_worthTo 42 = .ok (.imul, 1) := by decide +kernel
theorem dX3_worthTo_43 : decode cX3_worthTo 43 = .ok (.ireturn, 1) := by decide +kernel
theorem dX3_worthTo_44 : decode cX3_worthTo 44 = .ok (.iload_n 1, 1) := by decide +kernel
theorem dX3_worthTo_45 : decode cX3_worthTo 45 = .ok (.bipush 20, 2) := by decide +kernel
theorem dX3_worthTo_47 : decode cX3_worthTo 47 = .ok (.if_icmp .le 7, 3) := by decide +kernel
theorem dX3_worthTo_50 : decode cX3_worthTo 50 = .ok (.iconst 0, 1) := by decide +kernel
theorem dX3_worthTo_51 : decode cX3_worthTo 51 = .ok (.goto 4, 3) := by decide +kernel
theorem dX3_worthTo_54 : decode cX3_worthTo 54 = .ok (.iload_n 1, 1) := by decide +kernel
theorem dX3_worthTo_55 : decode cX3_worthTo 55 = .ok (.ireturn, 1) := by decide +kernel
theorem dX3_worthTo_56 : decode cX3_worthTo 56 = .ok (.iconst 2, 1) := by decide +kernel
theorem dX3_worthTo_57 : decode cX3_worthTo 57 = .ok (.iload_n 1, 1) := by decide +kernel
theorem dX3_worthTo_58 : decode cX3_worthTo 58 = .ok (.iconst 3, 1) := by decide +kernel
theorem dX3_worthTo_59 : decode cX3_worthTo 59 = .ok (.iadd, 1) := by decide +kernel
theorem dX3_worthTo_60 : decode cX3_worthTo 60 = .ok (.imul, 1) := by decide +kernel
theorem dX3_worthTo_61 : decode cX3_worthTo 61 = .ok (.ireturn, 1) := by decide +kernel
theorem dX3_worthTo_62 : decode cX3_worthTo 62 = .ok (.iconst 0, 1) := by decide +kernel
theorem dX3_worthTo_63 : decode cX3_worthTo 63 = .ok (.iconst 2, 1) := by decide +kernel
theorem dX3_worthTo_64 : decode cX3_worthTo 64 = .ok (.iload_n 1, 1) := by decide +kernel
theorem dX3_worthTo_65 : decode cX3_worthTo 65 = .ok (.imul, 1) := by decide +kernel
theorem dX3_worthTo_66 : decode cX3_worthTo 66 = .ok (.iconst 5, 1) := by decide +kernel
theorem dX3_worthTo_67 : decode cX3_worthTo 67 = .ok (.isub, 1) := by decide +kernel
theorem dX3_worthTo_68 : decode cX3_worthTo 68 = .ok (.invokestatic 325, 3) := by decide +kernel
theorem dX3_worthTo_71 : decode cX3_worthTo 71 = .ok (.ireturn, 1) := by decide +kernel
theorem dX3_worthTo_72 : decode cX3_worthTo 72 = .ok (.iload_n 1, 1) := by decide +kernel
theorem dX3_worthTo_73 : decode cX3_worthTo 73 = .ok (.ireturn, 1) := by decide +kernel
set_option maxRecDepth 20000 in
theorem ggX3_markOf_X3_worthTo : GoodIn wsX3_markOf wsX3_worthTo := goodIn_r _ [4, 5, 6, 7, 8] (by decide +kernel) (by decide +kernel)
set_option maxRecDepth 20000 in
theorem gX3_markOf_X3_worthTo : GoodIn wsX3_markOf (va_wsS RX3 143 yX3_worthTo wsX3_worthTo) := goodIn_app (goodIn_of _ (by decide +kernel)) ggX3_markOf_X3_worthTo
set_option maxRecDepth 20000 in
theorem ggX3_markOf_X3_broughtBy : GoodIn wsX3_markOf wsX3_broughtBy := goodIn_r _ [11, 5, 6, 7, 8] (by decide +kernel) (by decide +kernel)
set_option maxRecDepth 20000 in
theorem gX3_markOf_X3_broughtBy : GoodIn wsX3_markOf (va_wsS RX3 330 yX3_broughtBy wsX3_broughtBy) := goodIn_app (goodIn_of _ (by decide +kernel)) ggX3_markOf_X3_broughtBy
theorem dX3_markOf_0 : decode cX3_markOf 0 = .ok (.iload_n 0, 1) := by decide +kernel
theorem dX3_markOf_1 : decode cX3_markOf 1 = .ok (.iload_n 2, 1) := by decide +kernel
theorem dX3_markOf_2 : decode cX3_markOf 2 = .ok (.invokestatic 143, 3) := by decide +kernel
theorem dX3_markOf_5 : decode cX3_markOf 5 = .ok (.istore_n 3, 1) := by decide +kernel
theorem dX3_markOf_6 : decode cX3_markOf 6 = .ok (.iload_n 1, 1) := by decide +kernel
theorem dX3_markOf_7 : decode cX3_markOf 7 = .ok (.tableswitch 65 1 4 #[29, 37, 48, 57], 29) := by decide +kernel
theorem dX3_markOf_36 : decode cX3_markOf 36 = .ok (.iload_n 3, 1) := by decide +kernel
theorem dX3_markOf_37 : decode cX3_markOf 37 = .ok (.iconst 0, 1) := by decide +kernel
theorem dX3_markOf_38 : decode cX3_markOf 38 = .ok (.iload_n 2, 1) := by decide +kernel
theorem dX3_markOf_39 : decode cX3_markOf 39 = .ok (.invokestatic 143, 3) := by decide +kernel
theorem dX3_markOf_42 : decode cX3_markOf 42 = .ok (.isub, 1) := by decide +kernel
theorem dX3_markOf_43 : decode cX3_markOf 43 = .ok (.ireturn, 1) := by decide +kernel
theorem dX3_markOf_44 : decode cX3_markOf 44 = .ok (.bipush 100, 2) := by decide +kernel
theorem dX3_markOf_46 : decode cX3_markOf 46 = .ok (.iload_n 3, 1) := by decide +kernel
theorem dX3_markOf_47 : decode cX3_markOf 47 = .ok (.iadd, 1) := by decide +kernel
theorem dX3_markOf_48 : decode cX3_markOf 48 = .ok (.iconst 0, 1) := by decide +kernel
theorem dX3_markOf_49 : decode cX3_markOf 49 = .ok (.iload_n 2, 1) := by decide +kernel
theorem dX3_markOf_50 : decode cX3_markOf 50 = .ok (.invokestatic 143, 3) := by decide +kernel
theorem dX3_markOf_53 : decode cX3_markOf 53 = .ok (.isub, 1) := by decide +kernel
theorem dX3_markOf_54 : decode cX3_markOf 54 = .ok (.ireturn, 1) := by decide +kernel
theorem dX3_markOf_55 : decode cX3_markOf 55 = .ok (.iload_n 2, 1) := by decide +kernel
theorem dX3_markOf_56 : decode cX3_markOf 56 = .ok (.iconst 3, 1) := by decide +kernel
theorem dX3_markOf_57 : decode cX3_markOf 57 = .ok (.iload_n 2, 1) := by decide +kernel
theorem dX3_markOf_58 : decode cX3_markOf 58 = .ok (.iconst 0, 1) := by decide +kernel
theorem dX3_markOf_59 : decode cX3_markOf 59 = .ok (.invokestatic 330, 3) := by decide +kernel
theorem dX3_markOf_62 : decode cX3_markOf 62 = .ok (.isub, 1) := by decide +kernel
theorem dX3_markOf_63 : decode cX3_markOf 63 = .ok (.ireturn, 1) := by decide +kernel
theorem dX3_markOf_64 : decode cX3_markOf 64 = .ok (.iload_n 3, 1) := by decide +kernel
theorem dX3_markOf_65 : decode cX3_markOf 65 = .ok (.iconst 1, 1) := by decide +kernel
theorem dX3_markOf_66 : decode cX3_markOf 66 = .ok (.iload_n 2, 1) := by decide +kernel
theorem dX3_markOf_67 : decode cX3_markOf 67 = .ok (.invokestatic 143, 3) := by decide +kernel
theorem dX3_markOf_70 : decode cX3_markOf 70 = .ok (.isub, 1) := by decide +kernel
theorem dX3_markOf_71 : decode cX3_markOf 71 = .ok (.ireturn, 1) := by decide +kernel
theorem dX3_markOf_72 : decode cX3_markOf 72 = .ok (.iconst 2, 1) := by decide +kernel
theorem dX3_markOf_73 : decode cX3_markOf 73 = .ok (.iload_n 2, 1) := by decide +kernel
theorem dX3_markOf_74 : decode cX3_markOf 74 = .ok (.invokestatic 143, 3) := by decide +kernel
theorem dX3_markOf_77 : decode cX3_markOf 77 = .ok (.iload_n 3, 1) := by decide +kernel
theorem dX3_markOf_78 : decode cX3_markOf 78 = .ok (.isub, 1) := by decide +kernel
theorem dX3_markOf_79 : decode cX3_markOf 79 = .ok (.ireturn, 1) := by decide +kernel
theorem dX3_broughtBy_0 : decode cX3_broughtBy 0 = .ok (.iload_n 0, 1) := by decide +kernel
theorem dX3_broughtBy_1 : decode cX3_broughtBy 1 = .ok (.tableswitch 62 1 5 #[35, 62, 39, 48, 50], 35) := by decide +kernel
theorem dX3_broughtBy_36 : decode cX3_broughtBy 36 = .ok (.iload_n 1, 1) := by decide +kernel
theorem dX3_broughtBy_37 : decode cX3_broughtBy 37 = .ok (.iconst 2, 1) := by decide +kernel
theorem dX3_broughtBy_38 : decode cX3_broughtBy 38 = .ok (.idiv, 1) := by decide +kernel
theorem dX3_broughtBy_39 : decode cX3_broughtBy 39 = .ok (.ireturn, 1) := by decide +kernel
theorem dX3_broughtBy_40 : decode cX3_broughtBy 40 = .ok (.iconst 0, 1) := by decide +kernel
theorem dX3_broughtBy_41 : decode cX3_broughtBy 41 = .ok (.iload_n 1, 1) := by decide +kernel
theorem dX3_broughtBy_42 : decode cX3_broughtBy 42 = .ok (.bipush 7, 2) := by decide +kernel
theorem dX3_broughtBy_44 : decode cX3_broughtBy 44 = .ok (.isub, 1) := by decide +kernel
theorem dX3_broughtBy_45 : decode cX3_broughtBy 45 = .ok (.invokestatic 325, 3) := by decide +kernel
theorem dX3_broughtBy_48 : decode cX3_broughtBy 48 = .ok (.ireturn, 1) := by decide +kernel
theorem dX3_broughtBy_49 : decode cX3_broughtBy 49 = .ok (.iconst 0, 1) := by decide +kernel
theorem dX3_broughtBy_50 : decode cX3_broughtBy 50 = .ok (.ireturn, 1) := by decide +kernel
theorem dX3_broughtBy_51 : decode cX3_broughtBy 51 = .ok (.iload_n 2, 1) := by decide +kernel
theorem dX3_broughtBy_52 : decode cX3_broughtBy 52 = .ok (.iconst 2, 1) := by decide +kernel
theorem dX3_broughtBy_53 : decode cX3_broughtBy 53 = .ok (.irem, 1) := by decide +kernel
theorem dX3_broughtBy_54 : decode cX3_broughtBy 54 = .ok (.ifCond .ne 7, 3) := by decide +kernel
theorem dX3_broughtBy_57 : decode cX3_broughtBy 57 = .ok (.iload_n 1, 1) := by decide +kernel
theorem dX3_broughtBy_58 : decode cX3_broughtBy 58 = .ok (.goto 4, 3) := by decide +kernel
theorem dX3_broughtBy_61 : decode cX3_broughtBy 61 = .ok (.iconst 0, 1) := by decide +kernel
theorem dX3_broughtBy_62 : decode cX3_broughtBy 62 = .ok (.ireturn, 1) := by decide +kernel
theorem dX3_broughtBy_63 : decode cX3_broughtBy 63 = .ok (.iload_n 1, 1) := by decide +kernel
theorem dX3_broughtBy_64 : decode cX3_broughtBy 64 = .ok (.ireturn, 1) := by decide +kernel
set_option maxRecDepth 20000 in
theorem ggX3_kindsByPairs_X3_worthTo : GoodIn wsX3_kindsByPairs wsX3_worthTo := goodIn_r _ [4, 5, 6, 7, 8] (by decide +kernel) (by decide +kernel)
set_option maxRecDepth 20000 in
theorem gX3_kindsByPairs_X3_worthTo : GoodIn wsX3_kindsByPairs (va_wsS RX3 143 yX3_worthTo wsX3_worthTo) := goodIn_app (goodIn_of _ (by decide +kernel)) ggX3_kindsByPairs_X3_worthTo
theorem dX3_kindsByPairs_0 : decode cX3_kindsByPairs 0 = .ok (.iconst 0, 1) := by decide +kernel
theorem dX3_kindsByPairs_1 : decode cX3_kindsByPairs 1 = .ok (.istore_n 2, 1) := by decide +kernel
theorem dX3_kindsByPairs_2 : decode cX3_kindsByPairs 2 = .ok (.iconst 0, 1) := by decide +kernel
theorem dX3_kindsByPairs_3 : decode cX3_kindsByPairs 3 = .ok (.istore_n 3, 1) := by decide +kernel
theorem dX3_kindsByPairs_4 : decode cX3_kindsByPairs 4 = .ok (.iload_n 3, 1) := by decide +kernel
theorem dX3_kindsByPairs_5 : decode cX3_kindsByPairs 5 = .ok (.bipush 6, 2) := by decide +kernel
theorem dX3_kindsByPairs_7 : decode cX3_kindsByPairs 7 = .ok (.if_icmp .ge 69, 3) := by decide +kernel
theorem dX3_kindsByPairs_10 : decode cX3_kindsByPairs 10 = .ok (.iconst 1, 1) := by decide +kernel
theorem dX3_kindsByPairs_11 : decode cX3_kindsByPairs 11 = .ok (.istore 4, 2) := by decide +kernel
theorem dX3_kindsByPairs_13 : decode cX3_kindsByPairs 13 = .ok (.iconst 0, 1) := by decide +kernel
theorem dX3_kindsByPairs_14 : decode cX3_kindsByPairs 14 = .ok (.istore 5, 2) := by decide +kernel
theorem dX3_kindsByPairs_16 : decode cX3_kindsByPairs 16 = .ok (.iload 5, 2) := by decide +kernel
theorem dX3_kindsByPairs_18 : decode cX3_kindsByPairs 18 = .ok (.iconst 1, 1) := by decide +kernel
theorem dX3_kindsByPairs_19 : decode cX3_kindsByPairs 19 = .ok (.iadd, 1) := by decide +kernel
theorem dX3_kindsByPairs_20 : decode cX3_kindsByPairs 20 = .ok (.iload_n 1, 1) := by decide +kernel
theorem dX3_kindsByPairs_21 : decode cX3_kindsByPairs 21 = .ok (.if_icmp .ge 38, 3) := by decide +kernel
theorem dX3_kindsByPairs_24 : decode cX3_kindsByPairs 24 = .ok (.iload 4, 2) := by decide +kernel
theorem dX3_kindsByPairs_26 : decode cX3_kindsByPairs 26 = .ok (.ifCond .eq 24, 3) := by decide +kernel
theorem dX3_kindsByPairs_29 : decode cX3_kindsByPairs 29 = .ok (.iload_n 3, 1) := by decide +kernel
theorem dX3_kindsByPairs_30 : decode cX3_kindsByPairs 30 = .ok (.aload_n 0, 1) := by decide +kernel
theorem dX3_kindsByPairs_31 : decode cX3_kindsByPairs 31 = .ok (.iload 5, 2) := by decide +kernel
theorem dX3_kindsByPairs_33 : decode cX3_kindsByPairs 33 = .ok (.iaload, 1) := by decide +kernel
theorem dX3_kindsByPairs_34 : decode cX3_kindsByPairs 34 = .ok (.invokestatic 143, 3) := by decide +kernel
theorem dX3_kindsByPairs_37 : decode cX3_kindsByPairs 37 = .ok (.aload_n 0, 1) := by decide +kernel
theorem dX3_kindsByPairs_38 : decode cX3_kindsByPairs 38 = .ok (.iload 5, 2) := by decide +kernel
theorem dX3_kindsByPairs_40 : decode cX3_kindsByPairs 40 = .ok (.iconst 1, 1) := by decide +kernel
theorem dX3_kindsByPairs_41 : decode cX3_kindsByPairs 41 = .ok (.iadd, 1) := by decide +kernel
theorem dX3_kindsByPairs_42 : decode cX3_kindsByPairs 42 = .ok (.iaload, 1) := by decide +kernel
theorem dX3_kindsByPairs_43 : decode cX3_kindsByPairs 43 = .ok (.if_icmp .ne 7, 3) := by decide +kernel
theorem dX3_kindsByPairs_46 : decode cX3_kindsByPairs 46 = .ok (.iconst 1, 1) := by decide +kernel
theorem dX3_kindsByPairs_47 : decode cX3_kindsByPairs 47 = .ok (.goto 4, 3) := by decide +kernel
theorem dX3_kindsByPairs_50 : decode cX3_kindsByPairs 50 = .ok (.iconst 0, 1) := by decide +kernel
theorem dX3_kindsByPairs_51 : decode cX3_kindsByPairs 51 = .ok (.istore 4, 2) := by decide +kernel
theorem dX3_kindsByPairs_53 : decode cX3_kindsByPairs 53 = .ok (.iinc 5 2, 3) := by decide +kernel
theorem dX3_kindsByPairs_56 : decode cX3_kindsByPairs 56 = .ok (.goto (-40), 3) := by decide +kernel
theorem dX3_kindsByPairs_59 : decode cX3_kindsByPairs 59 = .ok (.iload 4, 2) := by decide +kernel
theorem dX3_kindsByPairs_61 : decode cX3_kindsByPairs 61 = .ok (.ifCond .eq 9, 3) := by decide +kernel
theorem dX3_kindsByPairs_64 : decode cX3_kindsByPairs 64 = .ok (.iload_n 2, 1) := by decide +kernel
theorem dX3_kindsByPairs_65 : decode cX3_kindsByPairs 65 = .ok (.iconst 1, 1) := by decide +kernel
theorem dX3_kindsByPairs_66 : decode cX3_kindsByPairs 66 = .ok (.iload_n 3, 1) := by decide +kernel
theorem dX3_kindsByPairs_67 : decode cX3_kindsByPairs 67 = .ok (.ishl, 1) := by decide +kernel
theorem dX3_kindsByPairs_68 : decode cX3_kindsByPairs 68 = .ok (.ior, 1) := by decide +kernel
theorem dX3_kindsByPairs_69 : decode cX3_kindsByPairs 69 = .ok (.istore_n 2, 1) := by decide +kernel
theorem dX3_kindsByPairs_70 : decode cX3_kindsByPairs 70 = .ok (.iinc 3 1, 3) := by decide +kernel
theorem dX3_kindsByPairs_73 : decode cX3_kindsByPairs 73 = .ok (.goto (-69), 3) := by decide +kernel
theorem dX3_kindsByPairs_76 : decode cX3_kindsByPairs 76 = .ok (.iload_n 2, 1) := by decide +kernel
theorem dX3_kindsByPairs_77 : decode cX3_kindsByPairs 77 = .ok (.ireturn, 1) := by decide +kernel
set_option maxRecDepth 20000 in
theorem ggX3_greatestPart_X3_has : GoodIn wsX3_greatestPart wsX3_has := goodIn_r _ [8] (by decide +kernel) (by decide +kernel)
set_option maxRecDepth 20000 in
theorem gX3_greatestPart_X3_has : GoodIn wsX3_greatestPart (va_wsS RX3 333 yX3_has wsX3_has) := goodIn_app (goodIn_of _ (by decide +kernel)) ggX3_greatestPart_X3_has
set_option maxRecDepth 20000 in
theorem ggX3_greatestPart_X3_worthTo : GoodIn wsX3_greatestPart wsX3_worthTo := goodIn_r _ [11, 1, 2, 3, 4] (by decide +kernel) (by decide +kernel)
set_option maxRecDepth 20000 in
theorem gX3_greatestPart_X3_worthTo : GoodIn wsX3_greatestPart (va_wsS RX3 143 yX3_worthTo wsX3_worthTo) := goodIn_app (goodIn_of _ (by decide +kernel)) ggX3_greatestPart_X3_worthTo
set_option maxRecDepth 20000 in
theorem ggX3_greatestPart_X3_partAlike : GoodIn wsX3_greatestPart wsX3_partAlike := goodIn_r _ [14, 5, 6, 7, 8, 9, 10, 11, 1, 2, 3, 4] (by decide +kernel) (by decide +kernel)
set_option maxRecDepth 20000 in
theorem gX3_greatestPart_X3_partAlike : GoodIn wsX3_greatestPart (va_wsS RX3 336 yX3_partAlike wsX3_partAlike) := goodIn_app (goodIn_of _ (by decide +kernel)) ggX3_greatestPart_X3_partAlike
theorem dX3_greatestPart_0 : decode cX3_greatestPart 0 = .ok (.iconst 0, 1) := by decide +kernel
theorem dX3_greatestPart_1 : decode cX3_greatestPart 1 = .ok (.istore_n 2, 1) := by decide +kernel
theorem dX3_greatestPart_2 : decode cX3_greatestPart 2 = .ok (.iconst 0, 1) := by decide +kernel
theorem dX3_greatestPart_3 : decode cX3_greatestPart 3 = .ok (.istore_n 3, 1) := by decide +kernel
theorem dX3_greatestPart_4 : decode cX3_greatestPart 4 = .ok (.iload_n 3, 1) := by decide +kernel
theorem dX3_greatestPart_5 : decode cX3_greatestPart 5 = .ok (.bipush 6, 2) := by decide +kernel
theorem dX3_greatestPart_7 : decode cX3_greatestPart 7 = .ok (.if_icmp .ge 32, 3) := by decide +kernel
theorem dX3_greatestPart_10 : decode cX3_greatestPart 10 = .ok (.iload_n 0, 1) := by decide +kernel
theorem dX3_greatestPart_11 : decode cX3_greatestPart 11 = .ok (.iload_n 3, 1) := by decide +kernel
theorem dX3_greatestPart_12 : decode cX3_greatestPart 12 = .ok (.invokestatic 333, 3) := by decide +kernel
theorem dX3_greatestPart_15 : decode cX3_greatestPart 15 = .ok (.ifCond .eq 18, 3) := by decide +kernel
theorem dX3_greatestPart_18 : decode cX3_greatestPart 18 = .ok (.iload_n 2, 1) := by decide +kernel
theorem dX3_greatestPart_19 : decode cX3_greatestPart 19 = .ok (.iload_n 0, 1) := by decide +kernel
theorem dX3_greatestPart_20 : decode cX3_greatestPart 20 = .ok (.iload_n 1, 1) := by decide +kernel
theorem dX3_greatestPart_21 : decode cX3_greatestPart 21 = .ok (.iload_n 3, 1) := by decide +kernel
theorem dX3_greatestPart_22 : decode cX3_greatestPart 22 = .ok (.iload_n 1, 1) := by decide +kernel
theorem dX3_greatestPart_23 : decode cX3_greatestPart 23 = .ok (.invokestatic 143, 3) := by decide +kernel
theorem dX3_greatestPart_26 : decode cX3_greatestPart 26 = .ok (.invokestatic 336, 3) := by decide +kernel
theorem dX3_greatestPart_29 : decode cX3_greatestPart 29 = .ok (.invokestatic 325, 3) := by decide +kernel
theorem dX3_greatestPart_32 : decode cX3_greatestPart 32 = .ok (.istore_n 2, 1) := by decide +kernel
theorem dX3_greatestPart_33 : decode cX3_greatestPart 33 = .ok (.iinc 3 1, 3) := by decide +kernel
theorem dX3_greatestPart_36 : decode cX3_greatestPart 36 = .ok (.goto (-32), 3) := by decide +kernel
theorem dX3_greatestPart_39 : decode cX3_greatestPart 39 = .ok (.iload_n 2, 1) := by decide +kernel
theorem dX3_greatestPart_40 : decode cX3_greatestPart 40 = .ok (.ireturn, 1) := by decide +kernel
set_option maxRecDepth 20000 in
theorem ggX3_partAlike_X3_has : GoodIn wsX3_partAlike wsX3_has := goodIn_r _ [4] (by decide +kernel) (by decide +kernel)
set_option maxRecDepth 20000 in
theorem gX3_partAlike_X3_has : GoodIn wsX3_partAlike (va_wsS RX3 333 yX3_has wsX3_has) := goodIn_app (goodIn_of _ (by decide +kernel)) ggX3_partAlike_X3_has
set_option maxRecDepth 20000 in
theorem ggX3_partAlike_X3_worthTo : GoodIn wsX3_partAlike wsX3_worthTo := goodIn_r _ [7, 8, 9, 10, 11] (by decide +kernel) (by decide +kernel)
set_option maxRecDepth 20000 in
theorem gX3_partAlike_X3_worthTo : GoodIn wsX3_partAlike (va_wsS RX3 143 yX3_worthTo wsX3_worthTo) := goodIn_app (goodIn_of _ (by decide +kernel)) ggX3_partAlike_X3_worthTo
theorem dX3_partAlike_0 : decode cX3_partAlike 0 = .ok (.iconst 0, 1) := by decide +kernel
theorem dX3_partAlike_1 : decode cX3_partAlike 1 = .ok (.istore_n 3, 1) := by decide +kernel
theorem dX3_partAlike_2 : decode cX3_partAlike 2 = .ok (.iconst 0, 1) := by decide +kernel
theorem dX3_partAlike_3 : decode cX3_partAlike 3 = .ok (.istore 4, 2) := by decide +kernel
theorem dX3_partAlike_5 : decode cX3_partAlike 5 = .ok (.iload 4, 2) := by decide +kernel
theorem dX3_partAlike_7 : decode cX3_partAlike 7 = .ok (.bipush 6, 2) := by decide +kernel
theorem dX3_partAlike_9 : decode cX3_partAlike 9 = .ok (.if_icmp .ge 31, 3) := by decide +kernel
theorem dX3_partAlike_12 : decode cX3_partAlike 12 = .ok (.iload_n 0, 1) := by decide +kernel
theorem dX3_partAlike_13 : decode cX3_partAlike 13 = .ok (.iload 4, 2) := by decide +kernel
theorem dX3_partAlike_15 : decode cX3_partAlike 15 = .ok (.invokestatic 333, 3) := by decide +kernel
theorem dX3_partAlike_18 : decode cX3_partAlike 18 = .ok (.ifCond .eq 16, 3) := by decide +kernel
theorem dX3_partAlike_21 : decode cX3_partAlike 21 = .ok (.iload 4, 2) := by decide +kernel
theorem dX3_partAlike_23 : decode cX3_partAlike 23 = .ok (.iload_n 1, 1) := by decide +kernel
theorem dX3_partAlike_24 : decode cX3_partAlike 24 = .ok (.invokestatic 143, 3) := by decide +kernel
theorem dX3_partAlike_27 : decode cX3_partAlike 27 = .ok (.iload_n 2, 1) := by decide +kernel
theorem dX3_partAlike_28 : decode cX3_partAlike 28 = .ok (.if_icmp .ne 6, 3) := by decide +kernel
theorem dX3_partAlike_31 : decode cX3_partAlike 31 = .ok (.iinc 3 1, 3) := by decide +kernel
theorem dX3_partAlike_34 : decode cX3_partAlike 34 = .ok (.iinc 4 1, 3) := by decide +kernel
theorem dX3_partAlike_37 : decode cX3_partAlike 37 = .ok (.goto (-32), 3) := by decide +kernel
theorem dX3_partAlike_40 : decode cX3_partAlike 40 = .ok (.iload_n 3, 1) := by decide +kernel
theorem dX3_partAlike_41 : decode cX3_partAlike 41 = .ok (.ireturn, 1) := by decide +kernel
theorem dX3_has_0 : decode cX3_has 0 = .ok (.iload_n 0, 1) := by decide +kernel
theorem dX3_has_1 : decode cX3_has 1 = .ok (.iload_n 1, 1) := by decide +kernel
theorem dX3_has_2 : decode cX3_has 2 = .ok (.ishr, 1) := by decide +kernel
theorem dX3_has_3 : decode cX3_has 3 = .ok (.iconst 1, 1) := by decide +kernel
theorem dX3_has_4 : decode cX3_has 4 = .ok (.iand, 1) := by decide +kernel
theorem dX3_has_5 : decode cX3_has 5 = .ok (.ifCond .eq 7, 3) := by decide +kernel
theorem dX3_has_8 : decode cX3_has 8 = .ok (.iconst 1, 1) := by decide +kernel
theorem dX3_has_9 : decode cX3_has 9 = .ok (.goto 4, 3) := by decide +kernel
theorem dX3_has_12 : decode cX3_has 12 = .ok (.iconst 0, 1) := by decide +kernel
theorem dX3_has_13 : decode cX3_has 13 = .ok (.ireturn, 1) := by decide +kernel
set_option maxRecDepth 20000 in
theorem ggX3_needOf_X3_has : GoodIn wsX3_needOf wsX3_has := goodIn_r _ [7] (by decide +kernel) (by decide +kernel)
set_option maxRecDepth 20000 in
theorem gX3_needOf_X3_has : GoodIn wsX3_needOf (va_wsS RX3 333 yX3_has wsX3_has) := goodIn_app (goodIn_of _ (by decide +kernel)) ggX3_needOf_X3_has
theorem dX3_needOf_0 : decode cX3_needOf 0 = .ok (.iconst 0, 1) := by decide +kernel
theorem dX3_needOf_1 : decode cX3_needOf 1 = .ok (.istore_n 2, 1) := by decide +kernel
theorem dX3_needOf_2 : decode cX3_needOf 2 = .ok (.iconst 0, 1) := by decide +kernel
theorem dX3_needOf_3 : decode cX3_needOf 3 = .ok (.istore_n 3, 1) := by decide +kernel
theorem dX3_needOf_4 : decode cX3_needOf 4 = .ok (.iload_n 3, 1) := by decide +kernel
theorem dX3_needOf_5 : decode cX3_needOf 5 = .ok (.aload_n 0, 1) := by decide +kernel
theorem dX3_needOf_6 : decode cX3_needOf 6 = .ok (.getfield 29, 3) := by decide +kernel
theorem dX3_needOf_9 : decode cX3_needOf 9 = .ok (.getfield 116, 3) := by decide +kernel
theorem dX3_needOf_12 : decode cX3_needOf 12 = .ok (.if_icmp .ge 40, 3) := by decide +kernel
theorem dX3_needOf_15 : decode cX3_needOf 15 = .ok (.iload_n 1, 1) := by decide +kernel
theorem dX3_needOf_16 : decode cX3_needOf 16 = .ok (.iload_n 3, 1) := by decide +kernel
theorem dX3_needOf_17 : decode cX3_needOf 17 = .ok (.invokestatic 333, 3) := by decide +kernel
theorem dX3_needOf_20 : decode cX3_needOf 20 = .ok (.ifCond .eq 26, 3) := by decide +kernel
theorem dX3_needOf_23 : decode cX3_needOf 23 = .ok (.aload_n 0, 1) := by decide +kernel
theorem dX3_needOf_24 : decode cX3_needOf 24 = .ok (.getfield 51, 3) := by decide +kernel
theorem dX3_needOf_27 : decode cX3_needOf 27 = .ok (.iload_n 3, 1) := by decide +kernel
theorem dX3_needOf_28 : decode cX3_needOf 28 = .ok (.iaload, 1) := by decide +kernel
theorem dX3_needOf_29 : decode cX3_needOf 29 = .ok (.bipush (-9), 2) := by decide +kernel
theorem dX3_needOf_31 : decode cX3_needOf 31 = .ok (.if_icmp .ne 6, 3) := by decide +kernel
theorem dX3_needOf_34 : decode cX3_needOf 34 = .ok (.bipush (-9), 2) := by decide +kernel
theorem dX3_needOf_36 : decode cX3_needOf 36 = .ok (.ireturn, 1) := by decide +kernel
theorem dX3_needOf_37 : decode cX3_needOf 37 = .ok (.iload_n 2, 1) := by decide +kernel
theorem dX3_needOf_38 : decode cX3_needOf 38 = .ok (.aload_n 0, 1) := by decide +kernel
theorem dX3_needOf_39 : decode cX3_needOf 39 = .ok (.getfield 51, 3) := by decide +kernel
theorem dX3_needOf_42 : decode cX3_needOf 42 = .ok (.iload_n 3, 1) := by decide +kernel
theorem dX3_needOf_43 : decode cX3_needOf 43 = .ok (.iaload, 1) := by decide +kernel
theorem dX3_needOf_44 : decode cX3_needOf 44 = .ok (.iadd, 1) := by decide +kernel
theorem dX3_needOf_45 : decode cX3_needOf 45 = .ok (.istore_n 2, 1) := by decide +kernel
theorem dX3_needOf_46 : decode cX3_needOf 46 = .ok (.iinc 3 1, 3) := by decide +kernel
theorem dX3_needOf_49 : decode cX3_needOf 49 = .ok (.goto (-45), 3) := by decide +kernel
theorem dX3_needOf_52 : decode cX3_needOf 52 = .ok (.iload_n 2, 1) := by decide +kernel
theorem dX3_needOf_53 : decode cX3_needOf 53 = .ok (.ireturn, 1) := by decide +kernel
set_option maxRecDepth 20000 in
theorem ggX3_worksByLending_X2_now : GoodIn wsX3_worksByLending wsX2_now := goodIn_r _ [9, 10, 11, 78, 79] (by decide +kernel) (by decide +kernel)
set_option maxRecDepth 20000 in
theorem gX3_worksByLending_X2_now : GoodIn wsX3_worksByLending (wsV RX3 132 RX2 yX2_now wsX2_now) := goodIn_app (goodIn_of _ (by decide +kernel)) ggX3_worksByLending_X2_now
set_option maxRecDepth 20000 in
theorem ggX3_worksByLending_X1_become : GoodIn wsX3_worksByLending wsX1_become := goodIn_r _ [16, 17, 18, 19, 20, 21, 22, 23, 75, 76, 77] (by decide +kernel) (by decide +kernel)
set_option maxRecDepth 20000 in
theorem gX3_worksByLending_X1_become : GoodIn wsX3_worksByLending (wsV RX3 193 RX1 yX1_become wsX1_become) := goodIn_app (goodIn_of _ (by decide +kernel)) ggX3_worksByLending_X1_become
set_option maxRecDepth 20000 in
theorem ggX3_worksByLending_X1_pass : GoodIn wsX3_worksByLending wsX1_pass := goodIn_r _ [27, 17, 28, 29, 30, 15, 31, 32, 33, 34, 35, 23, 75, 76, 77] (by decide +kernel) (by decide +kernel)
set_option maxRecDepth 20000 in
theorem gX3_worksByLending_X1_pass : GoodIn wsX3_worksByLending (wsV RX3 170 RX1 yX1_pass wsX1_pass) := goodIn_app (goodIn_of _ (by decide +kernel)) ggX3_worksByLending_X1_pass
set_option maxRecDepth 20000 in
theorem ggX3_worksByLending_X1_worksOff : GoodIn wsX3_worksByLending wsX1_worksOff := goodIn_r _ [39, 40, 17, 41, 42, 43, 44, 45, 46, 47, 48, 49, 50, 51, 52, 34, 53, 80, 81, 82, 83, 75, 76, 77] (by decide +kernel) (by decide +kernel)
set_option maxRecDepth 20000 in
theorem gX3_worksByLending_X1_worksOff : GoodIn wsX3_worksByLending (wsV RX3 185 RX1 yX1_worksOff wsX1_worksOff) := goodIn_app (goodIn_of _ (by decide +kernel)) ggX3_worksByLending_X1_worksOff
set_option maxRecDepth 20000 in
theorem ggX3_worksByLending_J6_bitCount_0f7a4 : GoodIn wsX3_worksByLending wsJ6_bitCount_0f7a4 := goodIn_r _ [57, 58, 59, 60] (by decide +kernel) (by decide +kernel)
set_option maxRecDepth 20000 in
theorem gX3_worksByLending_J6_bitCount_0f7a4 : GoodIn wsX3_worksByLending (va_wsS RX3 188 yJ6_bitCount_0f7a4 wsJ6_bitCount_0f7a4) := goodIn_app (goodIn_of _ (by decide +kernel)) ggX3_worksByLending_J6_bitCount_0f7a4
theorem dX3_worksByLending_0 : decode cX3_worksByLending 0 = .ok (.aload_n 0, 1) := by decide +kernel
theorem dX3_worksByLending_1 : decode cX3_worksByLending 1 = .ok (.getfield 36, 3) := by decide +kernel
theorem dX3_worksByLending_4 : decode cX3_worksByLending 4 = .ok (.invokevirtual 132, 3) := by decide +kernel
theorem dX3_worksByLending_7 : decode cX3_worksByLending 7 = .ok (.astore 4, 2) := by decide +kernel
theorem dX3_worksByLending_9 : decode cX3_worksByLending 9 = .ok (.iload_n 1, 1) := by decide +kernel
theorem dX3_worksByLending_10 : decode cX3_worksByLending 10 = .ok (.iload_n 2, 1) := by decide +kernel
theorem dX3_worksByLending_11 : decode cX3_worksByLending 11 = .ok (.if_icmp .eq 14, 3) := by decide +kernel
theorem dX3_worksByLending_14 : decode cX3_worksByLending 14 = .ok (.aload 4, 2) := by decide +kernel
theorem dX3_worksByLending_16 : decode cX3_worksByLending 16 = .ok (.getfield 136, 3) := by decide +kernel
theorem dX3_worksByLending_19 : decode cX3_worksByLending 19 = .ok (.iload_n 1, 1) := by decide +kernel
theorem dX3_worksByLending_20 : decode cX3_worksByLending 20 = .ok (.iaload, 1) := by decide +kernel
theorem dX3_worksByLending_21 : decode cX3_worksByLending 21 = .ok (.iload_n 3, 1) := by decide +kernel
theorem dX3_worksByLending_22 : decode cX3_worksByLending 22 = .ok (.if_icmp .ge 6, 3) := by decide +kernel
theorem dX3_worksByLending_25 : decode cX3_worksByLending 25 = .ok (.bipush (-9), 2) := by decide +kernel
theorem dX3_worksByLending_27 : decode cX3_worksByLending 27 = .ok (.ireturn, 1) := by decide +kernel
theorem dX3_worksByLending_28 : decode cX3_worksByLending 28 = .ok (.aload_n 0, 1) := by decide +kernel
theorem dX3_worksByLending_29 : decode cX3_worksByLending 29 = .ok (.getfield 47, 3) := by decide +kernel
theorem dX3_worksByLending_32 : decode cX3_worksByLending 32 = .ok (.aload 4, 2) := by decide +kernel
theorem dX3_worksByLending_34 : decode cX3_worksByLending 34 = .ok (.invokevirtual 193, 3) := by decide +kernel
theorem dX3_worksByLending_37 : decode cX3_worksByLending 37 = .ok (.aload_n 0, 1) := by decide +kernel
theorem dX3_worksByLending_38 : decode cX3_worksByLending 38 = .ok (.getfield 47, 3) := by decide +kernel
theorem dX3_worksByLending_41 : decode cX3_worksByLending 41 = .ok (.iload_n 1, 1) := by decide +kernel
theorem dX3_worksByLending_42 : decode cX3_worksByLending 42 = .ok (.iload_n 2, 1) := by decide +kernel
theorem dX3_worksByLending_43 : decode cX3_worksByLending 43 = .ok (.iload_n 3, 1) := by decide +kernel
theorem dX3_worksByLending_44 : decode cX3_worksByLending 44 = .ok (.invokevirtual 170, 3) := by decide +kernel
theorem dX3_worksByLending_47 : decode cX3_worksByLending 47 = .ok (.aload_n 0, 1) := by decide +kernel
theorem dX3_worksByLending_48 : decode cX3_worksByLending 48 = .ok (.getfield 47, 3) := by decide +kernel
theorem dX3_worksByLending_51 : decode cX3_worksByLending 51 = .ok (.aload_n 0, 1) := by decide +kernel
theorem dX3_worksByLending_52 : decode cX3_worksByLending 52 = .ok (.getfield 29, 3) := by decide +kernel
theorem dX3_worksByLending_55 : decode cX3_worksByLending 55 = .ok (.invokevirtual 185, 3) := by decide +kernel
theorem dX3_worksByLending_58 : decode cX3_worksByLending 58 = .ok (.invokestatic 188, 3) := by decide +kernel
theorem dX3_worksByLending_61 : decode cX3_worksByLending 61 = .ok (.ireturn, 1) := by decide +kernel
set_option maxRecDepth 20000 in
theorem ggX3_broughtWithGreedy_X2_now : GoodIn wsX3_broughtWithGreedy wsX2_now := goodIn_r _ [11, 12, 13, 46, 47] (by decide +kernel) (by decide +kernel)
set_option maxRecDepth 20000 in
theorem gX3_broughtWithGreedy_X2_now : GoodIn wsX3_broughtWithGreedy (wsV RX3 132 RX2 yX2_now wsX2_now) := goodIn_app (goodIn_of _ (by decide +kernel)) ggX3_broughtWithGreedy_X2_now
set_option maxRecDepth 20000 in
theorem ggX3_broughtWithGreedy_X3_has : GoodIn wsX3_broughtWithGreedy wsX3_has := goodIn_r _ [17] (by decide +kernel) (by decide +kernel)
set_option maxRecDepth 20000 in
theorem gX3_broughtWithGreedy_X3_has : GoodIn wsX3_broughtWithGreedy (va_wsS RX3 333 yX3_has wsX3_has) := goodIn_app (goodIn_of _ (by decide +kernel)) ggX3_broughtWithGreedy_X3_has
set_option maxRecDepth 20000 in
theorem ggX3_broughtWithGreedy_X3_broughtBy : GoodIn wsX3_broughtWithGreedy wsX3_broughtBy := goodIn_r _ [20, 21, 22, 23, 24] (by decide +kernel) (by decide +kernel)
set_option maxRecDepth 20000 in
theorem gX3_broughtWithGreedy_X3_broughtBy : GoodIn wsX3_broughtWithGreedy (va_wsS RX3 330 yX3_broughtBy wsX3_broughtBy) := goodIn_app (goodIn_of _ (by decide +kernel)) ggX3_broughtWithGreedy_X3_broughtBy
theorem dX3_broughtWithGreedy_0 : decode cX3_broughtWithGreedy 0 = .ok (.aload_n 0, 1) := by decide +kernel
theorem dX3_broughtWithGreedy_1 : decode cX3_broughtWithGreedy 1 = .ok (.getfield 36, 3) := by decide +kernel
theorem dX3_broughtWithGreedy_4 : decode cX3_broughtWithGreedy 4 = .ok (.invokevirtual 132, 3) := by decide +kernel
theorem dX3_broughtWithGreedy_7 : decode cX3_broughtWithGreedy 7 = .ok (.astore_n 2, 1) := by decide +kernel
theorem dX3_broughtWithGreedy_8 : decode cX3_broughtWithGreedy 8 = .ok (.iconst 0, 1) := by decide +kernel
theorem dX3_broughtWithGreedy_9 : decode cX3_broughtWithGreedy 9 = .ok (.istore_n 3, 1) := by decide +kernel
theorem dX3_broughtWithGreedy_10 : decode cX3_broughtWithGreedy 10 = .ok (.iconst 0, 1) := by decide +kernel
theorem dX3_broughtWithGreedy_11 : decode cX3_broughtWithGreedy 11 = .ok (.istore 4, 2) := by decide +kernel
theorem dX3_broughtWithGreedy_13 : decode cX3_broughtWithGreedy 13 = .ok (.iload 4, 2) := by decide +kernel
theorem dX3_broughtWithGreedy_15 : decode cX3_broughtWithGreedy 15 = .ok (.aload_n 0, 1) := by decide +kernel
theorem dX3_broughtWithGreedy_16 : decode cX3_broughtWithGreedy 16 = .ok (.getfield 29, 3) := by decide +kernel
theorem dX3_broughtWithGreedy_19 : decode cX3_broughtWithGreedy 19 = .ok (.getfield 116, 3) := by decide +kernel
theorem dX3_broughtWithGreedy_22 : decode cX3_broughtWithGreedy 22 = .ok (.if_icmp .ge 53, 3) := by decide +kernel
theorem dX3_broughtWithGreedy_25 : decode cX3_broughtWithGreedy 25 = .ok (.iload_n 1, 1) := by decide +kernel
theorem dX3_broughtWithGreedy_26 : decode cX3_broughtWithGreedy 26 = .ok (.iload 4, 2) := by decide +kernel
theorem dX3_broughtWithGreedy_28 : decode cX3_broughtWithGreedy 28 = .ok (.invokestatic 333, 3) := by decide +kernel
theorem dX3_broughtWithGreedy_31 : decode cX3_broughtWithGreedy 31 = .ok (.ifCond .eq 7, 3) := by decide +kernel
theorem dX3_broughtWithGreedy_34 : decode cX3_broughtWithGreedy 34 = .ok (.iconst 3, 1) := by decide +kernel
theorem dX3_broughtWithGreedy_35 : decode cX3_broughtWithGreedy 35 = .ok (.goto 13, 3) := by decide +kernel
theorem dX3_broughtWithGreedy_38 : decode cX3_broughtWithGreedy 38 = .ok (.aload_n 0, 1) := by decide +kernel
theorem dX3_broughtWithGreedy_39 : decode cX3_broughtWithGreedy 39 = .ok (.getfield 29, 3) := by decide +kernel
theorem dX3_broughtWithGreedy_42 : decode cX3_broughtWithGreedy 42 = .ok (.getfield 125, 3) := by decide +kernel
theorem dX3_broughtWithGreedy_45 : decode cX3_broughtWithGreedy 45 = .ok (.iload 4, 2) := by decide +kernel
theorem dX3_broughtWithGreedy_47 : decode cX3_broughtWithGreedy 47 = .ok (.iaload, 1) := by decide +kernel
theorem dX3_broughtWithGreedy_48 : decode cX3_broughtWithGreedy 48 = .ok (.istore 5, 2) := by decide +kernel
theorem dX3_broughtWithGreedy_50 : decode cX3_broughtWithGreedy 50 = .ok (.iload_n 3, 1) := by decide +kernel
theorem dX3_broughtWithGreedy_51 : decode cX3_broughtWithGreedy 51 = .ok (.iload 5, 2) := by decide +kernel
theorem dX3_broughtWithGreedy_53 : decode cX3_broughtWithGreedy 53 = .ok (.aload_n 2, 1) := by decide +kernel
theorem dX3_broughtWithGreedy_54 : decode cX3_broughtWithGreedy 54 = .ok (.getfield 136, 3) := by decide +kernel
theorem dX3_broughtWithGreedy_57 : decode cX3_broughtWithGreedy 57 = .ok (.iload 4, 2) := by decide +kernel
theorem dX3_broughtWithGreedy_59 : decode cX3_broughtWithGreedy 59 = .ok (.iaload, 1) := by decide +kernel
theorem dX3_broughtWithGreedy_60 : decode cX3_broughtWithGreedy 60 = .ok (.aload_n 2, 1) := by decide +kernel
theorem dX3_broughtWithGreedy_61 : decode cX3_broughtWithGreedy 61 = .ok (.getfield 146, 3) := by decide +kernel
theorem dX3_broughtWithGreedy_64 : decode cX3_broughtWithGreedy 64 = .ok (.invokestatic 330, 3) := by decide +kernel
theorem dX3_broughtWithGreedy_67 : decode cX3_broughtWithGreedy 67 = .ok (.iadd, 1) := by decide +kernel
theorem dX3_broughtWithGreedy_68 : decode cX3_broughtWithGreedy 68 = .ok (.istore_n 3, 1) := by decide +kernel
theorem dX3_broughtWithGreedy_69 : decode cX3_broughtWithGreedy 69 = .ok (.iinc 4 1, 3) := by decide +kernel
theorem dX3_broughtWithGreedy_72 : decode cX3_broughtWithGreedy 72 = .ok (.goto (-59), 3) := by decide +kernel
theorem dX3_broughtWithGreedy_75 : decode cX3_broughtWithGreedy 75 = .ok (.iload_n 3, 1) := by decide +kernel
theorem dX3_broughtWithGreedy_76 : decode cX3_broughtWithGreedy 76 = .ok (.ireturn, 1) := by decide +kernel
set_option maxRecDepth 20000 in
theorem ggX3_worksWithIdle_X2_now : GoodIn wsX3_worksWithIdle wsX2_now := goodIn_r _ [9, 10, 11, 58, 59] (by decide +kernel) (by decide +kernel)
set_option maxRecDepth 20000 in
theorem gX3_worksWithIdle_X2_now : GoodIn wsX3_worksWithIdle (wsV RX3 132 RX2 yX2_now wsX2_now) := goodIn_app (goodIn_of _ (by decide +kernel)) ggX3_worksWithIdle_X2_now
set_option maxRecDepth 20000 in
theorem ggX3_worksWithIdle_X3_has : GoodIn wsX3_worksWithIdle wsX3_has := goodIn_r _ [15] (by decide +kernel) (by decide +kernel)
set_option maxRecDepth 20000 in
theorem gX3_worksWithIdle_X3_has : GoodIn wsX3_worksWithIdle (va_wsS RX3 333 yX3_has wsX3_has) := goodIn_app (goodIn_of _ (by decide +kernel)) ggX3_worksWithIdle_X3_has
set_option maxRecDepth 20000 in
theorem ggX3_worksWithIdle_X0_jarBehind : GoodIn wsX3_worksWithIdle wsX0_jarBehind := goodIn_r _ [20, 21, 22, 23, 24, 25, 51, 52, 53, 54] (by decide +kernel) (by decide +kernel)
set_option maxRecDepth 20000 in
theorem gX3_worksWithIdle_X0_jarBehind : GoodIn wsX3_worksWithIdle (wsV RX3 196 RX0 yX0_jarBehind wsX0_jarBehind) := goodIn_app (goodIn_of _ (by decide +kernel)) ggX3_worksWithIdle_X0_jarBehind
set_option maxRecDepth 20000 in
theorem ggX3_worksWithIdle_X0_comesOff : GoodIn wsX3_worksWithIdle wsX0_comesOff := goodIn_r _ [29, 30, 31, 32, 14, 33, 34, 35, 24, 36, 51, 52, 53, 54] (by decide +kernel) (by decide +kernel)
set_option maxRecDepth 20000 in
theorem gX3_worksWithIdle_X0_comesOff : GoodIn wsX3_worksWithIdle (wsV RX3 199 RX0 yX0_comesOff wsX0_comesOff) := goodIn_app (goodIn_of _ (by decide +kernel)) ggX3_worksWithIdle_X0_comesOff
theorem dX3_worksWithIdle_0 : decode cX3_worksWithIdle 0 = .ok (.aload_n 0, 1) := by decide +kernel
theorem dX3_worksWithIdle_1 : decode cX3_worksWithIdle 1 = .ok (.getfield 36, 3) := by decide +kernel
theorem dX3_worksWithIdle_4 : decode cX3_worksWithIdle 4 = .ok (.invokevirtual 132, 3) := by decide +kernel
theorem dX3_worksWithIdle_7 : decode cX3_worksWithIdle 7 = .ok (.astore_n 2, 1) := by decide +kernel
theorem dX3_worksWithIdle_8 : decode cX3_worksWithIdle 8 = .ok (.iconst 0, 1) := by decide +kernel
theorem dX3_worksWithIdle_9 : decode cX3_worksWithIdle 9 = .ok (.istore_n 3, 1) := by decide +kernel
theorem dX3_worksWithIdle_10 : decode cX3_worksWithIdle 10 = .ok (.iconst 0, 1) := by decide +kernel
theorem dX3_worksWithIdle_11 : decode cX3_worksWithIdle 11 = .ok (.istore 4, 2) := by decide +kernel
theorem dX3_worksWithIdle_13 : decode cX3_worksWithIdle 13 = .ok (.iload 4, 2) := by decide +kernel
theorem dX3_worksWithIdle_15 : decode cX3_worksWithIdle 15 = .ok (.aload_n 0, 1) := by decide +kernel
theorem dX3_worksWithIdle_16 : decode cX3_worksWithIdle 16 = .ok (.getfield 29, 3) := by decide +kernel
theorem dX3_worksWithIdle_19 : decode cX3_worksWithIdle 19 = .ok (.getfield 116, 3) := by decide +kernel
theorem dX3_worksWithIdle_22 : decode cX3_worksWithIdle 22 = .ok (.if_icmp .ge 58, 3) := by decide +kernel
theorem dX3_worksWithIdle_25 : decode cX3_worksWithIdle 25 = .ok (.iload_n 1, 1) := by decide +kernel
theorem dX3_worksWithIdle_26 : decode cX3_worksWithIdle 26 = .ok (.iload 4, 2) := by decide +kernel
theorem dX3_worksWithIdle_28 : decode cX3_worksWithIdle 28 = .ok (.invokestatic 333, 3) := by decide +kernel
theorem dX3_worksWithIdle_31 : decode cX3_worksWithIdle 31 = .ok (.ifCond .eq 7, 3) := by decide +kernel
theorem dX3_worksWithIdle_34 : decode cX3_worksWithIdle 34 = .ok (.iconst 0, 1) := by decide +kernel
theorem dX3_worksWithIdle_35 : decode cX3_worksWithIdle 35 = .ok (.goto 4, 3) := by decide +kernel
theorem dX3_worksWithIdle_38 : decode cX3_worksWithIdle 38 = .ok (.iconst 1, 1) := by decide +kernel
theorem dX3_worksWithIdle_39 : decode cX3_worksWithIdle 39 = .ok (.istore 5, 2) := by decide +kernel
theorem dX3_worksWithIdle_41 : decode cX3_worksWithIdle 41 = .ok (.aload_n 0, 1) := by decide +kernel
theorem dX3_worksWithIdle_42 : decode cX3_worksWithIdle 42 = .ok (.getfield 29, 3) := by decide +kernel
theorem dX3_worksWithIdle_45 : decode cX3_worksWithIdle 45 = .ok (.iload 4, 2) := by decide +kernel
theorem dX3_worksWithIdle_47 : decode cX3_worksWithIdle 47 = .ok (.aload_n 0, 1) := by decide +kernel
theorem dX3_worksWithIdle_48 : decode cX3_worksWithIdle 48 = .ok (.getfield 29, 3) := by decide +kernel
theorem dX3_worksWithIdle_51 : decode cX3_worksWithIdle 51 = .ok (.iload 4, 2) := by decide +kernel
theorem dX3_worksWithIdle_53 : decode cX3_worksWithIdle 53 = .ok (.aload_n 2, 1) := by decide +kernel
theorem dX3_worksWithIdle_54 : decode cX3_worksWithIdle 54 = .ok (.getfield 136, 3) := by decide +kernel
theorem dX3_worksWithIdle_57 : decode cX3_worksWithIdle 57 = .ok (.iload 4, 2) := by decide +kernel
theorem dX3_worksWithIdle_59 : decode cX3_worksWithIdle 59 = .ok (.iaload, 1) := by decide +kernel
theorem dX3_worksWithIdle_60 : decode cX3_worksWithIdle 60 = .ok (.iload 5, 2) := by decide +kernel
theorem dX3_worksWithIdle_62 : decode cX3_worksWithIdle 62 = .ok (.invokevirtual 196, 3) := by decide +kernel
theorem dX3_worksWithIdle_65 : decode cX3_worksWithIdle 65 = .ok (.invokevirtual 199, 3) := by decide +kernel
theorem dX3_worksWithIdle_68 : decode cX3_worksWithIdle 68 = .ok (.ifCond .eq 6, 3) := by decide +kernel
theorem dX3_worksWithIdle_71 : decode cX3_worksWithIdle 71 = .ok (.iinc 3 1, 3) := by decide +kernel
theorem dX3_worksWithIdle_74 : decode cX3_worksWithIdle 74 = .ok (.iinc 4 1, 3) := by decide +kernel
theorem dX3_worksWithIdle_77 : decode cX3_worksWithIdle 77 = .ok (.goto (-64), 3) := by decide +kernel
theorem dX3_worksWithIdle_80 : decode cX3_worksWithIdle 80 = .ok (.iload_n 3, 1) := by decide +kernel
theorem dX3_worksWithIdle_81 : decode cX3_worksWithIdle 81 = .ok (.ireturn, 1) := by decide +kernel
set_option maxRecDepth 20000 in
theorem ggX3_partOf_X3_has : GoodIn wsX3_partOf wsX3_has := goodIn_r _ [6] (by decide +kernel) (by decide +kernel)
set_option maxRecDepth 20000 in
theorem gX3_partOf_X3_has : GoodIn wsX3_partOf (va_wsS RX3 333 yX3_has wsX3_has) := goodIn_app (goodIn_of _ (by decide +kernel)) ggX3_partOf_X3_has
theorem dX3_partOf_0 : decode cX3_partOf 0 = .ok (.lconst 1, 1) := by decide +kernel
theorem dX3_partOf_1 : decode cX3_partOf 1 = .ok (.lstore_n 3, 1) := by decide +kernel
theorem dX3_partOf_2 : decode cX3_partOf 2 = .ok (.iconst 0, 1) := by decide +kernel
theorem dX3_partOf_3 : decode cX3_partOf 3 = .ok (.istore 5, 2) := by decide +kernel
theorem dX3_partOf_5 : decode cX3_partOf 5 = .ok (.iload 5, 2) := by decide +kernel
theorem dX3_partOf_7 : decode cX3_partOf 7 = .ok (.aload_n 0, 1) := by decide +kernel
theorem dX3_partOf_8 : decode cX3_partOf 8 = .ok (.getfield 29, 3) := by decide +kernel
theorem dX3_partOf_11 : decode cX3_partOf 11 = .ok (.getfield 116, 3) := by decide +kernel
theorem dX3_partOf_14 : decode cX3_partOf 14 = .ok (.if_icmp .ge 31, 3) := by decide +kernel
theorem dX3_partOf_17 : decode cX3_partOf 17 = .ok (.lload_n 3, 1) := by decide +kernel
theorem dX3_partOf_18 : decode cX3_partOf 18 = .ok (.iload_n 1, 1) := by decide +kernel
theorem dX3_partOf_19 : decode cX3_partOf 19 = .ok (.iload 5, 2) := by decide +kernel
theorem dX3_partOf_21 : decode cX3_partOf 21 = .ok (.invokestatic 333, 3) := by decide +kernel
theorem dX3_partOf_24 : decode cX3_partOf 24 = .ok (.ifCond .eq 8, 3) := by decide +kernel
theorem dX3_partOf_27 : decode cX3_partOf 27 = .ok (.iload_n 2, 1) := by decide +kernel
theorem dX3_partOf_28 : decode cX3_partOf 28 = .ok (.i2l, 1) := by decide +kernel
theorem dX3_partOf_29 : decode cX3_partOf 29 = .ok (.goto 8, 3) := by decide +kernel
theorem dX3_partOf_32 : decode cX3_partOf 32 = .ok (.bipush 12, 2) := by decide +kernel
theorem dX3_partOf_34 : decode cX3_partOf 34 = .ok (.iload_n 2, 1) := by decide +kernel
theorem dX3_partOf_35 : decode cX3_partOf 35 = .ok (.isub, 1) := by decide +kernel
theorem dX3_partOf_36 : decode cX3_partOf 36 = .ok (.i2l, 1) := by decide +kernel
theorem dX3_partOf_37 : decode cX3_partOf 37 = .ok (.lmul, 1) := by decide +kernel
theorem dX3_partOf_38 : decode cX3_partOf 38 = .ok (.lstore_n 3, 1) := by decide +kernel
theorem dX3_partOf_39 : decode cX3_partOf 39 = .ok (.iinc 5 1, 3) := by decide +kernel
theorem dX3_partOf_42 : decode cX3_partOf 42 = .ok (.goto (-37), 3) := by decide +kernel
theorem dX3_partOf_45 : decode cX3_partOf 45 = .ok (.lload_n 3, 1) := by decide +kernel
theorem dX3_partOf_46 : decode cX3_partOf 46 = .ok (.lreturn, 1) := by decide +kernel
set_option maxRecDepth 20000 in
theorem ggX3_lead_X3_worthTo : GoodIn wsX3_lead wsX3_worthTo := goodIn_r _ [8, 1, 2, 3, 4] (by decide +kernel) (by decide +kernel)
set_option maxRecDepth 20000 in
theorem gX3_lead_X3_worthTo : GoodIn wsX3_lead (va_wsS RX3 143 yX3_worthTo wsX3_worthTo) := goodIn_app (goodIn_of _ (by decide +kernel)) ggX3_lead_X3_worthTo
set_option maxRecDepth 20000 in
theorem ggX3_lead_X3_takenByTurn : GoodIn wsX3_lead wsX3_takenByTurn := goodIn_r _ [11, 12, 13, 3, 14] (by decide +kernel) (by decide +kernel)
set_option maxRecDepth 20000 in
theorem gX3_lead_X3_takenByTurn : GoodIn wsX3_lead (va_wsS RX3 339 yX3_takenByTurn wsX3_takenByTurn) := goodIn_app (goodIn_of _ (by decide +kernel)) ggX3_lead_X3_takenByTurn
set_option maxRecDepth 20000 in
theorem ggX3_lead_X3_leftByTurn : GoodIn wsX3_lead wsX3_leftByTurn := goodIn_r _ [17, 12, 13, 3, 14] (by decide +kernel) (by decide +kernel)
set_option maxRecDepth 20000 in
theorem gX3_lead_X3_leftByTurn : GoodIn wsX3_lead (va_wsS RX3 342 yX3_leftByTurn wsX3_leftByTurn) := goodIn_app (goodIn_of _ (by decide +kernel)) ggX3_lead_X3_leftByTurn
set_option maxRecDepth 20000 in
theorem ggX3_lead_X3_lead : GoodIn wsX3_lead wsX3_lead := goodIn_r _ [0, 1, 2, 3, 4, 5, 6, 7, 8, 9, 10, 11, 12, 13, 14, 15, 16, 17, 18, 19] (by decide +kernel) (by decide +kernel)
set_option maxRecDepth 20000 in
theorem gX3_lead_X3_lead : GoodIn wsX3_lead (va_wsS RX3 227 yX3_lead wsX3_lead) := goodIn_app (goodIn_of _ (by decide +kernel)) ggX3_lead_X3_lead
theorem dX3_lead_0 : decode cX3_lead 0 = .ok (.iload 5, 2) := by decide +kernel
theorem dX3_lead_2 : decode cX3_lead 2 = .ok (.ifCond .gt 15, 3) := by decide +kernel
theorem dX3_lead_5 : decode cX3_lead 5 = .ok (.iload_n 0, 1) := by decide +kernel
theorem dX3_lead_6 : decode cX3_lead 6 = .ok (.iload_n 1, 1) := by decide +kernel
theorem dX3_lead_7 : decode cX3_lead 7 = .ok (.invokestatic 143, 3) := by decide +kernel
theorem dX3_lead_10 : decode cX3_lead 10 = .ok (.iload_n 2, 1) := by decide +kernel
theorem dX3_lead_11 : decode cX3_lead 11 = .ok (.iload_n 3, 1) := by decide +kernel
theorem dX3_lead_12 : decode cX3_lead 12 = .ok (.invokestatic 143, 3) := by decide +kernel
theorem dX3_lead_15 : decode cX3_lead 15 = .ok (.isub, 1) := by decide +kernel
theorem dX3_lead_16 : decode cX3_lead 16 = .ok (.ireturn, 1) := by decide +kernel
theorem dX3_lead_17 : decode cX3_lead 17 = .ok (.iload_n 1, 1) := by decide +kernel
theorem dX3_lead_18 : decode cX3_lead 18 = .ok (.iload 4, 2) := by decide +kernel
theorem dX3_lead_20 : decode cX3_lead 20 = .ok (.invokestatic 339, 3) := by decide +kernel
theorem dX3_lead_23 : decode cX3_lead 23 = .ok (.istore 6, 2) := by decide +kernel
theorem dX3_lead_25 : decode cX3_lead 25 = .ok (.iload_n 1, 1) := by decide +kernel
theorem dX3_lead_26 : decode cX3_lead 26 = .ok (.invokestatic 342, 3) := by decide +kernel
theorem dX3_lead_29 : decode cX3_lead 29 = .ok (.istore 7, 2) := by decide +kernel
theorem dX3_lead_31 : decode cX3_lead 31 = .ok (.iload_n 2, 1) := by decide +kernel
theorem dX3_lead_32 : decode cX3_lead 32 = .ok (.iload_n 3, 1) := by decide +kernel
theorem dX3_lead_33 : decode cX3_lead 33 = .ok (.iload_n 0, 1) := by decide +kernel
theorem dX3_lead_34 : decode cX3_lead 34 = .ok (.iload_n 1, 1) := by decide +kernel
theorem dX3_lead_35 : decode cX3_lead 35 = .ok (.iload 4, 2) := by decide +kernel
theorem dX3_lead_37 : decode cX3_lead 37 = .ok (.iload 5, 2) := by decide +kernel
theorem dX3_lead_39 : decode cX3_lead 39 = .ok (.iconst 1, 1) := by decide +kernel
theorem dX3_lead_40 : decode cX3_lead 40 = .ok (.isub, 1) := by decide +kernel
theorem dX3_lead_41 : decode cX3_lead 41 = .ok (.invokestatic 227, 3) := by decide +kernel
theorem dX3_lead_44 : decode cX3_lead 44 = .ok (.ineg, 1) := by decide +kernel
theorem dX3_lead_45 : decode cX3_lead 45 = .ok (.istore 8, 2) := by decide +kernel
theorem dX3_lead_47 : decode cX3_lead 47 = .ok (.iload 8, 2) := by decide +kernel
theorem dX3_lead_49 : decode cX3_lead 49 = .ok (.iload_n 2, 1) := by decide +kernel
theorem dX3_lead_50 : decode cX3_lead 50 = .ok (.iload_n 3, 1) := by decide +kernel
theorem dX3_lead_51 : decode cX3_lead 51 = .ok (.iload_n 0, 1) := by decide +kernel
theorem dX3_lead_52 : decode cX3_lead 52 = .ok (.iload_n 1, 1) := by decide +kernel
theorem dX3_lead_53 : decode cX3_lead 53 = .ok (.iload 6, 2) := by decide +kernel
theorem dX3_lead_55 : decode cX3_lead 55 = .ok (.iadd, 1) := by decide +kernel
theorem dX3_lead_56 : decode cX3_lead 56 = .ok (.iload 4, 2) := by decide +kernel
theorem dX3_lead_58 : decode cX3_lead 58 = .ok (.iload 6, 2) := by decide +kernel
theorem dX3_lead_60 : decode cX3_lead 60 = .ok (.isub, 1) := by decide +kernel
theorem dX3_lead_61 : decode cX3_lead 61 = .ok (.iload 5, 2) := by decide +kernel
theorem dX3_lead_63 : decode cX3_lead 63 = .ok (.iconst 1, 1) := by decide +kernel
theorem dX3_lead_64 : decode cX3_lead 64 = .ok (.isub, 1) := by decide +kernel
theorem dX3_lead_65 : decode cX3_lead 65 = .ok (.invokestatic 227, 3) := by decide +kernel
theorem dX3_lead_68 : decode cX3_lead 68 = .ok (.ineg, 1) := by decide +kernel
theorem dX3_lead_69 : decode cX3_lead 69 = .ok (.invokestatic 325, 3) := by decide +kernel
theorem dX3_lead_72 : decode cX3_lead 72 = .ok (.istore 8, 2) := by decide +kernel
theorem dX3_lead_74 : decode cX3_lead 74 = .ok (.iload 8, 2) := by decide +kernel
theorem dX3_lead_76 : decode cX3_lead 76 = .ok (.iload_n 2, 1) := by decide +kernel
theorem dX3_lead_77 : decode cX3_lead 77 = .ok (.iload_n 3, 1) := by decide +kernel
theorem dX3_lead_78 : decode cX3_lead 78 = .ok (.iload_n 0, 1) := by decide +kernel
theorem dX3_lead_79 : decode cX3_lead 79 = .ok (.iload_n 1, 1) := by decide +kernel
theorem dX3_lead_80 : decode cX3_lead 80 = .ok (.iload 7, 2) := by decide +kernel
theorem dX3_lead_82 : decode cX3_lead 82 = .ok (.isub, 1) := by decide +kernel
theorem dX3_lead_83 : decode cX3_lead 83 = .ok (.iload 4, 2) := by decide +kernel
theorem dX3_lead_85 : decode cX3_lead 85 = .ok (.iload 7, 2) := by decide +kernel
theorem dX3_lead_87 : decode cX3_lead 87 = .ok (.iadd, 1) := by decide +kernel
theorem dX3_lead_88 : decode cX3_lead 88 = .ok (.iload 5, 2) := by decide +kernel
theorem dX3_lead_90 : decode cX3_lead 90 = .ok (.iconst 1, 1) := by decide +kernel
theorem dX3_lead_91 : decode cX3_lead 91 = .ok (.isub, 1) := by decide +kernel
theorem dX3_lead_92 : decode cX3_lead 92 = .ok (.invokestatic 227, 3) := by decide +kernel
theorem dX3_lead_95 : decode cX3_lead 95 = .ok (.ineg, 1) := by decide +kernel
theorem dX3_lead_96 : decode cX3_lead 96 = .ok (.invokestatic 325, 3) := by decide +kernel
theorem dX3_lead_99 : decode cX3_lead 99 = .ok (.ireturn, 1) := by decide +kernel
theorem dX3_takenByTurn_0 : decode cX3_takenByTurn 0 = .ok (.bipush 9, 2) := by decide +kernel
theorem dX3_takenByTurn_2 : decode cX3_takenByTurn 2 = .ok (.iload_n 1, 1) := by decide +kernel
theorem dX3_takenByTurn_3 : decode cX3_takenByTurn 3 = .ok (.bipush 99, 2) := by decide +kernel
theorem dX3_takenByTurn_5 : decode cX3_takenByTurn 5 = .ok (.iload_n 0, 1) := by decide +kernel
theorem dX3_takenByTurn_6 : decode cX3_takenByTurn 6 = .ok (.isub, 1) := by decide +kernel
theorem dX3_takenByTurn_7 : decode cX3_takenByTurn 7 = .ok (.invokestatic 345, 3) := by decide +kernel
theorem dX3_takenByTurn_10 : decode cX3_takenByTurn 10 = .ok (.invokestatic 345, 3) := by decide +kernel
theorem dX3_takenByTurn_13 : decode cX3_takenByTurn 13 = .ok (.ireturn, 1) := by decide +kernel
theorem dX3_leftByTurn_0 : decode cX3_leftByTurn 0 = .ok (.bipush 9, 2) := by decide +kernel
theorem dX3_leftByTurn_2 : decode cX3_leftByTurn 2 = .ok (.iload_n 0, 1) := by decide +kernel
theorem dX3_leftByTurn_3 : decode cX3_leftByTurn 3 = .ok (.invokestatic 345, 3) := by decide +kernel
theorem dX3_leftByTurn_6 : decode cX3_leftByTurn 6 = .ok (.ireturn, 1) := by decide +kernel
set_option maxRecDepth 20000 in
theorem ggX3_doByLot_X1_shareOut : GoodIn wsX3_doByLot wsX1_shareOut := goodIn_r _ [10, 11, 12, 13, 14, 15, 16, 9, 17, 18, 19, 20, 21, 22, 23, 24, 25, 26, 27, 28, 29, 30, 31, 32, 33, 34, 35, 36, 37, 74, 75, 76, 77, 78, 79, 80] (by decide +kernel) (by decide +kernel)
set_option maxRecDepth 20000 in
theorem gX3_doByLot_X1_shareOut : GoodIn wsX3_doByLot (wsV RX3 160 RX1 yX1_shareOut wsX1_shareOut) := goodIn_app (goodIn_of _ (by decide +kernel)) ggX3_doByLot_X1_shareOut
set_option maxRecDepth 20000 in
theorem ggX3_doByLot_X3_leftByTurn : GoodIn wsX3_doByLot wsX3_leftByTurn := goodIn_r _ [40, 41, 36, 29, 37] (by decide +kernel) (by decide +kernel)
set_option maxRecDepth 20000 in
theorem gX3_doByLot_X3_leftByTurn : GoodIn wsX3_doByLot (va_wsS RX3 342 yX3_leftByTurn wsX3_leftByTurn) := goodIn_app (goodIn_of _ (by decide +kernel)) ggX3_doByLot_X3_leftByTurn
set_option maxRecDepth 20000 in
theorem ggX3_doByLot_X1_toQuay : GoodIn wsX3_doByLot wsX1_toQuay := goodIn_r _ [45, 13, 12, 78, 79, 80] (by decide +kernel) (by decide +kernel)
set_option maxRecDepth 20000 in
theorem gX3_doByLot_X1_toQuay : GoodIn wsX3_doByLot (wsV RX3 174 RX1 yX1_toQuay wsX1_toQuay) := goodIn_app (goodIn_of _ (by decide +kernel)) ggX3_doByLot_X1_toQuay
set_option maxRecDepth 20000 in
theorem ggX3_doByLot_X3_takenByTurn : GoodIn wsX3_doByLot wsX3_takenByTurn := goodIn_r _ [48, 41, 36, 29, 37] (by decide +kernel) (by decide +kernel)
set_option maxRecDepth 20000 in
theorem gX3_doByLot_X3_takenByTurn : GoodIn wsX3_doByLot (va_wsS RX3 339 yX3_takenByTurn wsX3_takenByTurn) := goodIn_app (goodIn_of _ (by decide +kernel)) ggX3_doByLot_X3_takenByTurn
set_option maxRecDepth 20000 in
theorem ggX3_doByLot_X1_passDays : GoodIn wsX3_doByLot wsX1_passDays := goodIn_r _ [52, 11, 13, 23, 53, 54, 55, 56, 57, 58, 59, 36, 29, 37, 74, 75, 76, 77, 78, 79, 80] (by decide +kernel) (by decide +kernel)
set_option maxRecDepth 20000 in
theorem gX3_doByLot_X1_passDays : GoodIn wsX3_doByLot (wsV RX3 156 RX1 yX1_passDays wsX1_passDays) := goodIn_app (goodIn_of _ (by decide +kernel)) ggX3_doByLot_X1_passDays
theorem dX3_doByLot_0 : decode cX3_doByLot 0 = .ok (.aload_n 0, 1) := by decide +kernel
theorem dX3_doByLot_1 : decode cX3_doByLot 1 = .ok (.getfield 29, 3) := by decide +kernel
theorem dX3_doByLot_4 : decode cX3_doByLot 4 = .ok (.getfield 116, 3) := by decide +kernel
theorem dX3_doByLot_7 : decode cX3_doByLot 7 = .ok (.ifCond .ne 4, 3) := by decide +kernel
theorem dX3_doByLot_10 : decode cX3_doByLot 10 = .ok (.return_, 1) := by decide +kernel
theorem dX3_doByLot_11 : decode cX3_doByLot 11 = .ok (.iload_n 2, 1) := by decide +kernel
theorem dX3_doByLot_12 : decode cX3_doByLot 12 = .ok (.bipush 8, 2) := by decide +kernel
theorem dX3_doByLot_14 : decode cX3_doByLot 14 = .ok (.idiv, 1) := by decide +kernel
theorem dX3_doByLot_15 : decode cX3_doByLot 15 = .ok (.aload_n 0, 1) := by decide +kernel
theorem dX3_doByLot_16 : decode cX3_doByLot 16 = .ok (.getfield 29, 3) := by decide +kernel
theorem dX3_doByLot_19 : decode cX3_doByLot 19 = .ok (.getfield 116, 3) := by decide +kernel
theorem dX3_doByLot_22 : decode cX3_doByLot 22 = .ok (.irem, 1) := by decide +kernel
theorem dX3_doByLot_23 : decode cX3_doByLot 23 = .ok (.istore_n 3, 1) := by decide +kernel
theorem dX3_doByLot_24 : decode cX3_doByLot 24 = .ok (.iload_n 2, 1) := by decide +kernel
theorem dX3_doByLot_25 : decode cX3_doByLot 25 = .ok (.bipush 8, 2) := by decide +kernel
theorem dX3_doByLot_27 : decode cX3_doByLot 27 = .ok (.irem, 1) := by decide +kernel
theorem dX3_doByLot_28 : decode cX3_doByLot 28 = .ok (.tableswitch 79 0 2 #[28, 40, 57], 28) := by decide +kernel
theorem dX3_doByLot_56 : decode cX3_doByLot 56 = .ok (.aload_n 1, 1) := by decide +kernel
theorem dX3_doByLot_57 : decode cX3_doByLot 57 = .ok (.aload_n 0, 1) := by decide +kernel
theorem dX3_doByLot_58 : decode cX3_doByLot 58 = .ok (.getfield 29, 3) := by decide +kernel
theorem dX3_doByLot_61 : decode cX3_doByLot 61 = .ok (.invokevirtual 160, 3) := by decide +kernel
theorem dX3_doByLot_64 : decode cX3_doByLot 64 = .ok (.pop, 1) := by decide +kernel
theorem dX3_doByLot_65 : decode cX3_doByLot 65 = .ok (.goto 60, 3) := by decide +kernel
theorem dX3_doByLot_68 : decode cX3_doByLot 68 = .ok (.aload_n 1, 1) := by decide +kernel
theorem dX3_doByLot_69 : decode cX3_doByLot 69 = .ok (.iload_n 3, 1) := by decide +kernel
theorem dX3_doByLot_70 : decode cX3_doByLot 70 = .ok (.aload_n 1, 1) := by decide +kernel
theorem dX3_doByLot_71 : decode cX3_doByLot 71 = .ok (.getfield 136, 3) := by decide +kernel
theorem dX3_doByLot_74 : decode cX3_doByLot 74 = .ok (.iload_n 3, 1) := by decide +kernel
theorem dX3_doByLot_75 : decode cX3_doByLot 75 = .ok (.iaload, 1) := by decide +kernel
theorem dX3_doByLot_76 : decode cX3_doByLot 76 = .ok (.invokestatic 342, 3) := by decide +kernel
theorem dX3_doByLot_79 : decode cX3_doByLot 79 = .ok (.invokevirtual 174, 3) := by decide +kernel
theorem dX3_doByLot_82 : decode cX3_doByLot 82 = .ok (.goto 43, 3) := by decide +kernel
theorem dX3_doByLot_85 : decode cX3_doByLot 85 = .ok (.aload_n 1, 1) := by decide +kernel
theorem dX3_doByLot_86 : decode cX3_doByLot 86 = .ok (.iload_n 3, 1) := by decide +kernel
theorem dX3_doByLot_87 : decode cX3_doByLot 87 = .ok (.aload_n 1, 1) := by decide +kernel
theorem dX3_doByLot_88 : decode cX3_doByLot 88 = .ok (.getfield 136, 3) := by decide +kernel
theorem dX3_doByLot_91 : decode cX3_doByLot 91 = .ok (.iload_n 3, 1) := by decide +kernel
theorem dX3_doByLot_92 : decode cX3_doByLot 92 = .ok (.iaload, 1) := by decide +kernel
theorem dX3_doByLot_93 : decode cX3_doByLot 93 = .ok (.aload_n 1, 1) := by decide +kernel
theorem dX3_doByLot_94 : decode cX3_doByLot 94 = .ok (.getfield 164, 3) := by decide +kernel
theorem dX3_doByLot_97 : decode cX3_doByLot 97 = .ok (.invokestatic 339, 3) := by decide +kernel
theorem dX3_doByLot_100 : decode cX3_doByLot 100 = .ok (.ineg, 1) := by decide +kernel
theorem dX3_doByLot_101 : decode cX3_doByLot 101 = .ok (.invokevirtual 174, 3) := by decide +kernel
theorem dX3_doByLot_104 : decode cX3_doByLot 104 = .ok (.goto 21, 3) := by decide +kernel
theorem dX3_doByLot_107 : decode cX3_doByLot 107 = .ok (.aload_n 1, 1) := by decide +kernel
theorem dX3_doByLot_108 : decode cX3_doByLot 108 = .ok (.getfield 146, 3) := by decide +kernel
theorem dX3_doByLot_111 : decode cX3_doByLot 111 = .ok (.bipush 99, 2) := by decide +kernel
theorem dX3_doByLot_113 : decode cX3_doByLot 113 = .ok (.if_icmp .ge 12, 3) := by decide +kernel
theorem dX3_doByLot_116 : decode cX3_doByLot 116 = .ok (.aload_n 1, 1) := by decide +kernel
theorem dX3_doByLot_117 : decode cX3_doByLot 117 = .ok (.aload_n 0, 1) := by decide +kernel
theorem dX3_doByLot_118 : decode cX3_doByLot 118 = .ok (.getfield 29, 3) := by decide +kernel
theorem dX3_doByLot_121 : decode cX3_doByLot 121 = .ok (.iconst 1, 1) := by decide +kernel
theorem dX3_doByLot_122 : decode cX3_doByLot 122 = .ok (.invokevirtual 156, 3) := by decide +kernel
theorem dX3_doByLot_125 : decode cX3_doByLot 125 = .ok (.return_, 1) := by decide +kernel
