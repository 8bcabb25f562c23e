theorem dX0_init_0 : decode cX0_init 0 = .ok (.aload_n 0, 1) := by decide +kernel
theorem dX0_init_1 : decode cX0_init 1 = .ok (.invokespecial 3, 3) := by decide +kernel
theorem dX0_init_4 : decode cX0_init 4 = .ok (.aload_n 0, 1) := by decide +kernel
theorem dX0_init_5 : decode cX0_init 5 = .ok (.bipush 6, 2) := by decide +kernel
theorem dX0_init_7 : decode cX0_init 7 = .ok (.anewarray 9, 3) := by decide +kernel
theorem dX0_init_10 : decode cX0_init 10 = .ok (.putfield 11, 3) := by decide +kernel
theorem dX0_init_13 : decode cX0_init 13 = .ok (.aload_n 0, 1) := by decide +kernel
theorem dX0_init_14 : decode cX0_init 14 = .ok (.iconst 0, 1) := by decide +kernel
theorem dX0_init_15 : decode cX0_init 15 = .ok (.putfield 17, 3) := by decide +kernel
theorem dX0_init_18 : decode cX0_init 18 = .ok (.iconst 0, 1) := by decide +kernel
theorem dX0_init_19 : decode cX0_init 19 = .ok (.istore_n 1, 1) := by decide +kernel
theorem dX0_init_20 : decode cX0_init 20 = .ok (.iload_n 1, 1) := by decide +kernel
theorem dX0_init_21 : decode cX0_init 21 = .ok (.bipush 6, 2) := by decide +kernel
theorem dX0_init_23 : decode cX0_init 23 = .ok (.if_icmp .ge 22, 3) := by decide +kernel
theorem dX0_init_26 : decode cX0_init 26 = .ok (.aload_n 0, 1) := by decide +kernel
theorem dX0_init_27 : decode cX0_init 27 = .ok (.getfield 11, 3) := by decide +kernel
theorem dX0_init_30 : decode cX0_init 30 = .ok (.iload_n 1, 1) := by decide +kernel
theorem dX0_init_31 : decode cX0_init 31 = .ok (.new 9, 3) := by decide +kernel
theorem dX0_init_34 : decode cX0_init 34 = .ok (.dup, 1) := by decide +kernel
theorem dX0_init_35 : decode cX0_init 35 = .ok (.invokespecial 21, 3) := by decide +kernel
theorem dX0_init_38 : decode cX0_init 38 = .ok (.aastore, 1) := by decide +kernel
theorem dX0_init_39 : decode cX0_init 39 = .ok (.iinc 1 1, 3) := by decide +kernel
theorem dX0_init_42 : decode cX0_init 42 = .ok (.goto (-22), 3) := by decide +kernel
theorem dX0_init_45 : decode cX0_init 45 = .ok (.return_, 1) := by decide +kernel
theorem dX0_has_0 : decode cX0_has 0 = .ok (.iload_n 1, 1) := by decide +kernel
theorem dX0_has_1 : decode cX0_has 1 = .ok (.ifCond .lt 15, 3) := by decide +kernel
theorem dX0_has_4 : decode cX0_has 4 = .ok (.iload_n 1, 1) := by decide +kernel
theorem dX0_has_5 : decode cX0_has 5 = .ok (.aload_n 0, 1) := by decide +kernel
theorem dX0_has_6 : decode cX0_has 6 = .ok (.getfield 17, 3) := by decide +kernel
theorem dX0_has_9 : decode cX0_has 9 = .ok (.if_icmp .ge 7, 3) := by decide +kernel
theorem dX0_has_12 : decode cX0_has 12 = .ok (.iconst 1, 1) := by decide +kernel
theorem dX0_has_13 : decode cX0_has 13 = .ok (.goto 4, 3) := by decide +kernel
theorem dX0_has_16 : decode cX0_has 16 = .ok (.iconst 0, 1) := by decide +kernel
theorem dX0_has_17 : decode cX0_has 17 = .ok (.ireturn, 1) := by decide +kernel
theorem dX0_add_0 : decode cX0_add 0 = .ok (.aload_n 0, 1) := by decide +kernel
theorem dX0_add_1 : decode cX0_add 1 = .ok (.getfield 17, 3) := by decide +kernel
theorem dX0_add_4 : decode cX0_add 4 = .ok (.bipush 6, 2) := by decide +kernel
theorem dX0_add_6 : decode cX0_add 6 = .ok (.if_icmp .lt 4, 3) := by decide +kernel
theorem dX0_add_9 : decode cX0_add 9 = .ok (.return_, 1) := by decide +kernel
theorem dX0_add_10 : decode cX0_add 10 = .ok (.aload_n 0, 1) := by decide +kernel
theorem dX0_add_11 : decode cX0_add 11 = .ok (.getfield 11, 3) := by decide +kernel
theorem dX0_add_14 : decode cX0_add 14 = .ok (.aload_n 0, 1) := by decide +kernel
theorem dX0_add_15 : decode cX0_add 15 = .ok (.getfield 17, 3) := by decide +kernel
theorem dX0_add_18 : decode cX0_add 18 = .ok (.aaload, 1) := by decide +kernel
theorem dX0_add_19 : decode cX0_add 19 = .ok (.astore 5, 2) := by decide +kernel
theorem dX0_add_21 : decode cX0_add 21 = .ok (.aload 5, 2) := by decide +kernel
theorem dX0_add_23 : decode cX0_add 23 = .ok (.iload_n 1, 1) := by decide +kernel
theorem dX0_add_24 : decode cX0_add 24 = .ok (.putfield 22, 3) := by decide +kernel
theorem dX0_add_27 : decode cX0_add 27 = .ok (.aload 5, 2) := by decide +kernel
theorem dX0_add_29 : decode cX0_add 29 = .ok (.iload_n 2, 1) := by decide +kernel
theorem dX0_add_30 : decode cX0_add 30 = .ok (.putfield 25, 3) := by decide +kernel
theorem dX0_add_33 : decode cX0_add 33 = .ok (.aload 5, 2) := by decide +kernel
theorem dX0_add_35 : decode cX0_add 35 = .ok (.iload_n 3, 1) := by decide +kernel
theorem dX0_add_36 : decode cX0_add 36 = .ok (.putfield 28, 3) := by decide +kernel
theorem dX0_add_39 : decode cX0_add 39 = .ok (.aload 5, 2) := by decide +kernel
theorem dX0_add_41 : decode cX0_add 41 = .ok (.iload 4, 2) := by decide +kernel
theorem dX0_add_43 : decode cX0_add 43 = .ok (.putfield 31, 3) := by decide +kernel
theorem dX0_add_46 : decode cX0_add 46 = .ok (.aload 5, 2) := by decide +kernel
theorem dX0_add_48 : decode cX0_add 48 = .ok (.iconst 0, 1) := by decide +kernel
theorem dX0_add_49 : decode cX0_add 49 = .ok (.putfield 34, 3) := by decide +kernel
theorem dX0_add_52 : decode cX0_add 52 = .ok (.aload 5, 2) := by decide +kernel
theorem dX0_add_54 : decode cX0_add 54 = .ok (.iconst 0, 1) := by decide +kernel
theorem dX0_add_55 : decode cX0_add 55 = .ok (.putfield 37, 3) := by decide +kernel
theorem dX0_add_58 : decode cX0_add 58 = .ok (.aload_n 0, 1) := by decide +kernel
theorem dX0_add_59 : decode cX0_add 59 = .ok (.dup, 1) := by decide +kernel
theorem dX0_add_60 : decode cX0_add 60 = .ok (.getfield 17, 3) := by decide +kernel
theorem dX0_add_63 : decode cX0_add 63 = .ok (.iconst 1, 1) := by decide +kernel
theorem dX0_add_64 : decode cX0_add 64 = .ok (.iadd, 1) := by decide +kernel
theorem dX0_add_65 : decode cX0_add 65 = .ok (.putfield 17, 3) := by decide +kernel
theorem dX0_add_68 : decode cX0_add 68 = .ok (.return_, 1) := by decide +kernel
set_option maxRecDepth 20000 in
theorem ggX0_copyFrom_X2_copyFrom : GoodIn wsX0_copyFrom wsX2_copyFrom := goodIn_r _ [7, 8, 9, 10, 11, 12, 13, 16, 17, 18, 19, 20, 21] (by decide +kernel) (by decide +kernel)
set_option maxRecDepth 20000 in
theorem gX0_copyFrom_X2_copyFrom : GoodIn wsX0_copyFrom (wsV RX0 41 RX2 yX2_copyFrom wsX2_copyFrom) := goodIn_app (goodIn_of _ (by decide +kernel)) ggX0_copyFrom_X2_copyFrom
theorem dX0_copyFrom_0 : decode cX0_copyFrom 0 = .ok (.aload_n 0, 1) := by decide +kernel
theorem dX0_copyFrom_1 : decode cX0_copyFrom 1 = .ok (.aload_n 1, 1) := by decide +kernel
theorem dX0_copyFrom_2 : decode cX0_copyFrom 2 = .ok (.getfield 17, 3) := by decide +kernel
theorem dX0_copyFrom_5 : decode cX0_copyFrom 5 = .ok (.putfield 17, 3) := by decide +kernel
theorem dX0_copyFrom_8 : decode cX0_copyFrom 8 = .ok (.iconst 0, 1) := by decide +kernel
theorem dX0_copyFrom_9 : decode cX0_copyFrom 9 = .ok (.istore_n 2, 1) := by decide +kernel
theorem dX0_copyFrom_10 : decode cX0_copyFrom 10 = .ok (.iload_n 2, 1) := by decide +kernel
theorem dX0_copyFrom_11 : decode cX0_copyFrom 11 = .ok (.aload_n 0, 1) := by decide +kernel
theorem dX0_copyFrom_12 : decode cX0_copyFrom 12 = .ok (.getfield 17, 3) := by decide +kernel
theorem dX0_copyFrom_15 : decode cX0_copyFrom 15 = .ok (.if_icmp .ge 24, 3) := by decide +kernel
theorem dX0_copyFrom_18 : decode cX0_copyFrom 18 = .ok (.aload_n 0, 1) := by decide +kernel
theorem dX0_copyFrom_19 : decode cX0_copyFrom 19 = .ok (.getfield 11, 3) := by decide +kernel
theorem dX0_copyFrom_22 : decode cX0_copyFrom 22 = .ok (.iload_n 2, 1) := by decide +kernel
theorem dX0_copyFrom_23 : decode cX0_copyFrom 23 = .ok (.aaload, 1) := by decide +kernel
theorem dX0_copyFrom_24 : decode cX0_copyFrom 24 = .ok (.aload_n 1, 1) := by decide +kernel
theorem dX0_copyFrom_25 : decode cX0_copyFrom 25 = .ok (.getfield 11, 3) := by decide +kernel
theorem dX0_copyFrom_28 : decode cX0_copyFrom 28 = .ok (.iload_n 2, 1) := by decide +kernel
theorem dX0_copyFrom_29 : decode cX0_copyFrom 29 = .ok (.aaload, 1) := by decide +kernel
theorem dX0_copyFrom_30 : decode cX0_copyFrom 30 = .ok (.invokevirtual 41, 3) := by decide +kernel
theorem dX0_copyFrom_33 : decode cX0_copyFrom 33 = .ok (.iinc 2 1, 3) := by decide +kernel
theorem dX0_copyFrom_36 : decode cX0_copyFrom 36 = .ok (.goto (-26), 3) := by decide +kernel
theorem dX0_copyFrom_39 : decode cX0_copyFrom 39 = .ok (.return_, 1) := by decide +kernel
set_option maxRecDepth 20000 in
theorem ggX0_turn_X0_has : GoodIn wsX0_turn wsX0_has := goodIn_r _ [6, 7, 8, 9] (by decide +kernel) (by decide +kernel)
set_option maxRecDepth 20000 in
theorem gX0_turn_X0_has : GoodIn wsX0_turn (wsV RX0 45 RX0 yX0_has wsX0_has) := goodIn_app (goodIn_of _ (by decide +kernel)) ggX0_turn_X0_has
theorem dX0_turn_0 : decode cX0_turn 0 = .ok (.aload_n 0, 1) := by decide +kernel
theorem dX0_turn_1 : decode cX0_turn 1 = .ok (.iload_n 1, 1) := by decide +kernel
theorem dX0_turn_2 : decode cX0_turn 2 = .ok (.invokevirtual 45, 3) := by decide +kernel
theorem dX0_turn_5 : decode cX0_turn 5 = .ok (.ifCond .eq 16, 3) := by decide +kernel
theorem dX0_turn_8 : decode cX0_turn 8 = .ok (.aload_n 0, 1) := by decide +kernel
theorem dX0_turn_9 : decode cX0_turn 9 = .ok (.getfield 11, 3) := by decide +kernel
theorem dX0_turn_12 : decode cX0_turn 12 = .ok (.iload_n 1, 1) := by decide +kernel
theorem dX0_turn_13 : decode cX0_turn 13 = .ok (.aaload, 1) := by decide +kernel
theorem dX0_turn_14 : decode cX0_turn 14 = .ok (.getfield 37, 3) := by decide +kernel
theorem dX0_turn_17 : decode cX0_turn 17 = .ok (.iload_n 2, 1) := by decide +kernel
theorem dX0_turn_18 : decode cX0_turn 18 = .ok (.if_icmp .ne 5, 3) := by decide +kernel
theorem dX0_turn_21 : decode cX0_turn 21 = .ok (.iconst 0, 1) := by decide +kernel
theorem dX0_turn_22 : decode cX0_turn 22 = .ok (.ireturn, 1) := by decide +kernel
theorem dX0_turn_23 : decode cX0_turn 23 = .ok (.aload_n 0, 1) := by decide +kernel
theorem dX0_turn_24 : decode cX0_turn 24 = .ok (.getfield 11, 3) := by decide +kernel
theorem dX0_turn_27 : decode cX0_turn 27 = .ok (.iload_n 1, 1) := by decide +kernel
theorem dX0_turn_28 : decode cX0_turn 28 = .ok (.aaload, 1) := by decide +kernel
theorem dX0_turn_29 : decode cX0_turn 29 = .ok (.iload_n 2, 1) := by decide +kernel
theorem dX0_turn_30 : decode cX0_turn 30 = .ok (.putfield 37, 3) := by decide +kernel
theorem dX0_turn_33 : decode cX0_turn 33 = .ok (.iconst 1, 1) := by decide +kernel
theorem dX0_turn_34 : decode cX0_turn 34 = .ok (.ireturn, 1) := by decide +kernel
set_option maxRecDepth 20000 in
theorem ggX0_passDay_X2_hasArrived : GoodIn wsX0_passDay wsX2_hasArrived := goodIn_r _ [7, 8, 9, 10, 11, 12, 13, 14, 15, 16, 17, 18, 19, 20, 21, 22, 34, 35, 36, 37, 38, 39, 40, 41, 42, 43] (by decide +kernel) (by decide +kernel)
set_option maxRecDepth 20000 in
theorem gX0_passDay_X2_hasArrived : GoodIn wsX0_passDay (wsV RX0 49 RX2 yX2_hasArrived wsX2_hasArrived) := goodIn_app (goodIn_of _ (by decide +kernel)) ggX0_passDay_X2_hasArrived
set_option maxRecDepth 20000 in
theorem ggX0_passDay_X2_pace : GoodIn wsX0_passDay wsX2_pace := goodIn_r _ [26, 27, 28, 29, 30, 31, 34, 35, 36, 37, 38, 39] (by decide +kernel) (by decide +kernel)
set_option maxRecDepth 20000 in
theorem gX0_passDay_X2_pace : GoodIn wsX0_passDay (wsV RX0 53 RX2 yX2_pace wsX2_pace) := goodIn_app (goodIn_of _ (by decide +kernel)) ggX0_passDay_X2_pace
theorem dX0_passDay_0 : decode cX0_passDay 0 = .ok (.iconst 0, 1) := by decide +kernel
theorem dX0_passDay_1 : decode cX0_passDay 1 = .ok (.istore_n 2, 1) := by decide +kernel
theorem dX0_passDay_2 : decode cX0_passDay 2 = .ok (.iload_n 2, 1) := by decide +kernel
theorem dX0_passDay_3 : decode cX0_passDay 3 = .ok (.aload_n 0, 1) := by decide +kernel
theorem dX0_passDay_4 : decode cX0_passDay 4 = .ok (.getfield 17, 3) := by decide +kernel
theorem dX0_passDay_7 : decode cX0_passDay 7 = .ok (.if_icmp .ge 44, 3) := by decide +kernel
theorem dX0_passDay_10 : decode cX0_passDay 10 = .ok (.aload_n 0, 1) := by decide +kernel
theorem dX0_passDay_11 : decode cX0_passDay 11 = .ok (.getfield 11, 3) := by decide +kernel
theorem dX0_passDay_14 : decode cX0_passDay 14 = .ok (.iload_n 2, 1) := by decide +kernel
theorem dX0_passDay_15 : decode cX0_passDay 15 = .ok (.aaload, 1) := by decide +kernel
theorem dX0_passDay_16 : decode cX0_passDay 16 = .ok (.astore_n 3, 1) := by decide +kernel
theorem dX0_passDay_17 : decode cX0_passDay 17 = .ok (.aload_n 3, 1) := by decide +kernel
theorem dX0_passDay_18 : decode cX0_passDay 18 = .ok (.getfield 37, 3) := by decide +kernel
theorem dX0_passDay_21 : decode cX0_passDay 21 = .ok (.ifCond .ne 24, 3) := by decide +kernel
theorem dX0_passDay_24 : decode cX0_passDay 24 = .ok (.aload_n 3, 1) := by decide +kernel
theorem dX0_passDay_25 : decode cX0_passDay 25 = .ok (.aload_n 1, 1) := by decide +kernel
theorem dX0_passDay_26 : decode cX0_passDay 26 = .ok (.invokevirtual 49, 3) := by decide +kernel
theorem dX0_passDay_29 : decode cX0_passDay 29 = .ok (.ifCond .ne 16, 3) := by decide +kernel
theorem dX0_passDay_32 : decode cX0_passDay 32 = .ok (.aload_n 3, 1) := by decide +kernel
theorem dX0_passDay_33 : decode cX0_passDay 33 = .ok (.dup, 1) := by decide +kernel
theorem dX0_passDay_34 : decode cX0_passDay 34 = .ok (.getfield 34, 3) := by decide +kernel
theorem dX0_passDay_37 : decode cX0_passDay 37 = .ok (.aload_n 3, 1) := by decide +kernel
theorem dX0_passDay_38 : decode cX0_passDay 38 = .ok (.invokevirtual 53, 3) := by decide +kernel
theorem dX0_passDay_41 : decode cX0_passDay 41 = .ok (.iadd, 1) := by decide +kernel
theorem dX0_passDay_42 : decode cX0_passDay 42 = .ok (.putfield 34, 3) := by decide +kernel
theorem dX0_passDay_45 : decode cX0_passDay 45 = .ok (.iinc 2 1, 3) := by decide +kernel
theorem dX0_passDay_48 : decode cX0_passDay 48 = .ok (.goto (-46), 3) := by decide +kernel
theorem dX0_passDay_51 : decode cX0_passDay 51 = .ok (.return_, 1) := by decide +kernel
set_option maxRecDepth 20000 in
theorem ggX0_countArrived_X2_hasArrived : GoodIn wsX0_countArrived wsX2_hasArrived := goodIn_r _ [7, 8, 9, 10, 11, 12, 13, 14, 15, 16, 17, 18, 19, 20, 21, 22, 25, 26, 27, 28, 29, 30, 31, 32, 33, 34] (by decide +kernel) (by decide +kernel)
set_option maxRecDepth 20000 in
theorem gX0_countArrived_X2_hasArrived : GoodIn wsX0_countArrived (wsV RX0 49 RX2 yX2_hasArrived wsX2_hasArrived) := goodIn_app (goodIn_of _ (by decide +kernel)) ggX0_countArrived_X2_hasArrived
theorem dX0_countArrived_0 : decode cX0_countArrived 0 = .ok (.iconst 0, 1) := by decide +kernel
theorem dX0_countArrived_1 : decode cX0_countArrived 1 = .ok (.istore_n 2, 1) := by decide +kernel
theorem dX0_countArrived_2 : decode cX0_countArrived 2 = .ok (.iconst 0, 1) := by decide +kernel
theorem dX0_countArrived_3 : decode cX0_countArrived 3 = .ok (.istore_n 3, 1) := by decide +kernel
theorem dX0_countArrived_4 : decode cX0_countArrived 4 = .ok (.iload_n 3, 1) := by decide +kernel
theorem dX0_countArrived_5 : decode cX0_countArrived 5 = .ok (.aload_n 0, 1) := by decide +kernel
theorem dX0_countArrived_6 : decode cX0_countArrived 6 = .ok (.getfield 17, 3) := by decide +kernel
theorem dX0_countArrived_9 : decode cX0_countArrived 9 = .ok (.if_icmp .ge 25, 3) := by decide +kernel
theorem dX0_countArrived_12 : decode cX0_countArrived 12 = .ok (.aload_n 0, 1) := by decide +kernel
theorem dX0_countArrived_13 : decode cX0_countArrived 13 = .ok (.getfield 11, 3) := by decide +kernel
theorem dX0_countArrived_16 : decode cX0_countArrived 16 = .ok (.iload_n 3, 1) := by decide +kernel
theorem dX0_countArrived_17 : decode cX0_countArrived 17 = .ok (.aaload, 1) := by decide +kernel
theorem dX0_countArrived_18 : decode cX0_countArrived 18 = .ok (.aload_n 1, 1) := by decide +kernel
theorem dX0_countArrived_19 : decode cX0_countArrived 19 = .ok (.invokevirtual 49, 3) := by decide +kernel
theorem dX0_countArrived_22 : decode cX0_countArrived 22 = .ok (.ifCond .eq 6, 3) := by decide +kernel
theorem dX0_countArrived_25 : decode cX0_countArrived 25 = .ok (.iinc 2 1, 3) := by decide +kernel
theorem dX0_countArrived_28 : decode cX0_countArrived 28 = .ok (.iinc 3 1, 3) := by decide +kernel
theorem dX0_countArrived_31 : decode cX0_countArrived 31 = .ok (.goto (-27), 3) := by decide +kernel
theorem dX0_countArrived_34 : decode cX0_countArrived 34 = .ok (.iload_n 2, 1) := by decide +kernel
theorem dX0_countArrived_35 : decode cX0_countArrived 35 = .ok (.ireturn, 1) := by decide +kernel
set_option maxRecDepth 20000 in
theorem ggX0_allArrived_X0_countArrived : GoodIn wsX0_allArrived wsX0_countArrived := goodIn_r _ [6, 1, 7, 8, 9, 10, 11, 12, 13, 14, 15, 16, 17, 18, 19, 20, 21, 22, 23, 24, 25, 26, 27, 28, 29, 30, 31, 32, 33, 34, 35, 36, 37, 38, 39] (by decide +kernel) (by decide +kernel)
set_option maxRecDepth 20000 in
theorem gX0_allArrived_X0_countArrived : GoodIn wsX0_allArrived (wsV RX0 57 RX0 yX0_countArrived wsX0_countArrived) := goodIn_app (goodIn_of _ (by decide +kernel)) ggX0_allArrived_X0_countArrived
theorem dX0_allArrived_0 : decode cX0_allArrived 0 = .ok (.aload_n 0, 1) := by decide +kernel
theorem dX0_allArrived_1 : decode cX0_allArrived 1 = .ok (.aload_n 1, 1) := by decide +kernel
theorem dX0_allArrived_2 : decode cX0_allArrived 2 = .ok (.invokevirtual 57, 3) := by decide +kernel
theorem dX0_allArrived_5 : decode cX0_allArrived 5 = .ok (.aload_n 0, 1) := by decide +kernel
theorem dX0_allArrived_6 : decode cX0_allArrived 6 = .ok (.getfield 17, 3) := by decide +kernel
theorem dX0_allArrived_9 : decode cX0_allArrived 9 = .ok (.if_icmp .ne 7, 3) := by decide +kernel
theorem dX0_allArrived_12 : decode cX0_allArrived 12 = .ok (.iconst 1, 1) := by decide +kernel
theorem dX0_allArrived_13 : decode cX0_allArrived 13 = .ok (.goto 4, 3) := by decide +kernel
theorem dX0_allArrived_16 : decode cX0_allArrived 16 = .ok (.iconst 0, 1) := by decide +kernel
theorem dX0_allArrived_17 : decode cX0_allArrived 17 = .ok (.ireturn, 1) := by decide +kernel
theorem dX0_sitters_0 : decode cX0_sitters 0 = .ok (.iconst 0, 1) := by decide +kernel
theorem dX0_sitters_1 : decode cX0_sitters 1 = .ok (.istore_n 1, 1) := by decide +kernel
theorem dX0_sitters_2 : decode cX0_sitters 2 = .ok (.iconst 0, 1) := by decide +kernel
theorem dX0_sitters_3 : decode cX0_sitters 3 = .ok (.istore_n 2, 1) := by decide +kernel
theorem dX0_sitters_4 : decode cX0_sitters 4 = .ok (.iload_n 2, 1) := by decide +kernel
theorem dX0_sitters_5 : decode cX0_sitters 5 = .ok (.aload_n 0, 1) := by decide +kernel
theorem dX0_sitters_6 : decode cX0_sitters 6 = .ok (.getfield 17, 3) := by decide +kernel
theorem dX0_sitters_9 : decode cX0_sitters 9 = .ok (.if_icmp .ge 27, 3) := by decide +kernel
theorem dX0_sitters_12 : decode cX0_sitters 12 = .ok (.aload_n 0, 1) := by decide +kernel
theorem dX0_sitters_13 : decode cX0_sitters 13 = .ok (.getfield 11, 3) := by decide +kernel
theorem dX0_sitters_16 : decode cX0_sitters 16 = .ok (.iload_n 2, 1) := by decide +kernel
theorem dX0_sitters_17 : decode cX0_sitters 17 = .ok (.aaload, 1) := by decide +kernel
theorem dX0_sitters_18 : decode cX0_sitters 18 = .ok (.getfield 37, 3) := by decide +kernel
theorem dX0_sitters_21 : decode cX0_sitters 21 = .ok (.ifCond .eq 9, 3) := by decide +kernel
theorem dX0_sitters_24 : decode cX0_sitters 24 = .ok (.iload_n 1, 1) := by decide +kernel
theorem dX0_sitters_25 : decode cX0_sitters 25 = .ok (.iconst 1, 1) := by decide +kernel
theorem dX0_sitters_26 : decode cX0_sitters 26 = .ok (.iload_n 2, 1) := by decide +kernel
theorem dX0_sitters_27 : decode cX0_sitters 27 = .ok (.ishl, 1) := by decide +kernel
theorem dX0_sitters_28 : decode cX0_sitters 28 = .ok (.ior, 1) := by decide +kernel
theorem dX0_sitters_29 : decode cX0_sitters 29 = .ok (.istore_n 1, 1) := by decide +kernel
theorem dX0_sitters_30 : decode cX0_sitters 30 = .ok (.iinc 2 1, 3) := by decide +kernel
theorem dX0_sitters_33 : decode cX0_sitters 33 = .ok (.goto (-29), 3) := by decide +kernel
theorem dX0_sitters_36 : decode cX0_sitters 36 = .ok (.iload_n 1, 1) := by decide +kernel
theorem dX0_sitters_37 : decode cX0_sitters 37 = .ok (.ireturn, 1) := by decide +kernel
theorem dX0_walkedTogether_0 : decode cX0_walkedTogether 0 = .ok (.iconst 0, 1) := by decide +kernel
theorem dX0_walkedTogether_1 : decode cX0_walkedTogether 1 = .ok (.istore_n 1, 1) := by decide +kernel
theorem dX0_walkedTogether_2 : decode cX0_walkedTogether 2 = .ok (.iconst 0, 1) := by decide +kernel
theorem dX0_walkedTogether_3 : decode cX0_walkedTogether 3 = .ok (.istore_n 2, 1) := by decide +kernel
theorem dX0_walkedTogether_4 : decode cX0_walkedTogether 4 = .ok (.iload_n 2, 1) := by decide +kernel
theorem dX0_walkedTogether_5 : decode cX0_walkedTogether 5 = .ok (.aload_n 0, 1) := by decide +kernel
theorem dX0_walkedTogether_6 : decode cX0_walkedTogether 6 = .ok (.getfield 17, 3) := by decide +kernel
theorem dX0_walkedTogether_9 : decode cX0_walkedTogether 9 = .ok (.if_icmp .ge 21, 3) := by decide +kernel
theorem dX0_walkedTogether_12 : decode cX0_walkedTogether 12 = .ok (.iload_n 1, 1) := by decide +kernel
theorem dX0_walkedTogether_13 : decode cX0_walkedTogether 13 = .ok (.aload_n 0, 1) := by decide +kernel
theorem dX0_walkedTogether_14 : decode cX0_walkedTogether 14 = .ok (.getfield 11, 3) := by decide +kernel
theorem dX0_walkedTogether_17 : decode cX0_walkedTogether 17 = .ok (.iload_n 2, 1) := by decide +kernel
theorem dX0_walkedTogether_18 : decode cX0_walkedTogether 18 = .ok (.aaload, 1) := by decide +kernel
theorem dX0_walkedTogether_19 : decode cX0_walkedTogether 19 = .ok (.getfield 34, 3) := by decide +kernel
theorem dX0_walkedTogether_22 : decode cX0_walkedTogether 22 = .ok (.iadd, 1) := by decide +kernel
theorem dX0_walkedTogether_23 : decode cX0_walkedTogether 23 = .ok (.istore_n 1, 1) := by decide +kernel
theorem dX0_walkedTogether_24 : decode cX0_walkedTogether 24 = .ok (.iinc 2 1, 3) := by decide +kernel
theorem dX0_walkedTogether_27 : decode cX0_walkedTogether 27 = .ok (.goto (-23), 3) := by decide +kernel
theorem dX0_walkedTogether_30 : decode cX0_walkedTogether 30 = .ok (.iload_n 1, 1) := by decide +kernel
theorem dX0_walkedTogether_31 : decode cX0_walkedTogether 31 = .ok (.ireturn, 1) := by decide +kernel
theorem dX1_init_0 : decode cX1_init 0 = .ok (.aload_n 0, 1) := by decide +kernel
theorem dX1_init_1 : decode cX1_init 1 = .ok (.invokespecial 3, 3) := by decide +kernel
theorem dX1_init_4 : decode cX1_init 4 = .ok (.aload_n 0, 1) := by decide +kernel
theorem dX1_init_5 : decode cX1_init 5 = .ok (.bipush 64, 2) := by decide +kernel
theorem dX1_init_7 : decode cX1_init 7 = .ok (.newarray .int, 2) := by decide +kernel
theorem dX1_init_9 : decode cX1_init 9 = .ok (.putfield 9, 3) := by decide +kernel
theorem dX1_init_12 : decode cX1_init 12 = .ok (.return_, 1) := by decide +kernel
set_option maxRecDepth 20000 in
theorem ggX1_weigh_X1_arrivalWith : GoodIn wsX1_weigh wsX1_arrivalWith := goodIn_r _ [11, 2, 1, 12, 13, 5, 14, 15, 16, 17, 18, 19, 20, 21, 22, 23, 24, 25, 26, 27, 28, 29, 30, 31, 32, 33, 34, 35, 36, 37, 38, 39, 40, 41, 42, 43, 44, 45, 46, 47, 48, 49, 50, 51, 52, 53, 54, 55, 56, 57, 58, 59, 60, 62, 63, 64, 65, 66, 67, 61, 68, 69, 70, 71] (by decide +kernel) (by decide +kernel)
set_option maxRecDepth 20000 in
theorem gX1_weigh_X1_arrivalWith : GoodIn wsX1_weigh (wsV RX1 22 RX1 yX1_arrivalWith wsX1_arrivalWith) := goodIn_app (goodIn_of _ (by decide +kernel)) ggX1_weigh_X1_arrivalWith
theorem dX1_weigh_0 : decode cX1_weigh 0 = .ok (.iconst 1, 1) := by decide +kernel
theorem dX1_weigh_1 : decode cX1_weigh 1 = .ok (.aload_n 1, 1) := by decide +kernel
theorem dX1_weigh_2 : decode cX1_weigh 2 = .ok (.getfield 15, 3) := by decide +kernel
theorem dX1_weigh_5 : decode cX1_weigh 5 = .ok (.ishl, 1) := by decide +kernel
theorem dX1_weigh_6 : decode cX1_weigh 6 = .ok (.iconst 1, 1) := by decide +kernel
theorem dX1_weigh_7 : decode cX1_weigh 7 = .ok (.isub, 1) := by decide +kernel
theorem dX1_weigh_8 : decode cX1_weigh 8 = .ok (.istore_n 3, 1) := by decide +kernel
theorem dX1_weigh_9 : decode cX1_weigh 9 = .ok (.aload_n 0, 1) := by decide +kernel
theorem dX1_weigh_10 : decode cX1_weigh 10 = .ok (.getfield 9, 3) := by decide +kernel
theorem dX1_weigh_13 : decode cX1_weigh 13 = .ok (.iload_n 3, 1) := by decide +kernel
theorem dX1_weigh_14 : decode cX1_weigh 14 = .ok (.iconst 0, 1) := by decide +kernel
theorem dX1_weigh_15 : decode cX1_weigh 15 = .ok (.iastore, 1) := by decide +kernel
theorem dX1_weigh_16 : decode cX1_weigh 16 = .ok (.iload_n 3, 1) := by decide +kernel
theorem dX1_weigh_17 : decode cX1_weigh 17 = .ok (.iconst 1, 1) := by decide +kernel
theorem dX1_weigh_18 : decode cX1_weigh 18 = .ok (.isub, 1) := by decide +kernel
theorem dX1_weigh_19 : decode cX1_weigh 19 = .ok (.istore 4, 2) := by decide +kernel
theorem dX1_weigh_21 : decode cX1_weigh 21 = .ok (.iload 4, 2) := by decide +kernel
theorem dX1_weigh_23 : decode cX1_weigh 23 = .ok (.ifCond .lt 73, 3) := by decide +kernel
theorem dX1_weigh_26 : decode cX1_weigh 26 = .ok (.aload_n 0, 1) := by decide +kernel
theorem dX1_weigh_27 : decode cX1_weigh 27 = .ok (.getfield 9, 3) := by decide +kernel
theorem dX1_weigh_30 : decode cX1_weigh 30 = .ok (.iload 4, 2) := by decide +kernel
theorem dX1_weigh_32 : decode cX1_weigh 32 = .ok (.ldc 21, 2) := by decide +kernel
theorem dX1_weigh_34 : decode cX1_weigh 34 = .ok (.iastore, 1) := by decide +kernel
theorem dX1_weigh_35 : decode cX1_weigh 35 = .ok (.iconst 0, 1) := by decide +kernel
theorem dX1_weigh_36 : decode cX1_weigh 36 = .ok (.istore 5, 2) := by decide +kernel
theorem dX1_weigh_38 : decode cX1_weigh 38 = .ok (.iload 5, 2) := by decide +kernel
theorem dX1_weigh_40 : decode cX1_weigh 40 = .ok (.aload_n 1, 1) := by decide +kernel
theorem dX1_weigh_41 : decode cX1_weigh 41 = .ok (.getfield 15, 3) := by decide +kernel
theorem dX1_weigh_44 : decode cX1_weigh 44 = .ok (.if_icmp .ge 46, 3) := by decide +kernel
theorem dX1_weigh_47 : decode cX1_weigh 47 = .ok (.iload 4, 2) := by decide +kernel
theorem dX1_weigh_49 : decode cX1_weigh 49 = .ok (.iload 5, 2) := by decide +kernel
theorem dX1_weigh_51 : decode cX1_weigh 51 = .ok (.ishr, 1) := by decide +kernel
theorem dX1_weigh_52 : decode cX1_weigh 52 = .ok (.iconst 1, 1) := by decide +kernel
theorem dX1_weigh_53 : decode cX1_weigh 53 = .ok (.iand, 1) := by decide +kernel
theorem dX1_weigh_54 : decode cX1_weigh 54 = .ok (.ifCond .ne 30, 3) := by decide +kernel
theorem dX1_weigh_57 : decode cX1_weigh 57 = .ok (.aload_n 0, 1) := by decide +kernel
theorem dX1_weigh_58 : decode cX1_weigh 58 = .ok (.getfield 9, 3) := by decide +kernel
theorem dX1_weigh_61 : decode cX1_weigh 61 = .ok (.iload 4, 2) := by decide +kernel
theorem dX1_weigh_63 : decode cX1_weigh 63 = .ok (.aload_n 0, 1) := by decide +kernel
theorem dX1_weigh_64 : decode cX1_weigh 64 = .ok (.getfield 9, 3) := by decide +kernel
theorem dX1_weigh_67 : decode cX1_weigh 67 = .ok (.iload 4, 2) := by decide +kernel
theorem dX1_weigh_69 : decode cX1_weigh 69 = .ok (.iaload, 1) := by decide +kernel
theorem dX1_weigh_70 : decode cX1_weigh 70 = .ok (.aload_n 0, 1) := by decide +kernel
theorem dX1_weigh_71 : decode cX1_weigh 71 = .ok (.iload 4, 2) := by decide +kernel
theorem dX1_weigh_73 : decode cX1_weigh 73 = .ok (.iload 5, 2) := by decide +kernel
theorem dX1_weigh_75 : decode cX1_weigh 75 = .ok (.aload_n 1, 1) := by decide +kernel
theorem dX1_weigh_76 : decode cX1_weigh 76 = .ok (.aload_n 2, 1) := by decide +kernel
theorem dX1_weigh_77 : decode cX1_weigh 77 = .ok (.invokevirtual 22, 3) := by decide +kernel
theorem dX1_weigh_80 : decode cX1_weigh 80 = .ok (.invokestatic 26, 3) := by decide +kernel
theorem dX1_weigh_83 : decode cX1_weigh 83 = .ok (.iastore, 1) := by decide +kernel
theorem dX1_weigh_84 : decode cX1_weigh 84 = .ok (.iinc 5 1, 3) := by decide +kernel
theorem dX1_weigh_87 : decode cX1_weigh 87 = .ok (.goto (-49), 3) := by decide +kernel
theorem dX1_weigh_90 : decode cX1_weigh 90 = .ok (.iinc 4 (-1), 3) := by decide +kernel
theorem dX1_weigh_93 : decode cX1_weigh 93 = .ok (.goto (-72), 3) := by decide +kernel
theorem dX1_weigh_96 : decode cX1_weigh 96 = .ok (.return_, 1) := by decide +kernel
set_option maxRecDepth 20000 in
theorem ggX1_arrivalWith_J6_bitCount_0f7a4 : GoodIn wsX1_arrivalWith wsJ6_bitCount_0f7a4 := goodIn_r _ [10, 11, 12, 13] (by decide +kernel) (by decide +kernel)
set_option maxRecDepth 20000 in
theorem gX1_arrivalWith_J6_bitCount_0f7a4 : GoodIn wsX1_arrivalWith (va_wsS RX1 32 yJ6_bitCount_0f7a4 wsJ6_bitCount_0f7a4) := goodIn_app (goodIn_of _ (by decide +kernel)) ggX1_arrivalWith_J6_bitCount_0f7a4
set_option maxRecDepth 20000 in
theorem ggX1_arrivalWith_X0_has : GoodIn wsX1_arrivalWith wsX0_has := goodIn_r _ [18, 19, 51, 52] (by decide +kernel) (by decide +kernel)
set_option maxRecDepth 20000 in
theorem gX1_arrivalWith_X0_has : GoodIn wsX1_arrivalWith (wsV RX1 38 RX0 yX0_has wsX0_has) := goodIn_app (goodIn_of _ (by decide +kernel)) ggX1_arrivalWith_X0_has
set_option maxRecDepth 20000 in
theorem ggX1_arrivalWith_X2_daysTo : GoodIn wsX1_arrivalWith wsX2_daysTo := goodIn_r _ [24, 25, 26, 27, 28, 29, 30, 31, 32, 33, 34, 35, 36, 37, 38, 39, 40, 41, 23, 42, 43, 44, 45, 46, 47, 48, 49, 50, 53, 54, 55, 56, 57, 58, 60, 61, 62, 63] (by decide +kernel) (by decide +kernel)
set_option maxRecDepth 20000 in
theorem gX1_arrivalWith_X2_daysTo : GoodIn wsX1_arrivalWith (wsV RX1 51 RX2 yX2_daysTo wsX2_daysTo) := goodIn_app (goodIn_of _ (by decide +kernel)) ggX1_arrivalWith_X2_daysTo
theorem dX1_arrivalWith_0 : decode cX1_arrivalWith 0 = .ok (.iload_n 1, 1) := by decide +kernel
theorem dX1_arrivalWith_1 : decode cX1_arrivalWith 1 = .ok (.invokestatic 32, 3) := by decide +kernel
theorem dX1_arrivalWith_4 : decode cX1_arrivalWith 4 = .ok (.istore 5, 2) := by decide +kernel
theorem dX1_arrivalWith_6 : decode cX1_arrivalWith 6 = .ok (.aload_n 3, 1) := by decide +kernel
theorem dX1_arrivalWith_7 : decode cX1_arrivalWith 7 = .ok (.iload 5, 2) := by decide +kernel
theorem dX1_arrivalWith_9 : decode cX1_arrivalWith 9 = .ok (.invokevirtual 38, 3) := by decide +kernel
theorem dX1_arrivalWith_12 : decode cX1_arrivalWith 12 = .ok (.ifCond .eq 11, 3) := by decide +kernel
theorem dX1_arrivalWith_15 : decode cX1_arrivalWith 15 = .ok (.aload_n 3, 1) := by decide +kernel
theorem dX1_arrivalWith_16 : decode cX1_arrivalWith 16 = .ok (.iload_n 2, 1) := by decide +kernel
theorem dX1_arrivalWith_17 : decode cX1_arrivalWith 17 = .ok (.invokevirtual 38, 3) := by decide +kernel
theorem dX1_arrivalWith_20 : decode cX1_arrivalWith 20 = .ok (.ifCond .ne 6, 3) := by decide +kernel
theorem dX1_arrivalWith_23 : decode cX1_arrivalWith 23 = .ok (.ldc 21, 2) := by decide +kernel
theorem dX1_arrivalWith_25 : decode cX1_arrivalWith 25 = .ok (.ireturn, 1) := by decide +kernel
theorem dX1_arrivalWith_26 : decode cX1_arrivalWith 26 = .ok (.aload_n 3, 1) := by decide +kernel
theorem dX1_arrivalWith_27 : decode cX1_arrivalWith 27 = .ok (.getfield 42, 3) := by decide +kernel
theorem dX1_arrivalWith_30 : decode cX1_arrivalWith 30 = .ok (.iload 5, 2) := by decide +kernel
theorem dX1_arrivalWith_32 : decode cX1_arrivalWith 32 = .ok (.aaload, 1) := by decide +kernel
theorem dX1_arrivalWith_33 : decode cX1_arrivalWith 33 = .ok (.aload_n 3, 1) := by decide +kernel
theorem dX1_arrivalWith_34 : decode cX1_arrivalWith 34 = .ok (.getfield 42, 3) := by decide +kernel
theorem dX1_arrivalWith_37 : decode cX1_arrivalWith 37 = .ok (.iload_n 2, 1) := by decide +kernel
theorem dX1_arrivalWith_38 : decode cX1_arrivalWith 38 = .ok (.aaload, 1) := by decide +kernel
theorem dX1_arrivalWith_39 : decode cX1_arrivalWith 39 = .ok (.getfield 46, 3) := by decide +kernel
theorem dX1_arrivalWith_42 : decode cX1_arrivalWith 42 = .ok (.aload 4, 2) := by decide +kernel
theorem dX1_arrivalWith_44 : decode cX1_arrivalWith 44 = .ok (.invokevirtual 51, 3) := by decide +kernel
theorem dX1_arrivalWith_47 : decode cX1_arrivalWith 47 = .ok (.istore 6, 2) := by decide +kernel
theorem dX1_arrivalWith_49 : decode cX1_arrivalWith 49 = .ok (.iload 6, 2) := by decide +kernel
theorem dX1_arrivalWith_51 : decode cX1_arrivalWith 51 = .ok (.aload_n 0, 1) := by decide +kernel
theorem dX1_arrivalWith_52 : decode cX1_arrivalWith 52 = .ok (.getfield 9, 3) := by decide +kernel
theorem dX1_arrivalWith_55 : decode cX1_arrivalWith 55 = .ok (.iload_n 1, 1) := by decide +kernel
theorem dX1_arrivalWith_56 : decode cX1_arrivalWith 56 = .ok (.iconst 1, 1) := by decide +kernel
theorem dX1_arrivalWith_57 : decode cX1_arrivalWith 57 = .ok (.iload_n 2, 1) := by decide +kernel
theorem dX1_arrivalWith_58 : decode cX1_arrivalWith 58 = .ok (.ishl, 1) := by decide +kernel
theorem dX1_arrivalWith_59 : decode cX1_arrivalWith 59 = .ok (.ior, 1) := by decide +kernel
theorem dX1_arrivalWith_60 : decode cX1_arrivalWith 60 = .ok (.iaload, 1) := by decide +kernel
theorem dX1_arrivalWith_61 : decode cX1_arrivalWith 61 = .ok (.invokestatic 55, 3) := by decide +kernel
theorem dX1_arrivalWith_64 : decode cX1_arrivalWith 64 = .ok (.ireturn, 1) := by decide +kernel
theorem dX1_lastArrival_0 : decode cX1_lastArrival 0 = .ok (.aload_n 0, 1) := by decide +kernel
theorem dX1_lastArrival_1 : decode cX1_lastArrival 1 = .ok (.getfield 9, 3) := by decide +kernel
theorem dX1_lastArrival_4 : decode cX1_lastArrival 4 = .ok (.iconst 0, 1) := by decide +kernel
theorem dX1_lastArrival_5 : decode cX1_lastArrival 5 = .ok (.iaload, 1) := by decide +kernel
theorem dX1_lastArrival_6 : decode cX1_lastArrival 6 = .ok (.ldc 21, 2) := by decide +kernel
theorem dX1_lastArrival_8 : decode cX1_lastArrival 8 = .ok (.if_icmp .ge 12, 3) := by decide +kernel
theorem dX1_lastArrival_11 : decode cX1_lastArrival 11 = .ok (.aload_n 0, 1) := by decide +kernel
theorem dX1_lastArrival_12 : decode cX1_lastArrival 12 = .ok (.getfield 9, 3) := by decide +kernel
theorem dX1_lastArrival_15 : decode cX1_lastArrival 15 = .ok (.iconst 0, 1) := by decide +kernel
theorem dX1_lastArrival_16 : decode cX1_lastArrival 16 = .ok (.iaload, 1) := by decide +kernel
theorem dX1_lastArrival_17 : decode cX1_lastArrival 17 = .ok (.goto 5, 3) := by decide +kernel
theorem dX1_lastArrival_20 : decode cX1_lastArrival 20 = .ok (.bipush (-9), 2) := by decide +kernel
theorem dX1_lastArrival_22 : decode cX1_lastArrival 22 = .ok (.ireturn, 1) := by decide +kernel
set_option maxRecDepth 20000 in
theorem ggX1_goalOf_X0_has : GoodIn wsX1_goalOf wsX0_has := goodIn_r _ [7, 8, 61, 62] (by decide +kernel) (by decide +kernel)
set_option maxRecDepth 20000 in
theorem gX1_goalOf_X0_has : GoodIn wsX1_goalOf (wsV RX1 38 RX0 yX0_has wsX0_has) := goodIn_app (goodIn_of _ (by decide +kernel)) ggX1_goalOf_X0_has
set_option maxRecDepth 20000 in
theorem ggX1_goalOf_X1_leastGoal : GoodIn wsX1_goalOf wsX1_leastGoal := goodIn_r _ [13, 1, 14, 15, 16, 12, 17, 2, 18, 19, 20, 21, 22, 23, 24, 25, 26, 27, 28, 3, 4, 5, 6, 7, 8, 29, 30, 31, 32, 33, 34, 35, 36, 37, 38, 39, 40, 41, 42, 43, 44, 45, 46, 47, 48, 49, 50, 51, 52, 53, 54, 55, 56, 57, 58, 59, 61, 62, 60, 63, 64, 65, 66, 67, 68, 69, 70, 71, 72] (by decide +kernel) (by decide +kernel)
set_option maxRecDepth 20000 in
theorem gX1_goalOf_X1_leastGoal : GoodIn wsX1_goalOf (wsV RX1 58 RX1 yX1_leastGoal wsX1_leastGoal) := goodIn_app (goodIn_of _ (by decide +kernel)) ggX1_goalOf_X1_leastGoal
theorem dX1_goalOf_0 : decode cX1_goalOf 0 = .ok (.aload_n 2, 1) := by decide +kernel
theorem dX1_goalOf_1 : decode cX1_goalOf 1 = .ok (.iload_n 1, 1) := by decide +kernel
theorem dX1_goalOf_2 : decode cX1_goalOf 2 = .ok (.invokevirtual 38, 3) := by decide +kernel
theorem dX1_goalOf_5 : decode cX1_goalOf 5 = .ok (.ifCond .eq 14, 3) := by decide +kernel
theorem dX1_goalOf_8 : decode cX1_goalOf 8 = .ok (.aload_n 0, 1) := by decide +kernel
theorem dX1_goalOf_9 : decode cX1_goalOf 9 = .ok (.getfield 9, 3) := by decide +kernel
theorem dX1_goalOf_12 : decode cX1_goalOf 12 = .ok (.iconst 0, 1) := by decide +kernel
theorem dX1_goalOf_13 : decode cX1_goalOf 13 = .ok (.iaload, 1) := by decide +kernel
theorem dX1_goalOf_14 : decode cX1_goalOf 14 = .ok (.ldc 21, 2) := by decide +kernel
theorem dX1_goalOf_16 : decode cX1_goalOf 16 = .ok (.if_icmp .lt 6, 3) := by decide +kernel
theorem dX1_goalOf_19 : decode cX1_goalOf 19 = .ok (.bipush (-9), 2) := by decide +kernel
theorem dX1_goalOf_21 : decode cX1_goalOf 21 = .ok (.ireturn, 1) := by decide +kernel
theorem dX1_goalOf_22 : decode cX1_goalOf 22 = .ok (.iconst 0, 1) := by decide +kernel
theorem dX1_goalOf_23 : decode cX1_goalOf 23 = .ok (.istore 4, 2) := by decide +kernel
theorem dX1_goalOf_25 : decode cX1_goalOf 25 = .ok (.bipush (-9), 2) := by decide +kernel
theorem dX1_goalOf_27 : decode cX1_goalOf 27 = .ok (.istore 5, 2) := by decide +kernel
theorem dX1_goalOf_29 : decode cX1_goalOf 29 = .ok (.iconst 0, 1) := by decide +kernel
theorem dX1_goalOf_30 : decode cX1_goalOf 30 = .ok (.istore 6, 2) := by decide +kernel
theorem dX1_goalOf_32 : decode cX1_goalOf 32 = .ok (.iload 6, 2) := by decide +kernel
theorem dX1_goalOf_34 : decode cX1_goalOf 34 = .ok (.iload_n 1, 1) := by decide +kernel
theorem dX1_goalOf_35 : decode cX1_goalOf 35 = .ok (.if_icmp .gt 50, 3) := by decide +kernel
theorem dX1_goalOf_38 : decode cX1_goalOf 38 = .ok (.aload_n 0, 1) := by decide +kernel
theorem dX1_goalOf_39 : decode cX1_goalOf 39 = .ok (.iload 4, 2) := by decide +kernel
theorem dX1_goalOf_41 : decode cX1_goalOf 41 = .ok (.aload_n 2, 1) := by decide +kernel
theorem dX1_goalOf_42 : decode cX1_goalOf 42 = .ok (.aload_n 3, 1) := by decide +kernel
theorem dX1_goalOf_43 : decode cX1_goalOf 43 = .ok (.invokevirtual 58, 3) := by decide +kernel
theorem dX1_goalOf_46 : decode cX1_goalOf 46 = .ok (.istore 7, 2) := by decide +kernel
theorem dX1_goalOf_48 : decode cX1_goalOf 48 = .ok (.iload 7, 2) := by decide +kernel
theorem dX1_goalOf_50 : decode cX1_goalOf 50 = .ok (.bipush (-9), 2) := by decide +kernel
theorem dX1_goalOf_52 : decode cX1_goalOf 52 = .ok (.if_icmp .ne 6, 3) := by decide +kernel
theorem dX1_goalOf_55 : decode cX1_goalOf 55 = .ok (.bipush (-9), 2) := by decide +kernel
theorem dX1_goalOf_57 : decode cX1_goalOf 57 = .ok (.ireturn, 1) := by decide +kernel
theorem dX1_goalOf_58 : decode cX1_goalOf 58 = .ok (.iload 4, 2) := by decide +kernel
theorem dX1_goalOf_60 : decode cX1_goalOf 60 = .ok (.iconst 1, 1) := by decide +kernel
theorem dX1_goalOf_61 : decode cX1_goalOf 61 = .ok (.iload 7, 2) := by decide +kernel
theorem dX1_goalOf_63 : decode cX1_goalOf 63 = .ok (.ishl, 1) := by decide +kernel
theorem dX1_goalOf_64 : decode cX1_goalOf 64 = .ok (.ior, 1) := by decide +kernel
theorem dX1_goalOf_65 : decode cX1_goalOf 65 = .ok (.istore 4, 2) := by decide +kernel
theorem dX1_goalOf_67 : decode cX1_goalOf 67 = .ok (.aload_n 2, 1) := by decide +kernel
theorem dX1_goalOf_68 : decode cX1_goalOf 68 = .ok (.getfield 42, 3) := by decide +kernel
theorem dX1_goalOf_71 : decode cX1_goalOf 71 = .ok (.iload 7, 2) := by decide +kernel
theorem dX1_goalOf_73 : decode cX1_goalOf 73 = .ok (.aaload, 1) := by decide +kernel
theorem dX1_goalOf_74 : decode cX1_goalOf 74 = .ok (.getfield 46, 3) := by decide +kernel
theorem dX1_goalOf_77 : decode cX1_goalOf 77 = .ok (.istore 5, 2) := by decide +kernel
theorem dX1_goalOf_79 : decode cX1_goalOf 79 = .ok (.iinc 6 1, 3) := by decide +kernel
theorem dX1_goalOf_82 : decode cX1_goalOf 82 = .ok (.goto (-50), 3) := by decide +kernel
theorem dX1_goalOf_85 : decode cX1_goalOf 85 = .ok (.iload 5, 2) := by decide +kernel
theorem dX1_goalOf_87 : decode cX1_goalOf 87 = .ok (.ireturn, 1) := by decide +kernel
set_option maxRecDepth 20000 in
theorem ggX1_leastGoal_X1_arrivalWith : GoodIn wsX1_leastGoal wsX1_arrivalWith := goodIn_r _ [6, 7, 1, 8, 9, 10, 11, 12, 13, 14, 15, 16, 17, 18, 19, 20, 21, 22, 23, 24, 25, 26, 27, 28, 29, 30, 31, 32, 33, 34, 35, 36, 37, 38, 39, 40, 41, 42, 43, 44, 45, 46, 47, 48, 49, 50, 51, 52, 53, 54, 55, 56, 57, 59, 60, 61, 62, 63, 64, 58, 65, 66, 67, 68] (by decide +kernel) (by decide +kernel)
set_option maxRecDepth 20000 in
theorem gX1_leastGoal_X1_arrivalWith : GoodIn wsX1_leastGoal (wsV RX1 22 RX1 yX1_arrivalWith wsX1_arrivalWith) := goodIn_app (goodIn_of _ (by decide +kernel)) ggX1_leastGoal_X1_arrivalWith
theorem dX1_leastGoal_0 : decode cX1_leastGoal 0 = .ok (.bipush (-9), 2) := by decide +kernel
theorem dX1_leastGoal_2 : decode cX1_leastGoal 2 = .ok (.istore 4, 2) := by decide +kernel
theorem dX1_leastGoal_4 : decode cX1_leastGoal 4 = .ok (.iconst 0, 1) := by decide +kernel
theorem dX1_leastGoal_5 : decode cX1_leastGoal 5 = .ok (.istore 5, 2) := by decide +kernel
theorem dX1_leastGoal_7 : decode cX1_leastGoal 7 = .ok (.iload 5, 2) := by decide +kernel
theorem dX1_leastGoal_9 : decode cX1_leastGoal 9 = .ok (.aload_n 2, 1) := by decide +kernel
theorem dX1_leastGoal_10 : decode cX1_leastGoal 10 = .ok (.getfield 15, 3) := by decide +kernel
theorem dX1_leastGoal_13 : decode cX1_leastGoal 13 = .ok (.if_icmp .ge 82, 3) := by decide +kernel
theorem dX1_leastGoal_16 : decode cX1_leastGoal 16 = .ok (.iload_n 1, 1) := by decide +kernel
theorem dX1_leastGoal_17 : decode cX1_leastGoal 17 = .ok (.iload 5, 2) := by decide +kernel
theorem dX1_leastGoal_19 : decode cX1_leastGoal 19 = .ok (.ishr, 1) := by decide +kernel
theorem dX1_leastGoal_20 : decode cX1_leastGoal 20 = .ok (.iconst 1, 1) := by decide +kernel
theorem dX1_leastGoal_21 : decode cX1_leastGoal 21 = .ok (.iand, 1) := by decide +kernel
theorem dX1_leastGoal_22 : decode cX1_leastGoal 22 = .ok (.ifCond .ne 7, 3) := by decide +kernel
theorem dX1_leastGoal_25 : decode cX1_leastGoal 25 = .ok (.iconst 1, 1) := by decide +kernel
theorem dX1_leastGoal_26 : decode cX1_leastGoal 26 = .ok (.goto 4, 3) := by decide +kernel
theorem dX1_leastGoal_29 : decode cX1_leastGoal 29 = .ok (.iconst 0, 1) := by decide +kernel
theorem dX1_leastGoal_30 : decode cX1_leastGoal 30 = .ok (.istore 6, 2) := by decide +kernel
theorem dX1_leastGoal_32 : decode cX1_leastGoal 32 = .ok (.iload 6, 2) := by decide +kernel
theorem dX1_leastGoal_34 : decode cX1_leastGoal 34 = .ok (.ifCond .eq 55, 3) := by decide +kernel
theorem dX1_leastGoal_37 : decode cX1_leastGoal 37 = .ok (.aload_n 0, 1) := by decide +kernel
theorem dX1_leastGoal_38 : decode cX1_leastGoal 38 = .ok (.iload_n 1, 1) := by decide +kernel
theorem dX1_leastGoal_39 : decode cX1_leastGoal 39 = .ok (.iload 5, 2) := by decide +kernel
theorem dX1_leastGoal_41 : decode cX1_leastGoal 41 = .ok (.aload_n 2, 1) := by decide +kernel
theorem dX1_leastGoal_42 : decode cX1_leastGoal 42 = .ok (.aload_n 3, 1) := by decide +kernel
theorem dX1_leastGoal_43 : decode cX1_leastGoal 43 = .ok (.invokevirtual 22, 3) := by decide +kernel
theorem dX1_leastGoal_46 : decode cX1_leastGoal 46 = .ok (.aload_n 0, 1) := by decide +kernel
theorem dX1_leastGoal_47 : decode cX1_leastGoal 47 = .ok (.getfield 9, 3) := by decide +kernel
theorem dX1_leastGoal_50 : decode cX1_leastGoal 50 = .ok (.iconst 0, 1) := by decide +kernel
theorem dX1_leastGoal_51 : decode cX1_leastGoal 51 = .ok (.iaload, 1) := by decide +kernel
theorem dX1_leastGoal_52 : decode cX1_leastGoal 52 = .ok (.if_icmp .gt 37, 3) := by decide +kernel
theorem dX1_leastGoal_55 : decode cX1_leastGoal 55 = .ok (.iload 4, 2) := by decide +kernel
theorem dX1_leastGoal_57 : decode cX1_leastGoal 57 = .ok (.bipush (-9), 2) := by decide +kernel
theorem dX1_leastGoal_59 : decode cX1_leastGoal 59 = .ok (.if_icmp .eq 26, 3) := by decide +kernel
theorem dX1_leastGoal_62 : decode cX1_leastGoal 62 = .ok (.aload_n 2, 1) := by decide +kernel
theorem dX1_leastGoal_63 : decode cX1_leastGoal 63 = .ok (.getfield 42, 3) := by decide +kernel
theorem dX1_leastGoal_66 : decode cX1_leastGoal 66 = .ok (.iload 5, 2) := by decide +kernel
theorem dX1_leastGoal_68 : decode cX1_leastGoal 68 = .ok (.aaload, 1) := by decide +kernel
theorem dX1_leastGoal_69 : decode cX1_leastGoal 69 = .ok (.getfield 46, 3) := by decide +kernel
theorem dX1_leastGoal_72 : decode cX1_leastGoal 72 = .ok (.aload_n 2, 1) := by decide +kernel
theorem dX1_leastGoal_73 : decode cX1_leastGoal 73 = .ok (.getfield 42, 3) := by decide +kernel
theorem dX1_leastGoal_76 : decode cX1_leastGoal 76 = .ok (.iload 4, 2) := by decide +kernel
theorem dX1_leastGoal_78 : decode cX1_leastGoal 78 = .ok (.aaload, 1) := by decide +kernel
theorem dX1_leastGoal_79 : decode cX1_leastGoal 79 = .ok (.getfield 46, 3) := by decide +kernel
theorem dX1_leastGoal_82 : decode cX1_leastGoal 82 = .ok (.if_icmp .ge 7, 3) := by decide +kernel
theorem dX1_leastGoal_85 : decode cX1_leastGoal 85 = .ok (.iload 5, 2) := by decide +kernel
theorem dX1_leastGoal_87 : decode cX1_leastGoal 87 = .ok (.istore 4, 2) := by decide +kernel
theorem dX1_leastGoal_89 : decode cX1_leastGoal 89 = .ok (.iinc 5 1, 3) := by decide +kernel
theorem dX1_leastGoal_92 : decode cX1_leastGoal 92 = .ok (.goto (-85), 3) := by decide +kernel
theorem dX1_leastGoal_95 : decode cX1_leastGoal 95 = .ok (.iload 4, 2) := by decide +kernel
theorem dX1_leastGoal_97 : decode cX1_leastGoal 97 = .ok (.ireturn, 1) := by decide +kernel
theorem dX2_init_0 : decode cX2_init 0 = .ok (.aload_n 0, 1) := by decide +kernel
theorem dX2_init_1 : decode cX2_init 1 = .ok (.invokespecial 3, 3) := by decide +kernel
theorem dX2_init_4 : decode cX2_init 4 = .ok (.aload_n 0, 1) := by decide +kernel
theorem dX2_init_5 : decode cX2_init 5 = .ok (.iconst 0, 1) := by decide +kernel
theorem dX2_init_6 : decode cX2_init 6 = .ok (.putfield 9, 3) := by decide +kernel
theorem dX2_init_9 : decode cX2_init 9 = .ok (.aload_n 0, 1) := by decide +kernel
theorem dX2_init_10 : decode cX2_init 10 = .ok (.iconst 0, 1) := by decide +kernel
theorem dX2_init_11 : decode cX2_init 11 = .ok (.putfield 15, 3) := by decide +kernel
theorem dX2_init_14 : decode cX2_init 14 = .ok (.aload_n 0, 1) := by decide +kernel
theorem dX2_init_15 : decode cX2_init 15 = .ok (.iconst 0, 1) := by decide +kernel
theorem dX2_init_16 : decode cX2_init 16 = .ok (.putfield 18, 3) := by decide +kernel
theorem dX2_init_19 : decode cX2_init 19 = .ok (.aload_n 0, 1) := by decide +kernel
theorem dX2_init_20 : decode cX2_init 20 = .ok (.iconst 1, 1) := by decide +kernel
theorem dX2_init_21 : decode cX2_init 21 = .ok (.putfield 21, 3) := by decide +kernel
theorem dX2_init_24 : decode cX2_init 24 = .ok (.aload_n 0, 1) := by decide +kernel
theorem dX2_init_25 : decode cX2_init 25 = .ok (.iconst 0, 1) := by decide +kernel
theorem dX2_init_26 : decode cX2_init 26 = .ok (.putfield 24, 3) := by decide +kernel
theorem dX2_init_29 : decode cX2_init 29 = .ok (.aload_n 0, 1) := by decide +kernel
theorem dX2_init_30 : decode cX2_init 30 = .ok (.iconst 0, 1) := by decide +kernel
theorem dX2_init_31 : decode cX2_init 31 = .ok (.putfield 27, 3) := by decide +kernel
theorem dX2_init_34 : decode cX2_init 34 = .ok (.return_, 1) := by decide +kernel
theorem dX2_copyFrom_0 : decode cX2_copyFrom 0 = .ok (.aload_n 0, 1) := by decide +kernel
theorem dX2_copyFrom_1 : decode cX2_copyFrom 1 = .ok (.aload_n 1, 1) := by decide +kernel
theorem dX2_copyFrom_2 : decode cX2_copyFrom 2 = .ok (.getfield 9, 3) := by decide +kernel
theorem dX2_copyFrom_5 : decode cX2_copyFrom 5 = .ok (.putfield 9, 3) := by decide +kernel
theorem dX2_copyFrom_8 : decode cX2_copyFrom 8 = .ok (.aload_n 0, 1) := by decide +kernel
theorem dX2_copyFrom_9 : decode cX2_copyFrom 9 = .ok (.aload_n 1, 1) := by decide +kernel
theorem dX2_copyFrom_10 : decode cX2_copyFrom 10 = .ok (.getfield 15, 3) := by decide +kernel
theorem dX2_copyFrom_13 : decode cX2_copyFrom 13 = .ok (.putfield 15, 3) := by decide +kernel
theorem dX2_copyFrom_16 : decode cX2_copyFrom 16 = .ok (.aload_n 0, 1) := by decide +kernel
theorem dX2_copyFrom_17 : decode cX2_copyFrom 17 = .ok (.aload_n 1, 1) := by decide +kernel
theorem dX2_copyFrom_18 : decode cX2_copyFrom 18 = .ok (.getfield 18, 3) := by decide +kernel
theorem dX2_copyFrom_21 : decode cX2_copyFrom 21 = .ok (.putfield 18, 3) := by decide +kernel
theorem dX2_copyFrom_24 : decode cX2_copyFrom 24 = .ok (.aload_n 0, 1) := by decide +kernel
theorem dX2_copyFrom_25 : decode cX2_copyFrom 25 = .ok (.aload_n 1, 1) := by decide +kernel
theorem dX2_copyFrom_26 : decode cX2_copyFrom 26 = .ok (.getfield 21, 3) := by decide +kernel
theorem dX2_copyFrom_29 : decode cX2_copyFrom 29 = .ok (.putfield 21, 3) := by decide +kernel
theorem dX2_copyFrom_32 : decode cX2_copyFrom 32 = .ok (.aload_n 0, 1) := by decide +kernel
theorem dX2_copyFrom_33 : decode cX2_copyFrom 33 = .ok (.aload_n 1, 1) := by decide +kernel
theorem dX2_copyFrom_34 : decode cX2_copyFrom 34 = .ok (.getfield 24, 3) := by decide +kernel
theorem dX2_copyFrom_37 : decode cX2_copyFrom 37 = .ok (.putfield 24, 3) := by decide +kernel
theorem dX2_copyFrom_40 : decode cX2_copyFrom 40 = .ok (.aload_n 0, 1) := by decide +kernel
theorem dX2_copyFrom_41 : decode cX2_copyFrom 41 = .ok (.aload_n 1, 1) := by decide +kernel
theorem dX2_copyFrom_42 : decode cX2_copyFrom 42 = .ok (.getfield 27, 3) := by decide +kernel
theorem dX2_copyFrom_45 : decode cX2_copyFrom 45 = .ok (.putfield 27, 3) := by decide +kernel
theorem dX2_copyFrom_48 : decode cX2_copyFrom 48 = .ok (.return_, 1) := by decide +kernel
set_option maxRecDepth 20000 in
theorem ggX2_pace_X8_paceOf : GoodIn wsX2_pace wsX8_paceOf := goodIn_r _ [5] (by decide +kernel) (by decide +kernel)
set_option maxRecDepth 20000 in
theorem gX2_pace_X8_paceOf_n31 : GoodIn wsX2_pace (wsX8_paceOf) := ggX2_pace_X8_paceOf
theorem dX2_pace_0 : decode cX2_pace 0 = .ok (.aload_n 0, 1) := by decide +kernel
theorem dX2_pace_1 : decode cX2_pace 1 = .ok (.getfield 9, 3) := by decide +kernel
theorem dX2_pace_4 : decode cX2_pace 4 = .ok (.aload_n 0, 1) := by decide +kernel
theorem dX2_pace_5 : decode cX2_pace 5 = .ok (.getfield 21, 3) := by decide +kernel
theorem dX2_pace_8 : decode cX2_pace 8 = .ok (.invokestatic 31, 3) := by decide +kernel
theorem dX2_pace_11 : decode cX2_pace 11 = .ok (.ireturn, 1) := by decide +kernel
set_option maxRecDepth 20000 in
theorem ggX2_hasArrived_X6_distance : GoodIn wsX2_hasArrived wsX6_distance := goodIn_r _ [8, 9, 10, 11, 12, 13, 7, 14, 15, 22, 23, 24, 25] (by decide +kernel) (by decide +kernel)
set_option maxRecDepth 20000 in
theorem gX2_hasArrived_X6_distance : GoodIn wsX2_hasArrived (wsV RX2 35 RX6 yX6_distance wsX6_distance) := goodIn_app (goodIn_of _ (by decide +kernel)) ggX2_hasArrived_X6_distance
theorem dX2_hasArrived_0 : decode cX2_hasArrived 0 = .ok (.aload_n 1, 1) := by decide +kernel
theorem dX2_hasArrived_1 : decode cX2_hasArrived 1 = .ok (.aload_n 0, 1) := by decide +kernel
theorem dX2_hasArrived_2 : decode cX2_hasArrived 2 = .ok (.getfield 15, 3) := by decide +kernel
theorem dX2_hasArrived_5 : decode cX2_hasArrived 5 = .ok (.aload_n 0, 1) := by decide +kernel
theorem dX2_hasArrived_6 : decode cX2_hasArrived 6 = .ok (.getfield 18, 3) := by decide +kernel
theorem dX2_hasArrived_9 : decode cX2_hasArrived 9 = .ok (.invokevirtual 35, 3) := by decide +kernel
theorem dX2_hasArrived_12 : decode cX2_hasArrived 12 = .ok (.istore_n 2, 1) := by decide +kernel
theorem dX2_hasArrived_13 : decode cX2_hasArrived 13 = .ok (.iload_n 2, 1) := by decide +kernel
theorem dX2_hasArrived_14 : decode cX2_hasArrived 14 = .ok (.bipush (-9), 2) := by decide +kernel
theorem dX2_hasArrived_16 : decode cX2_hasArrived 16 = .ok (.if_icmp .eq 15, 3) := by decide +kernel
theorem dX2_hasArrived_19 : decode cX2_hasArrived 19 = .ok (.aload_n 0, 1) := by decide +kernel
theorem dX2_hasArrived_20 : decode cX2_hasArrived 20 = .ok (.getfield 24, 3) := by decide +kernel
theorem dX2_hasArrived_23 : decode cX2_hasArrived 23 = .ok (.iload_n 2, 1) := by decide +kernel
theorem dX2_hasArrived_24 : decode cX2_hasArrived 24 = .ok (.if_icmp .lt 7, 3) := by decide +kernel
theorem dX2_hasArrived_27 : decode cX2_hasArrived 27 = .ok (.iconst 1, 1) := by decide +kernel
theorem dX2_hasArrived_28 : decode cX2_hasArrived 28 = .ok (.goto 4, 3) := by decide +kernel
theorem dX2_hasArrived_31 : decode cX2_hasArrived 31 = .ok (.iconst 0, 1) := by decide +kernel
theorem dX2_hasArrived_32 : decode cX2_hasArrived 32 = .ok (.ireturn, 1) := by decide +kernel
set_option maxRecDepth 20000 in
theorem ggX2_daysTo_X6_distance : GoodIn wsX2_daysTo wsX6_distance := goodIn_r _ [7, 8, 9, 10, 11, 12, 6, 13, 14, 34, 35, 36, 37] (by decide +kernel) (by decide +kernel)
set_option maxRecDepth 20000 in
theorem gX2_daysTo_X6_distance : GoodIn wsX2_daysTo (wsV RX2 35 RX6 yX6_distance wsX6_distance) := goodIn_app (goodIn_of _ (by decide +kernel)) ggX2_daysTo_X6_distance
set_option maxRecDepth 20000 in
theorem ggX2_daysTo_X2_pace : GoodIn wsX2_daysTo wsX2_pace := goodIn_r _ [19, 20, 21, 22, 23, 24, 28, 29, 30, 31, 32, 33] (by decide +kernel) (by decide +kernel)
set_option maxRecDepth 20000 in
theorem gX2_daysTo_X2_pace : GoodIn wsX2_daysTo (wsV RX2 41 RX2 yX2_pace wsX2_pace) := goodIn_app (goodIn_of _ (by decide +kernel)) ggX2_daysTo_X2_pace
set_option maxRecDepth 20000 in
theorem ggX2_daysTo_X8_daysFor : GoodIn wsX2_daysTo wsX8_daysFor := goodIn_r _ [26, 27] (by decide +kernel) (by decide +kernel)
set_option maxRecDepth 20000 in
theorem gX2_daysTo_X8_daysFor_n45 : GoodIn wsX2_daysTo (wsX8_daysFor) := ggX2_daysTo_X8_daysFor
theorem dX2_daysTo_0 : decode cX2_daysTo 0 = .ok (.aload_n 2, 1) := by decide +kernel
theorem dX2_daysTo_1 : decode cX2_daysTo 1 = .ok (.aload_n 0, 1) := by decide +kernel
theorem dX2_daysTo_2 : decode cX2_daysTo 2 = .ok (.getfield 15, 3) := by decide +kernel
theorem dX2_daysTo_5 : decode cX2_daysTo 5 = .ok (.iload_n 1, 1) := by decide +kernel
theorem dX2_daysTo_6 : decode cX2_daysTo 6 = .ok (.invokevirtual 35, 3) := by decide +kernel
theorem dX2_daysTo_9 : decode cX2_daysTo 9 = .ok (.istore_n 3, 1) := by decide +kernel
theorem dX2_daysTo_10 : decode cX2_daysTo 10 = .ok (.iload_n 3, 1) := by decide +kernel
theorem dX2_daysTo_11 : decode cX2_daysTo 11 = .ok (.bipush (-9), 2) := by decide +kernel
theorem dX2_daysTo_13 : decode cX2_daysTo 13 = .ok (.if_icmp .ne 8, 3) := by decide +kernel
theorem dX2_daysTo_16 : decode cX2_daysTo 16 = .ok (.ldc 40, 2) := by decide +kernel
theorem dX2_daysTo_18 : decode cX2_daysTo 18 = .ok (.goto 11, 3) := by decide +kernel
theorem dX2_daysTo_21 : decode cX2_daysTo 21 = .ok (.iload_n 3, 1) := by decide +kernel
theorem dX2_daysTo_22 : decode cX2_daysTo 22 = .ok (.aload_n 0, 1) := by decide +kernel
theorem dX2_daysTo_23 : decode cX2_daysTo 23 = .ok (.invokevirtual 41, 3) := by decide +kernel
theorem dX2_daysTo_26 : decode cX2_daysTo 26 = .ok (.invokestatic 45, 3) := by decide +kernel
theorem dX2_daysTo_29 : decode cX2_daysTo 29 = .ok (.ireturn, 1) := by decide +kernel
theorem dX3_init_0 : decode cX3_init 0 = .ok (.aload_n 0, 1) := by decide +kernel
theorem dX3_init_1 : decode cX3_init 1 = .ok (.invokespecial 3, 3) := by decide +kernel
theorem dX3_init_4 : decode cX3_init 4 = .ok (.aload_n 0, 1) := by decide +kernel
theorem dX3_init_5 : decode cX3_init 5 = .ok (.bipush 8, 2) := by decide +kernel
theorem dX3_init_7 : decode cX3_init 7 = .ok (.newarray .int, 2) := by decide +kernel
theorem dX3_init_9 : decode cX3_init 9 = .ok (.putfield 9, 3) := by decide +kernel
theorem dX3_init_12 : decode cX3_init 12 = .ok (.aload_n 0, 1) := by decide +kernel
theorem dX3_init_13 : decode cX3_init 13 = .ok (.bipush 8, 2) := by decide +kernel
theorem dX3_init_15 : decode cX3_init 15 = .ok (.newarray .int, 2) := by decide +kernel
theorem dX3_init_17 : decode cX3_init 17 = .ok (.putfield 15, 3) := by decide +kernel
theorem dX3_init_20 : decode cX3_init 20 = .ok (.aload_n 0, 1) := by decide +kernel
theorem dX3_init_21 : decode cX3_init 21 = .ok (.bipush 8, 2) := by decide +kernel
theorem dX3_init_23 : decode cX3_init 23 = .ok (.newarray .int, 2) := by decide +kernel
theorem dX3_init_25 : decode cX3_init 25 = .ok (.putfield 18, 3) := by decide +kernel
theorem dX3_init_28 : decode cX3_init 28 = .ok (.aload_n 0, 1) := by decide +kernel
theorem dX3_init_29 : decode cX3_init 29 = .ok (.iconst 0, 1) := by decide +kernel
theorem dX3_init_30 : decode cX3_init 30 = .ok (.putfield 21, 3) := by decide +kernel
theorem dX3_init_33 : decode cX3_init 33 = .ok (.return_, 1) := by decide +kernel
theorem dX3_add_0 : decode cX3_add 0 = .ok (.aload_n 0, 1) := by decide +kernel
theorem dX3_add_1 : decode cX3_add 1 = .ok (.getfield 21, 3) := by decide +kernel
theorem dX3_add_4 : decode cX3_add 4 = .ok (.bipush 8, 2) := by decide +kernel
theorem dX3_add_6 : decode cX3_add 6 = .ok (.if_icmp .ge 43, 3) := by decide +kernel
theorem dX3_add_9 : decode cX3_add 9 = .ok (.aload_n 0, 1) := by decide +kernel
theorem dX3_add_10 : decode cX3_add 10 = .ok (.getfield 9, 3) := by decide +kernel
theorem dX3_add_13 : decode cX3_add 13 = .ok (.aload_n 0, 1) := by decide +kernel
theorem dX3_add_14 : decode cX3_add 14 = .ok (.getfield 21, 3) := by decide +kernel
theorem dX3_add_17 : decode cX3_add 17 = .ok (.iload_n 1, 1) := by decide +kernel
theorem dX3_add_18 : decode cX3_add 18 = .ok (.iastore, 1) := by decide +kernel
theorem dX3_add_19 : decode cX3_add 19 = .ok (.aload_n 0, 1) := by decide +kernel
theorem dX3_add_20 : decode cX3_add 20 = .ok (.getfield 15, 3) := by decide +kernel
theorem dX3_add_23 : decode cX3_add 23 = .ok (.aload_n 0, 1) := by decide +kernel
theorem dX3_add_24 : decode cX3_add 24 = .ok (.getfield 21, 3) := by decide +kernel
theorem dX3_add_27 : decode cX3_add 27 = .ok (.iload_n 2, 1) := by decide +kernel
theorem dX3_add_28 : decode cX3_add 28 = .ok (.iastore, 1) := by decide +kernel
theorem dX3_add_29 : decode cX3_add 29 = .ok (.aload_n 0, 1) := by decide +kernel
theorem dX3_add_30 : decode cX3_add 30 = .ok (.getfield 18, 3) := by decide +kernel
theorem dX3_add_33 : decode cX3_add 33 = .ok (.aload_n 0, 1) := by decide +kernel
theorem dX3_add_34 : decode cX3_add 34 = .ok (.getfield 21, 3) := by decide +kernel
theorem dX3_add_37 : decode cX3_add 37 = .ok (.iload_n 3, 1) := by decide +kernel
theorem dX3_add_38 : decode cX3_add 38 = .ok (.iastore, 1) := by decide +kernel
theorem dX3_add_39 : decode cX3_add 39 = .ok (.aload_n 0, 1) := by decide +kernel
theorem dX3_add_40 : decode cX3_add 40 = .ok (.dup, 1) := by decide +kernel
theorem dX3_add_41 : decode cX3_add 41 = .ok (.getfield 21, 3) := by decide +kernel
theorem dX3_add_44 : decode cX3_add 44 = .ok (.iconst 1, 1) := by decide +kernel
theorem dX3_add_45 : decode cX3_add 45 = .ok (.iadd, 1) := by decide +kernel
theorem dX3_add_46 : decode cX3_add 46 = .ok (.putfield 21, 3) := by decide +kernel
theorem dX3_add_49 : decode cX3_add 49 = .ok (.return_, 1) := by decide +kernel
set_option maxRecDepth 20000 in
theorem ggX3_allAreSo_X0_has : GoodIn wsX3_allAreSo wsX0_has := goodIn_r _ [9, 10, 25, 26] (by decide +kernel) (by decide +kernel)
set_option maxRecDepth 20000 in
theorem gX3_allAreSo_X0_has : GoodIn wsX3_allAreSo (wsV RX3 25 RX0 yX0_has wsX0_has) := goodIn_app (goodIn_of _ (by decide +kernel)) ggX3_allAreSo_X0_has
set_option maxRecDepth 20000 in
theorem ggX3_allAreSo_X2_pace : GoodIn wsX3_allAreSo wsX2_pace := goodIn_r _ [15, 16, 17, 18, 19, 20, 27, 28, 29, 30, 31, 32] (by decide +kernel) (by decide +kernel)
set_option maxRecDepth 20000 in
theorem gX3_allAreSo_X2_pace : GoodIn wsX3_allAreSo (wsV RX3 35 RX2 yX2_pace wsX2_pace) := goodIn_app (goodIn_of _ (by decide +kernel)) ggX3_allAreSo_X2_pace
theorem dX3_allAreSo_0 : decode cX3_allAreSo 0 = .ok (.iconst 0, 1) := by decide +kernel
theorem dX3_allAreSo_1 : decode cX3_allAreSo 1 = .ok (.istore 4, 2) := by decide +kernel
theorem dX3_allAreSo_3 : decode cX3_allAreSo 3 = .ok (.iload 4, 2) := by decide +kernel
theorem dX3_allAreSo_5 : decode cX3_allAreSo 5 = .ok (.aload_n 0, 1) := by decide +kernel
theorem dX3_allAreSo_6 : decode cX3_allAreSo 6 = .ok (.getfield 21, 3) := by decide +kernel
theorem dX3_allAreSo_9 : decode cX3_allAreSo 9 = .ok (.if_icmp .ge 73, 3) := by decide +kernel
theorem dX3_allAreSo_12 : decode cX3_allAreSo 12 = .ok (.aload_n 0, 1) := by decide +kernel
theorem dX3_allAreSo_13 : decode cX3_allAreSo 13 = .ok (.getfield 9, 3) := by decide +kernel
theorem dX3_allAreSo_16 : decode cX3_allAreSo 16 = .ok (.iload 4, 2) := by decide +kernel
theorem dX3_allAreSo_18 : decode cX3_allAreSo 18 = .ok (.iaload, 1) := by decide +kernel
theorem dX3_allAreSo_19 : decode cX3_allAreSo 19 = .ok (.istore 5, 2) := by decide +kernel
theorem dX3_allAreSo_21 : decode cX3_allAreSo 21 = .ok (.aload_n 1, 1) := by decide +kernel
theorem dX3_allAreSo_22 : decode cX3_allAreSo 22 = .ok (.iload 5, 2) := by decide +kernel
theorem dX3_allAreSo_24 : decode cX3_allAreSo 24 = .ok (.invokevirtual 25, 3) := by decide +kernel
theorem dX3_allAreSo_27 : decode cX3_allAreSo 27 = .ok (.ifCond .ne 5, 3) := by decide +kernel
theorem dX3_allAreSo_30 : decode cX3_allAreSo 30 = .ok (.iconst 0, 1) := by decide +kernel
theorem dX3_allAreSo_31 : decode cX3_allAreSo 31 = .ok (.ireturn, 1) := by decide +kernel
theorem dX3_allAreSo_32 : decode cX3_allAreSo 32 = .ok (.iload 5, 2) := by decide +kernel
theorem dX3_allAreSo_34 : decode cX3_allAreSo 34 = .ok (.iload_n 2, 1) := by decide +kernel
theorem dX3_allAreSo_35 : decode cX3_allAreSo 35 = .ok (.if_icmp .ne 7, 3) := by decide +kernel
theorem dX3_allAreSo_38 : decode cX3_allAreSo 38 = .ok (.iload_n 3, 1) := by decide +kernel
theorem dX3_allAreSo_39 : decode cX3_allAreSo 39 = .ok (.goto 13, 3) := by decide +kernel
theorem dX3_allAreSo_42 : decode cX3_allAreSo 42 = .ok (.aload_n 1, 1) := by decide +kernel
theorem dX3_allAreSo_43 : decode cX3_allAreSo 43 = .ok (.getfield 31, 3) := by decide +kernel
theorem dX3_allAreSo_46 : decode cX3_allAreSo 46 = .ok (.iload 5, 2) := by decide +kernel
theorem dX3_allAreSo_48 : decode cX3_allAreSo 48 = .ok (.aaload, 1) := by decide +kernel
theorem dX3_allAreSo_49 : decode cX3_allAreSo 49 = .ok (.invokevirtual 35, 3) := by decide +kernel
theorem dX3_allAreSo_52 : decode cX3_allAreSo 52 = .ok (.istore 6, 2) := by decide +kernel
theorem dX3_allAreSo_54 : decode cX3_allAreSo 54 = .ok (.iload 6, 2) := by decide +kernel
theorem dX3_allAreSo_56 : decode cX3_allAreSo 56 = .ok (.aload_n 0, 1) := by decide +kernel
theorem dX3_allAreSo_57 : decode cX3_allAreSo 57 = .ok (.getfield 15, 3) := by decide +kernel
theorem dX3_allAreSo_60 : decode cX3_allAreSo 60 = .ok (.iload 4, 2) := by decide +kernel
theorem dX3_allAreSo_62 : decode cX3_allAreSo 62 = .ok (.iaload, 1) := by decide +kernel
theorem dX3_allAreSo_63 : decode cX3_allAreSo 63 = .ok (.imul, 1) := by decide +kernel
theorem dX3_allAreSo_64 : decode cX3_allAreSo 64 = .ok (.aload_n 0, 1) := by decide +kernel
theorem dX3_allAreSo_65 : decode cX3_allAreSo 65 = .ok (.getfield 18, 3) := by decide +kernel
theorem dX3_allAreSo_68 : decode cX3_allAreSo 68 = .ok (.iload 4, 2) := by decide +kernel
theorem dX3_allAreSo_70 : decode cX3_allAreSo 70 = .ok (.iaload, 1) := by decide +kernel
theorem dX3_allAreSo_71 : decode cX3_allAreSo 71 = .ok (.if_icmp .eq 5, 3) := by decide +kernel
theorem dX3_allAreSo_74 : decode cX3_allAreSo 74 = .ok (.iconst 0, 1) := by decide +kernel
theorem dX3_allAreSo_75 : decode cX3_allAreSo 75 = .ok (.ireturn, 1) := by decide +kernel
theorem dX3_allAreSo_76 : decode cX3_allAreSo 76 = .ok (.iinc 4 1, 3) := by decide +kernel
theorem dX3_allAreSo_79 : decode cX3_allAreSo 79 = .ok (.goto (-76), 3) := by decide +kernel
theorem dX3_allAreSo_82 : decode cX3_allAreSo 82 = .ok (.iconst 1, 1) := by decide +kernel
theorem dX3_allAreSo_83 : decode cX3_allAreSo 83 = .ok (.ireturn, 1) := by decide +kernel
set_option maxRecDepth 20000 in
theorem ggX4_init_X0_init : GoodIn wsX4_init wsX0_init := goodIn_r _ [14, 15, 2, 3, 16, 17, 18, 19, 20, 21, 22, 23, 24, 25, 26, 27, 28, 29, 30, 31, 37, 38, 39, 40, 41, 42] (by decide +kernel) (by decide +kernel)
set_option maxRecDepth 20000 in
theorem gX4_init_X0_init : GoodIn wsX4_init (wsX0_init) := ggX4_init_X0_init
theorem dX4_init_0 : decode cX4_init 0 = .ok (.aload_n 0, 1) := by decide +kernel
theorem dX4_init_1 : decode cX4_init 1 = .ok (.invokespecial 3, 3) := by decide +kernel
theorem dX4_init_4 : decode cX4_init 4 = .ok (.aload_n 0, 1) := by decide +kernel
theorem dX4_init_5 : decode cX4_init 5 = .ok (.new 9, 3) := by decide +kernel
theorem dX4_init_8 : decode cX4_init 8 = .ok (.dup, 1) := by decide +kernel
theorem dX4_init_9 : decode cX4_init 9 = .ok (.invokespecial 11, 3) := by decide +kernel
theorem dX4_init_12 : decode cX4_init 12 = .ok (.putfield 12, 3) := by decide +kernel
theorem dX4_init_15 : decode cX4_init 15 = .ok (.aload_n 0, 1) := by decide +kernel
theorem dX4_init_16 : decode cX4_init 16 = .ok (.bipush (-9), 2) := by decide +kernel
theorem dX4_init_18 : decode cX4_init 18 = .ok (.putfield 18, 3) := by decide +kernel
theorem dX4_init_21 : decode cX4_init 21 = .ok (.aload_n 0, 1) := by decide +kernel
theorem dX4_init_22 : decode cX4_init 22 = .ok (.iconst 0, 1) := by decide +kernel
theorem dX4_init_23 : decode cX4_init 23 = .ok (.putfield 22, 3) := by decide +kernel
theorem dX4_init_26 : decode cX4_init 26 = .ok (.aload_n 0, 1) := by decide +kernel
theorem dX4_init_27 : decode cX4_init 27 = .ok (.bipush (-9), 2) := by decide +kernel
theorem dX4_init_29 : decode cX4_init 29 = .ok (.putfield 25, 3) := by decide +kernel
theorem dX4_init_32 : decode cX4_init 32 = .ok (.aload_n 0, 1) := by decide +kernel
theorem dX4_init_33 : decode cX4_init 33 = .ok (.iconst 0, 1) := by decide +kernel
theorem dX4_init_34 : decode cX4_init 34 = .ok (.putfield 28, 3) := by decide +kernel
theorem dX4_init_37 : decode cX4_init 37 = .ok (.return_, 1) := by decide +kernel
theorem dX4_canTell_0 : decode cX4_canTell 0 = .ok (.iload_n 0, 1) := by decide +kernel
theorem dX4_canTell_1 : decode cX4_canTell 1 = .ok (.ifCond .lt 8, 3) := by decide +kernel
theorem dX4_canTell_4 : decode cX4_canTell 4 = .ok (.iload_n 0, 1) := by decide +kernel
theorem dX4_canTell_5 : decode cX4_canTell 5 = .ok (.iconst 4, 1) := by decide +kernel
theorem dX4_canTell_6 : decode cX4_canTell 6 = .ok (.if_icmp .le 15, 3) := by decide +kernel
theorem dX4_canTell_9 : decode cX4_canTell 9 = .ok (.iload_n 0, 1) := by decide +kernel
theorem dX4_canTell_10 : decode cX4_canTell 10 = .ok (.bipush 10, 2) := by decide +kernel
theorem dX4_canTell_12 : decode cX4_canTell 12 = .ok (.if_icmp .lt 13, 3) := by decide +kernel
theorem dX4_canTell_15 : decode cX4_canTell 15 = .ok (.iload_n 0, 1) := by decide +kernel
theorem dX4_canTell_16 : decode cX4_canTell 16 = .ok (.bipush 16, 2) := by decide +kernel
theorem dX4_canTell_18 : decode cX4_canTell 18 = .ok (.if_icmp .ge 7, 3) := by decide +kernel
theorem dX4_canTell_21 : decode cX4_canTell 21 = .ok (.iconst 1, 1) := by decide +kernel
theorem dX4_canTell_22 : decode cX4_canTell 22 = .ok (.goto 4, 3) := by decide +kernel
theorem dX4_canTell_25 : decode cX4_canTell 25 = .ok (.iconst 0, 1) := by decide +kernel
theorem dX4_canTell_26 : decode cX4_canTell 26 = .ok (.ireturn, 1) := by decide +kernel
set_option maxRecDepth 20000 in
theorem ggX4_refusal_X5_at : GoodIn wsX4_refusal wsX5_at := goodIn_r _ [5, 6, 7, 14, 15, 16] (by decide +kernel) (by decide +kernel)
set_option maxRecDepth 20000 in
theorem gX4_refusal_X5_at : GoodIn wsX4_refusal (wsV RX4 31 RX5 yX5_at wsX5_at) := goodIn_app (goodIn_of _ (by decide +kernel)) ggX4_refusal_X5_at
set_option maxRecDepth 20000 in
theorem ggX4_refusal_X0_has : GoodIn wsX4_refusal wsX0_has := goodIn_r _ [12, 13, 17, 18] (by decide +kernel) (by decide +kernel)
set_option maxRecDepth 20000 in
theorem gX4_refusal_X0_has : GoodIn wsX4_refusal (wsV RX4 37 RX0 yX0_has wsX0_has) := goodIn_app (goodIn_of _ (by decide +kernel)) ggX4_refusal_X0_has
theorem dX4_refusal_0 : decode cX4_refusal 0 = .ok (.iconst 0, 1) := by decide +kernel
theorem dX4_refusal_1 : decode cX4_refusal 1 = .ok (.istore 4, 2) := by decide +kernel
theorem dX4_refusal_3 : decode cX4_refusal 3 = .ok (.iload 4, 2) := by decide +kernel
theorem dX4_refusal_5 : decode cX4_refusal 5 = .ok (.iload_n 2, 1) := by decide +kernel
theorem dX4_refusal_6 : decode cX4_refusal 6 = .ok (.if_icmp .ge 87, 3) := by decide +kernel
theorem dX4_refusal_9 : decode cX4_refusal 9 = .ok (.aload_n 0, 1) := by decide +kernel
theorem dX4_refusal_10 : decode cX4_refusal 10 = .ok (.iload_n 1, 1) := by decide +kernel
theorem dX4_refusal_11 : decode cX4_refusal 11 = .ok (.iconst 2, 1) := by decide +kernel
theorem dX4_refusal_12 : decode cX4_refusal 12 = .ok (.iload 4, 2) := by decide +kernel
theorem dX4_refusal_14 : decode cX4_refusal 14 = .ok (.imul, 1) := by decide +kernel
theorem dX4_refusal_15 : decode cX4_refusal 15 = .ok (.iadd, 1) := by decide +kernel
theorem dX4_refusal_16 : decode cX4_refusal 16 = .ok (.invokevirtual 31, 3) := by decide +kernel
theorem dX4_refusal_19 : decode cX4_refusal 19 = .ok (.istore 5, 2) := by decide +kernel
theorem dX4_refusal_21 : decode cX4_refusal 21 = .ok (.aload_n 0, 1) := by decide +kernel
theorem dX4_refusal_22 : decode cX4_refusal 22 = .ok (.iload_n 1, 1) := by decide +kernel
theorem dX4_refusal_23 : decode cX4_refusal 23 = .ok (.iconst 2, 1) := by decide +kernel
theorem dX4_refusal_24 : decode cX4_refusal 24 = .ok (.iload 4, 2) := by decide +kernel
theorem dX4_refusal_26 : decode cX4_refusal 26 = .ok (.imul, 1) := by decide +kernel
theorem dX4_refusal_27 : decode cX4_refusal 27 = .ok (.iadd, 1) := by decide +kernel
theorem dX4_refusal_28 : decode cX4_refusal 28 = .ok (.iconst 1, 1) := by decide +kernel
theorem dX4_refusal_29 : decode cX4_refusal 29 = .ok (.iadd, 1) := by decide +kernel
theorem dX4_refusal_30 : decode cX4_refusal 30 = .ok (.invokevirtual 31, 3) := by decide +kernel
theorem dX4_refusal_33 : decode cX4_refusal 33 = .ok (.istore 6, 2) := by decide +kernel
theorem dX4_refusal_35 : decode cX4_refusal 35 = .ok (.iload 6, 2) := by decide +kernel
theorem dX4_refusal_37 : decode cX4_refusal 37 = .ok (.ifCond .lt 9, 3) := by decide +kernel
theorem dX4_refusal_40 : decode cX4_refusal 40 = .ok (.iload 6, 2) := by decide +kernel
theorem dX4_refusal_42 : decode cX4_refusal 42 = .ok (.iconst 2, 1) := by decide +kernel
theorem dX4_refusal_43 : decode cX4_refusal 43 = .ok (.if_icmp .le 6, 3) := by decide +kernel
theorem dX4_refusal_46 : decode cX4_refusal 46 = .ok (.bipush (-2), 2) := by decide +kernel
theorem dX4_refusal_48 : decode cX4_refusal 48 = .ok (.ireturn, 1) := by decide +kernel
theorem dX4_refusal_49 : decode cX4_refusal 49 = .ok (.iload 6, 2) := by decide +kernel
theorem dX4_refusal_51 : decode cX4_refusal 51 = .ok (.iconst 2, 1) := by decide +kernel
theorem dX4_refusal_52 : decode cX4_refusal 52 = .ok (.if_icmp .ne 18, 3) := by decide +kernel
theorem dX4_refusal_55 : decode cX4_refusal 55 = .ok (.iload 5, 2) := by decide +kernel
theorem dX4_refusal_57 : decode cX4_refusal 57 = .ok (.ifCond .lt 10, 3) := by decide +kernel
theorem dX4_refusal_60 : decode cX4_refusal 60 = .ok (.iload 5, 2) := by decide +kernel
theorem dX4_refusal_62 : decode cX4_refusal 62 = .ok (.bipush 9, 2) := by decide +kernel
theorem dX4_refusal_64 : decode cX4_refusal 64 = .ok (.if_icmp .le 6, 3) := by decide +kernel
theorem dX4_refusal_67 : decode cX4_refusal 67 = .ok (.bipush (-2), 2) := by decide +kernel
theorem dX4_refusal_69 : decode cX4_refusal 69 = .ok (.ireturn, 1) := by decide +kernel
theorem dX4_refusal_70 : decode cX4_refusal 70 = .ok (.iload 6, 2) := by decide +kernel
theorem dX4_refusal_72 : decode cX4_refusal 72 = .ok (.iconst 2, 1) := by decide +kernel
theorem dX4_refusal_73 : decode cX4_refusal 73 = .ok (.if_icmp .eq 14, 3) := by decide +kernel
theorem dX4_refusal_76 : decode cX4_refusal 76 = .ok (.aload_n 3, 1) := by decide +kernel
theorem dX4_refusal_77 : decode cX4_refusal 77 = .ok (.iload 5, 2) := by decide +kernel
theorem dX4_refusal_79 : decode cX4_refusal 79 = .ok (.invokevirtual 37, 3) := by decide +kernel
theorem dX4_refusal_82 : decode cX4_refusal 82 = .ok (.ifCond .ne 5, 3) := by decide +kernel
theorem dX4_refusal_85 : decode cX4_refusal 85 = .ok (.iconst (-1), 1) := by decide +kernel
theorem dX4_refusal_86 : decode cX4_refusal 86 = .ok (.ireturn, 1) := by decide +kernel
theorem dX4_refusal_87 : decode cX4_refusal 87 = .ok (.iinc 4 1, 3) := by decide +kernel
theorem dX4_refusal_90 : decode cX4_refusal 90 = .ok (.goto (-87), 3) := by decide +kernel
theorem dX4_refusal_93 : decode cX4_refusal 93 = .ok (.iconst 0, 1) := by decide +kernel
theorem dX4_refusal_94 : decode cX4_refusal 94 = .ok (.ireturn, 1) := by decide +kernel
set_option maxRecDepth 20000 in
theorem ggX4_play_X0_copyFrom : GoodIn wsX4_play wsX0_copyFrom := goodIn_r _ [10, 11, 12, 13, 14, 15, 16, 17, 18, 19, 20, 21, 22, 23, 88, 89, 90, 91, 92, 93, 94, 95] (by decide +kernel) (by decide +kernel)
set_option maxRecDepth 20000 in
theorem gX4_play_X0_copyFrom : GoodIn wsX4_play (wsV RX4 41 RX0 yX0_copyFrom wsX0_copyFrom) := goodIn_app (goodIn_of _ (by decide +kernel)) ggX4_play_X0_copyFrom
set_option maxRecDepth 20000 in
theorem ggX4_play_X0_allArrived : GoodIn wsX4_play wsX0_allArrived := goodIn_r _ [27, 11, 28, 29, 30, 9, 31, 12, 32, 33, 34, 16, 35, 19, 20, 22, 36, 37, 38, 39, 40, 41, 42, 43, 44, 45, 46, 47, 88, 89, 90, 91, 92, 93, 94, 95, 96, 97, 98, 99] (by decide +kernel) (by decide +kernel)
set_option maxRecDepth 20000 in
theorem gX4_play_X0_allArrived : GoodIn wsX4_play (wsV RX4 45 RX0 yX0_allArrived wsX0_allArrived) := goodIn_app (goodIn_of _ (by decide +kernel)) ggX4_play_X0_allArrived
set_option maxRecDepth 20000 in
theorem ggX4_play_X0_walkedTogether : GoodIn wsX4_play wsX0_walkedTogether := goodIn_r _ [51, 11, 12, 88, 89, 90, 91, 92, 93, 94, 95] (by decide +kernel) (by decide +kernel)
set_option maxRecDepth 20000 in
theorem gX4_play_X0_walkedTogether : GoodIn wsX4_play (wsV RX4 49 RX0 yX0_walkedTogether wsX0_walkedTogether) := goodIn_app (goodIn_of _ (by decide +kernel)) ggX4_play_X0_walkedTogether
set_option maxRecDepth 20000 in
theorem ggX4_play_X5_at : GoodIn wsX4_play wsX5_at := goodIn_r _ [56, 57, 58, 100, 101, 102] (by decide +kernel) (by decide +kernel)
set_option maxRecDepth 20000 in
theorem gX4_play_X5_at : GoodIn wsX4_play (wsV RX4 31 RX5 yX5_at wsX5_at) := goodIn_app (goodIn_of _ (by decide +kernel)) ggX4_play_X5_at
set_option maxRecDepth 20000 in
theorem ggX4_play_X4_passDays : GoodIn wsX4_play wsX4_passDays := goodIn_r _ [63, 1, 3, 4, 64, 65, 66, 9, 67, 11, 12, 32, 33, 34, 16, 35, 19, 20, 22, 36, 37, 38, 39, 40, 41, 42, 43, 44, 45, 46, 47, 68, 69, 70, 71, 18, 21, 72, 73, 74, 24, 25, 26, 27, 28, 29, 30, 31, 83, 84, 85, 86, 87, 88, 89, 90, 91, 92, 93, 94, 95, 96, 97, 98, 99] (by decide +kernel) (by decide +kernel)
set_option maxRecDepth 20000 in
theorem gX4_play_X4_passDays : GoodIn wsX4_play (wsV RX4 53 RX4 yX4_passDays wsX4_passDays) := goodIn_app (goodIn_of _ (by decide +kernel)) ggX4_play_X4_passDays
set_option maxRecDepth 20000 in
theorem ggX4_play_X0_turn : GoodIn wsX4_play wsX0_turn := goodIn_r _ [78, 12, 79, 80, 81, 9, 82, 11, 88, 89, 90, 91, 92, 93, 94, 95] (by decide +kernel) (by decide +kernel)
set_option maxRecDepth 20000 in
theorem gX4_play_X0_turn : GoodIn wsX4_play (wsV RX4 57 RX0 yX0_turn wsX0_turn) := goodIn_app (goodIn_of _ (by decide +kernel)) ggX4_play_X0_turn
theorem dX4_play_0 : decode cX4_play 0 = .ok (.aload_n 0, 1) := by decide +kernel
theorem dX4_play_1 : decode cX4_play 1 = .ok (.getfield 12, 3) := by decide +kernel
theorem dX4_play_4 : decode cX4_play 4 = .ok (.aload 4, 2) := by decide +kernel
theorem dX4_play_6 : decode cX4_play 6 = .ok (.invokevirtual 41, 3) := by decide +kernel
theorem dX4_play_9 : decode cX4_play 9 = .ok (.aload_n 0, 1) := by decide +kernel
theorem dX4_play_10 : decode cX4_play 10 = .ok (.bipush (-9), 2) := by decide +kernel
theorem dX4_play_12 : decode cX4_play 12 = .ok (.putfield 18, 3) := by decide +kernel
theorem dX4_play_15 : decode cX4_play 15 = .ok (.aload_n 0, 1) := by decide +kernel
theorem dX4_play_16 : decode cX4_play 16 = .ok (.iconst 0, 1) := by decide +kernel
theorem dX4_play_17 : decode cX4_play 17 = .ok (.putfield 22, 3) := by decide +kernel
theorem dX4_play_20 : decode cX4_play 20 = .ok (.aload_n 0, 1) := by decide +kernel
theorem dX4_play_21 : decode cX4_play 21 = .ok (.aload_n 0, 1) := by decide +kernel
theorem dX4_play_22 : decode cX4_play 22 = .ok (.getfield 12, 3) := by decide +kernel
theorem dX4_play_25 : decode cX4_play 25 = .ok (.aload 5, 2) := by decide +kernel
theorem dX4_play_27 : decode cX4_play 27 = .ok (.invokevirtual 45, 3) := by decide +kernel
theorem dX4_play_30 : decode cX4_play 30 = .ok (.ifCond .eq 7, 3) := by decide +kernel
theorem dX4_play_33 : decode cX4_play 33 = .ok (.iconst 0, 1) := by decide +kernel
theorem dX4_play_34 : decode cX4_play 34 = .ok (.goto 5, 3) := by decide +kernel
theorem dX4_play_37 : decode cX4_play 37 = .ok (.bipush (-9), 2) := by decide +kernel
theorem dX4_play_39 : decode cX4_play 39 = .ok (.putfield 25, 3) := by decide +kernel
theorem dX4_play_42 : decode cX4_play 42 = .ok (.aload_n 0, 1) := by decide +kernel
theorem dX4_play_43 : decode cX4_play 43 = .ok (.aload_n 0, 1) := by decide +kernel
theorem dX4_play_44 : decode cX4_play 44 = .ok (.getfield 12, 3) := by decide +kernel
theorem dX4_play_47 : decode cX4_play 47 = .ok (.invokevirtual 49, 3) := by decide +kernel
theorem dX4_play_50 : decode cX4_play 50 = .ok (.putfield 28, 3) := by decide +kernel
theorem dX4_play_53 : decode cX4_play 53 = .ok (.iconst 0, 1) := by decide +kernel
theorem dX4_play_54 : decode cX4_play 54 = .ok (.istore 6, 2) := by decide +kernel
theorem dX4_play_56 : decode cX4_play 56 = .ok (.iload 6, 2) := by decide +kernel
theorem dX4_play_58 : decode cX4_play 58 = .ok (.iload_n 3, 1) := by decide +kernel
theorem dX4_play_59 : decode cX4_play 59 = .ok (.if_icmp .ge 89, 3) := by decide +kernel
theorem dX4_play_62 : decode cX4_play 62 = .ok (.aload_n 0, 1) := by decide +kernel
theorem dX4_play_63 : decode cX4_play 63 = .ok (.getfield 18, 3) := by decide +kernel
theorem dX4_play_66 : decode cX4_play 66 = .ok (.bipush (-9), 2) := by decide +kernel
theorem dX4_play_68 : decode cX4_play 68 = .ok (.if_icmp .ne 80, 3) := by decide +kernel
theorem dX4_play_71 : decode cX4_play 71 = .ok (.aload_n 1, 1) := by decide +kernel
theorem dX4_play_72 : decode cX4_play 72 = .ok (.iload_n 2, 1) := by decide +kernel
theorem dX4_play_73 : decode cX4_play 73 = .ok (.iconst 2, 1) := by decide +kernel
theorem dX4_play_74 : decode cX4_play 74 = .ok (.iload 6, 2) := by decide +kernel
theorem dX4_play_76 : decode cX4_play 76 = .ok (.imul, 1) := by decide +kernel
theorem dX4_play_77 : decode cX4_play 77 = .ok (.iadd, 1) := by decide +kernel
theorem dX4_play_78 : decode cX4_play 78 = .ok (.invokevirtual 31, 3) := by decide +kernel
theorem dX4_play_81 : decode cX4_play 81 = .ok (.istore 7, 2) := by decide +kernel
theorem dX4_play_83 : decode cX4_play 83 = .ok (.aload_n 1, 1) := by decide +kernel
theorem dX4_play_84 : decode cX4_play 84 = .ok (.iload_n 2, 1) := by decide +kernel
theorem dX4_play_85 : decode cX4_play 85 = .ok (.iconst 2, 1) := by decide +kernel
theorem dX4_play_86 : decode cX4_play 86 = .ok (.iload 6, 2) := by decide +kernel
theorem dX4_play_88 : decode cX4_play 88 = .ok (.imul, 1) := by decide +kernel
theorem dX4_play_89 : decode cX4_play 89 = .ok (.iadd, 1) := by decide +kernel
theorem dX4_play_90 : decode cX4_play 90 = .ok (.iconst 1, 1) := by decide +kernel
theorem dX4_play_91 : decode cX4_play 91 = .ok (.iadd, 1) := by decide +kernel
theorem dX4_play_92 : decode cX4_play 92 = .ok (.invokevirtual 31, 3) := by decide +kernel
theorem dX4_play_95 : decode cX4_play 95 = .ok (.istore 8, 2) := by decide +kernel
theorem dX4_play_97 : decode cX4_play 97 = .ok (.iload 8, 2) := by decide +kernel
theorem dX4_play_99 : decode cX4_play 99 = .ok (.iconst 2, 1) := by decide +kernel
theorem dX4_play_100 : decode cX4_play 100 = .ok (.if_icmp .ne 14, 3) := by decide +kernel
theorem dX4_play_103 : decode cX4_play 103 = .ok (.aload_n 0, 1) := by decide +kernel
theorem dX4_play_104 : decode cX4_play 104 = .ok (.iload 7, 2) := by decide +kernel
theorem dX4_play_106 : decode cX4_play 106 = .ok (.aload 5, 2) := by decide +kernel
theorem dX4_play_108 : decode cX4_play 108 = .ok (.invokevirtual 53, 3) := by decide +kernel
theorem dX4_play_111 : decode cX4_play 111 = .ok (.goto 31, 3) := by decide +kernel
theorem dX4_play_114 : decode cX4_play 114 = .ok (.aload_n 0, 1) := by decide +kernel
theorem dX4_play_115 : decode cX4_play 115 = .ok (.getfield 12, 3) := by decide +kernel
theorem dX4_play_118 : decode cX4_play 118 = .ok (.iload 7, 2) := by decide +kernel
theorem dX4_play_120 : decode cX4_play 120 = .ok (.iload 8, 2) := by decide +kernel
theorem dX4_play_122 : decode cX4_play 122 = .ok (.ifCond .ne 7, 3) := by decide +kernel
theorem dX4_play_125 : decode cX4_play 125 = .ok (.iconst 1, 1) := by decide +kernel
theorem dX4_play_126 : decode cX4_play 126 = .ok (.goto 4, 3) := by decide +kernel
theorem dX4_play_129 : decode cX4_play 129 = .ok (.iconst 0, 1) := by decide +kernel
theorem dX4_play_130 : decode cX4_play 130 = .ok (.invokevirtual 57, 3) := by decide +kernel
theorem dX4_play_133 : decode cX4_play 133 = .ok (.ifCond .ne 9, 3) := by decide +kernel
theorem dX4_play_136 : decode cX4_play 136 = .ok (.aload_n 0, 1) := by decide +kernel
theorem dX4_play_137 : decode cX4_play 137 = .ok (.iload 6, 2) := by decide +kernel
theorem dX4_play_139 : decode cX4_play 139 = .ok (.putfield 18, 3) := by decide +kernel
theorem dX4_play_142 : decode cX4_play 142 = .ok (.iinc 6 1, 3) := by decide +kernel
theorem dX4_play_145 : decode cX4_play 145 = .ok (.goto (-89), 3) := by decide +kernel
theorem dX4_play_148 : decode cX4_play 148 = .ok (.return_, 1) := by decide +kernel
set_option maxRecDepth 20000 in
theorem ggX4_passDays_X0_passDay : GoodIn wsX4_passDays wsX0_passDay := goodIn_r _ [8, 9, 10, 11, 12, 13, 14, 15, 16, 17, 18, 19, 20, 21, 22, 23, 24, 25, 26, 27, 28, 29, 30, 31, 32, 33, 34, 35, 36, 37, 38, 39, 53, 54, 55, 56, 57, 58, 59, 60, 61, 62, 63, 64] (by decide +kernel) (by decide +kernel)
set_option maxRecDepth 20000 in
theorem gX4_passDays_X0_passDay : GoodIn wsX4_passDays (wsV RX4 61 RX0 yX0_passDay wsX0_passDay) := goodIn_app (goodIn_of _ (by decide +kernel)) ggX4_passDays_X0_passDay
set_option maxRecDepth 20000 in
theorem ggX4_passDays_X0_allArrived : GoodIn wsX4_passDays wsX0_allArrived := goodIn_r _ [43, 9, 44, 45, 46, 7, 47, 10, 11, 12, 13, 14, 15, 16, 17, 18, 19, 20, 21, 22, 23, 24, 25, 26, 27, 28, 29, 30, 53, 54, 55, 56, 57, 58, 59, 60, 61, 62, 63, 64] (by decide +kernel) (by decide +kernel)
set_option maxRecDepth 20000 in
theorem gX4_passDays_X0_allArrived : GoodIn wsX4_passDays (wsV RX4 45 RX0 yX0_allArrived wsX0_allArrived) := goodIn_app (goodIn_of _ (by decide +kernel)) ggX4_passDays_X0_allArrived
theorem dX4_passDays_0 : decode cX4_passDays 0 = .ok (.iconst 0, 1) := by decide +kernel
theorem dX4_passDays_1 : decode cX4_passDays 1 = .ok (.istore_n 3, 1) := by decide +kernel
theorem dX4_passDays_2 : decode cX4_passDays 2 = .ok (.iload_n 3, 1) := by decide +kernel
theorem dX4_passDays_3 : decode cX4_passDays 3 = .ok (.iload_n 1, 1) := by decide +kernel
theorem dX4_passDays_4 : decode cX4_passDays 4 = .ok (.if_icmp .ge 55, 3) := by decide +kernel
theorem dX4_passDays_7 : decode cX4_passDays 7 = .ok (.aload_n 0, 1) := by decide +kernel
theorem dX4_passDays_8 : decode cX4_passDays 8 = .ok (.getfield 12, 3) := by decide +kernel
theorem dX4_passDays_11 : decode cX4_passDays 11 = .ok (.aload_n 2, 1) := by decide +kernel
theorem dX4_passDays_12 : decode cX4_passDays 12 = .ok (.invokevirtual 61, 3) := by decide +kernel
theorem dX4_passDays_15 : decode cX4_passDays 15 = .ok (.aload_n 0, 1) := by decide +kernel
theorem dX4_passDays_16 : decode cX4_passDays 16 = .ok (.dup, 1) := by decide +kernel
theorem dX4_passDays_17 : decode cX4_passDays 17 = .ok (.getfield 22, 3) := by decide +kernel
theorem dX4_passDays_20 : decode cX4_passDays 20 = .ok (.iconst 1, 1) := by decide +kernel
theorem dX4_passDays_21 : decode cX4_passDays 21 = .ok (.iadd, 1) := by decide +kernel
theorem dX4_passDays_22 : decode cX4_passDays 22 = .ok (.putfield 22, 3) := by decide +kernel
theorem dX4_passDays_25 : decode cX4_passDays 25 = .ok (.aload_n 0, 1) := by decide +kernel
theorem dX4_passDays_26 : decode cX4_passDays 26 = .ok (.getfield 25, 3) := by decide +kernel
theorem dX4_passDays_29 : decode cX4_passDays 29 = .ok (.bipush (-9), 2) := by decide +kernel
theorem dX4_passDays_31 : decode cX4_passDays 31 = .ok (.if_icmp .ne 22, 3) := by decide +kernel
theorem dX4_passDays_34 : decode cX4_passDays 34 = .ok (.aload_n 0, 1) := by decide +kernel
theorem dX4_passDays_35 : decode cX4_passDays 35 = .ok (.getfield 12, 3) := by decide +kernel
theorem dX4_passDays_38 : decode cX4_passDays 38 = .ok (.aload_n 2, 1) := by decide +kernel
theorem dX4_passDays_39 : decode cX4_passDays 39 = .ok (.invokevirtual 45, 3) := by decide +kernel
theorem dX4_passDays_42 : decode cX4_passDays 42 = .ok (.ifCond .eq 11, 3) := by decide +kernel
theorem dX4_passDays_45 : decode cX4_passDays 45 = .ok (.aload_n 0, 1) := by decide +kernel
theorem dX4_passDays_46 : decode cX4_passDays 46 = .ok (.aload_n 0, 1) := by decide +kernel
theorem dX4_passDays_47 : decode cX4_passDays 47 = .ok (.getfield 22, 3) := by decide +kernel
theorem dX4_passDays_50 : decode cX4_passDays 50 = .ok (.putfield 25, 3) := by decide +kernel
theorem dX4_passDays_53 : decode cX4_passDays 53 = .ok (.iinc 3 1, 3) := by decide +kernel
theorem dX4_passDays_56 : decode cX4_passDays 56 = .ok (.goto (-54), 3) := by decide +kernel
theorem dX4_passDays_59 : decode cX4_passDays 59 = .ok (.return_, 1) := by decide +kernel
set_option maxRecDepth 20000 in
theorem ggX4_told_X0_countArrived : GoodIn wsX4_told wsX0_countArrived := goodIn_r _ [9, 10, 11, 12, 13, 14, 15, 16, 17, 18, 19, 20, 21, 22, 23, 24, 25, 26, 27, 28, 29, 30, 31, 49, 50, 51, 52, 53, 54, 55, 56, 57, 58, 59, 60] (by decide +kernel) (by decide +kernel)
set_option maxRecDepth 20000 in
theorem gX4_told_X0_countArrived : GoodIn wsX4_told (wsV RX4 65 RX0 yX0_countArrived wsX0_countArrived) := goodIn_app (goodIn_of _ (by decide +kernel)) ggX4_told_X0_countArrived
set_option maxRecDepth 20000 in
theorem ggX4_told_X0_sitters : GoodIn wsX4_told wsX0_sitters := goodIn_r _ [35, 10, 11, 49, 50, 51, 52, 53, 54, 55, 56] (by decide +kernel) (by decide +kernel)
set_option maxRecDepth 20000 in
theorem gX4_told_X0_sitters : GoodIn wsX4_told (wsV RX4 69 RX0 yX0_sitters wsX0_sitters) := goodIn_app (goodIn_of _ (by decide +kernel)) ggX4_told_X0_sitters
set_option maxRecDepth 20000 in
theorem ggX4_told_X0_walkedTogether : GoodIn wsX4_told wsX0_walkedTogether := goodIn_r _ [39, 10, 11, 49, 50, 51, 52, 53, 54, 55, 56] (by decide +kernel) (by decide +kernel)
set_option maxRecDepth 20000 in
theorem gX4_told_X0_walkedTogether : GoodIn wsX4_told (wsV RX4 49 RX0 yX0_walkedTogether wsX0_walkedTogether) := goodIn_app (goodIn_of _ (by decide +kernel)) ggX4_told_X0_walkedTogether
set_option maxRecDepth 20000 in
theorem ggX4_told_X0_has : GoodIn wsX4_told wsX0_has := goodIn_r _ [43, 10, 49, 50] (by decide +kernel) (by decide +kernel)
set_option maxRecDepth 20000 in
theorem gX4_told_X0_has : GoodIn wsX4_told (wsV RX4 37 RX0 yX0_has wsX0_has) := goodIn_app (goodIn_of _ (by decide +kernel)) ggX4_told_X0_has
theorem dX4_told_0 : decode cX4_told 0 = .ok (.iload_n 1, 1) := by decide +kernel
theorem dX4_told_1 : decode cX4_told 1 = .ok (.iconst 1, 1) := by decide +kernel
theorem dX4_told_2 : decode cX4_told 2 = .ok (.if_icmp .ne 8, 3) := by decide +kernel
theorem dX4_told_5 : decode cX4_told 5 = .ok (.aload_n 0, 1) := by decide +kernel
theorem dX4_told_6 : decode cX4_told 6 = .ok (.getfield 18, 3) := by decide +kernel
theorem dX4_told_9 : decode cX4_told 9 = .ok (.ireturn, 1) := by decide +kernel
theorem dX4_told_10 : decode cX4_told 10 = .ok (.aload_n 0, 1) := by decide +kernel
theorem dX4_told_11 : decode cX4_told 11 = .ok (.getfield 18, 3) := by decide +kernel
theorem dX4_told_14 : decode cX4_told 14 = .ok (.bipush (-9), 2) := by decide +kernel
theorem dX4_told_16 : decode cX4_told 16 = .ok (.if_icmp .eq 11, 3) := by decide +kernel
theorem dX4_told_19 : decode cX4_told 19 = .ok (.bipush (-100), 2) := by decide +kernel
theorem dX4_told_21 : decode cX4_told 21 = .ok (.aload_n 0, 1) := by decide +kernel
theorem dX4_told_22 : decode cX4_told 22 = .ok (.getfield 18, 3) := by decide +kernel
theorem dX4_told_25 : decode cX4_told 25 = .ok (.isub, 1) := by decide +kernel
theorem dX4_told_26 : decode cX4_told 26 = .ok (.ireturn, 1) := by decide +kernel
theorem dX4_told_27 : decode cX4_told 27 = .ok (.iload_n 1, 1) := by decide +kernel
theorem dX4_told_28 : decode cX4_told 28 = .ok (.tableswitch 71 0 4 #[36, 71, 45, 53, 66], 36) := by decide +kernel
theorem dX4_told_64 : decode cX4_told 64 = .ok (.aload_n 0, 1) := by decide +kernel
theorem dX4_told_65 : decode cX4_told 65 = .ok (.getfield 12, 3) := by decide +kernel
theorem dX4_told_68 : decode cX4_told 68 = .ok (.aload_n 2, 1) := by decide +kernel
theorem dX4_told_69 : decode cX4_told 69 = .ok (.invokevirtual 65, 3) := by decide +kernel
theorem dX4_told_72 : decode cX4_told 72 = .ok (.ireturn, 1) := by decide +kernel
theorem dX4_told_73 : decode cX4_told 73 = .ok (.aload_n 0, 1) := by decide +kernel
theorem dX4_told_74 : decode cX4_told 74 = .ok (.getfield 12, 3) := by decide +kernel
theorem dX4_told_77 : decode cX4_told 77 = .ok (.invokevirtual 69, 3) := by decide +kernel
theorem dX4_told_80 : decode cX4_told 80 = .ok (.ireturn, 1) := by decide +kernel
theorem dX4_told_81 : decode cX4_told 81 = .ok (.aload_n 0, 1) := by decide +kernel
theorem dX4_told_82 : decode cX4_told 82 = .ok (.getfield 12, 3) := by decide +kernel
theorem dX4_told_85 : decode cX4_told 85 = .ok (.invokevirtual 49, 3) := by decide +kernel
theorem dX4_told_88 : decode cX4_told 88 = .ok (.aload_n 0, 1) := by decide +kernel
theorem dX4_told_89 : decode cX4_told 89 = .ok (.getfield 28, 3) := by decide +kernel
theorem dX4_told_92 : decode cX4_told 92 = .ok (.isub, 1) := by decide +kernel
theorem dX4_told_93 : decode cX4_told 93 = .ok (.ireturn, 1) := by decide +kernel
theorem dX4_told_94 : decode cX4_told 94 = .ok (.aload_n 0, 1) := by decide +kernel
theorem dX4_told_95 : decode cX4_told 95 = .ok (.getfield 25, 3) := by decide +kernel
theorem dX4_told_98 : decode cX4_told 98 = .ok (.ireturn, 1) := by decide +kernel
theorem dX4_told_99 : decode cX4_told 99 = .ok (.aload_n 0, 1) := by decide +kernel
theorem dX4_told_100 : decode cX4_told 100 = .ok (.getfield 12, 3) := by decide +kernel
theorem dX4_told_103 : decode cX4_told 103 = .ok (.iload_n 1, 1) := by decide +kernel
theorem dX4_told_104 : decode cX4_told 104 = .ok (.bipush 10, 2) := by decide +kernel
theorem dX4_told_106 : decode cX4_told 106 = .ok (.isub, 1) := by decide +kernel
theorem dX4_told_107 : decode cX4_told 107 = .ok (.invokevirtual 37, 3) := by decide +kernel
theorem dX4_told_110 : decode cX4_told 110 = .ok (.ifCond .eq 21, 3) := by decide +kernel
theorem dX4_told_113 : decode cX4_told 113 = .ok (.aload_n 0, 1) := by decide +kernel
theorem dX4_told_114 : decode cX4_told 114 = .ok (.getfield 12, 3) := by decide +kernel
theorem dX4_told_117 : decode cX4_told 117 = .ok (.getfield 72, 3) := by decide +kernel
theorem dX4_told_120 : decode cX4_told 120 = .ok (.iload_n 1, 1) := by decide +kernel
theorem dX4_told_121 : decode cX4_told 121 = .ok (.bipush 10, 2) := by decide +kernel
theorem dX4_told_123 : decode cX4_told 123 = .ok (.isub, 1) := by decide +kernel
theorem dX4_told_124 : decode cX4_told 124 = .ok (.aaload, 1) := by decide +kernel
theorem dX4_told_125 : decode cX4_told 125 = .ok (.getfield 76, 3) := by decide +kernel
theorem dX4_told_128 : decode cX4_told 128 = .ok (.goto 5, 3) := by decide +kernel
theorem dX4_told_131 : decode cX4_told 131 = .ok (.bipush (-9), 2) := by decide +kernel
theorem dX4_told_133 : decode cX4_told 133 = .ok (.ireturn, 1) := by decide +kernel
theorem dX5_init_0 : decode cX5_init 0 = .ok (.aload_n 0, 1) := by decide +kernel
theorem dX5_init_1 : decode cX5_init 1 = .ok (.invokespecial 3, 3) := by decide +kernel
theorem dX5_init_4 : decode cX5_init 4 = .ok (.aload_n 0, 1) := by decide +kernel
theorem dX5_init_5 : decode cX5_init 5 = .ok (.bipush 60, 2) := by decide +kernel
theorem dX5_init_7 : decode cX5_init 7 = .ok (.newarray .int, 2) := by decide +kernel
theorem dX5_init_9 : decode cX5_init 9 = .ok (.putfield 9, 3) := by decide +kernel
theorem dX5_init_12 : decode cX5_init 12 = .ok (.aload_n 0, 1) := by decide +kernel
theorem dX5_init_13 : decode cX5_init 13 = .ok (.bipush (-9), 2) := by decide +kernel
theorem dX5_init_15 : decode cX5_init 15 = .ok (.putfield 15, 3) := by decide +kernel
theorem dX5_init_18 : decode cX5_init 18 = .ok (.aload_n 0, 1) := by decide +kernel
theorem dX5_init_19 : decode cX5_init 19 = .ok (.iconst 0, 1) := by decide +kernel
theorem dX5_init_20 : decode cX5_init 20 = .ok (.putfield 19, 3) := by decide +kernel
theorem dX5_init_23 : decode cX5_init 23 = .ok (.return_, 1) := by decide +kernel
theorem dX5_hasNothing_0 : decode cX5_hasNothing 0 = .ok (.aload_n 0, 1) := by decide +kernel
theorem dX5_hasNothing_1 : decode cX5_hasNothing 1 = .ok (.getfield 15, 3) := by decide +kernel
theorem dX5_hasNothing_4 : decode cX5_hasNothing 4 = .ok (.bipush (-9), 2) := by decide +kernel
theorem dX5_hasNothing_6 : decode cX5_hasNothing 6 = .ok (.if_icmp .ne 7, 3) := by decide +kernel
theorem dX5_hasNothing_9 : decode cX5_hasNothing 9 = .ok (.iconst 1, 1) := by decide +kernel
theorem dX5_hasNothing_10 : decode cX5_hasNothing 10 = .ok (.goto 4, 3) := by decide +kernel
theorem dX5_hasNothing_13 : decode cX5_hasNothing 13 = .ok (.iconst 0, 1) := by decide +kernel
theorem dX5_hasNothing_14 : decode cX5_hasNothing 14 = .ok (.ireturn, 1) := by decide +kernel
theorem dX5_clear_0 : decode cX5_clear 0 = .ok (.aload_n 0, 1) := by decide +kernel
theorem dX5_clear_1 : decode cX5_clear 1 = .ok (.bipush (-9), 2) := by decide +kernel
theorem dX5_clear_3 : decode cX5_clear 3 = .ok (.putfield 15, 3) := by decide +kernel
theorem dX5_clear_6 : decode cX5_clear 6 = .ok (.aload_n 0, 1) := by decide +kernel
theorem dX5_clear_7 : decode cX5_clear 7 = .ok (.iconst 0, 1) := by decide +kernel
theorem dX5_clear_8 : decode cX5_clear 8 = .ok (.putfield 19, 3) := by decide +kernel
theorem dX5_clear_11 : decode cX5_clear 11 = .ok (.return_, 1) := by decide +kernel
theorem dX5_renew_0 : decode cX5_renew 0 = .ok (.aload_n 0, 1) := by decide +kernel
theorem dX5_renew_1 : decode cX5_renew 1 = .ok (.iload_n 1, 1) := by decide +kernel
theorem dX5_renew_2 : decode cX5_renew 2 = .ok (.putfield 15, 3) := by decide +kernel
theorem dX5_renew_5 : decode cX5_renew 5 = .ok (.aload_n 0, 1) := by decide +kernel
theorem dX5_renew_6 : decode cX5_renew 6 = .ok (.iconst 0, 1) := by decide +kernel
theorem dX5_renew_7 : decode cX5_renew 7 = .ok (.iload_n 2, 1) := by decide +kernel
theorem dX5_renew_8 : decode cX5_renew 8 = .ok (.bipush 60, 2) := by decide +kernel
theorem dX5_renew_10 : decode cX5_renew 10 = .ok (.invokestatic 22, 3) := by decide +kernel
theorem dX5_renew_13 : decode cX5_renew 13 = .ok (.invokestatic 28, 3) := by decide +kernel
theorem dX5_renew_16 : decode cX5_renew 16 = .ok (.putfield 19, 3) := by decide +kernel
theorem dX5_renew_19 : decode cX5_renew 19 = .ok (.iconst 0, 1) := by decide +kernel
theorem dX5_renew_20 : decode cX5_renew 20 = .ok (.istore_n 3, 1) := by decide +kernel
theorem dX5_renew_21 : decode cX5_renew 21 = .ok (.iload_n 3, 1) := by decide +kernel
theorem dX5_renew_22 : decode cX5_renew 22 = .ok (.aload_n 0, 1) := by decide +kernel
theorem dX5_renew_23 : decode cX5_renew 23 = .ok (.getfield 19, 3) := by decide +kernel
theorem dX5_renew_26 : decode cX5_renew 26 = .ok (.if_icmp .ge 16, 3) := by decide +kernel
theorem dX5_renew_29 : decode cX5_renew 29 = .ok (.aload_n 0, 1) := by decide +kernel
theorem dX5_renew_30 : decode cX5_renew 30 = .ok (.getfield 9, 3) := by decide +kernel
theorem dX5_renew_33 : decode cX5_renew 33 = .ok (.iload_n 3, 1) := by decide +kernel
theorem dX5_renew_34 : decode cX5_renew 34 = .ok (.iconst 0, 1) := by decide +kernel
theorem dX5_renew_35 : decode cX5_renew 35 = .ok (.iastore, 1) := by decide +kernel
theorem dX5_renew_36 : decode cX5_renew 36 = .ok (.iinc 3 1, 3) := by decide +kernel
theorem dX5_renew_39 : decode cX5_renew 39 = .ok (.goto (-18), 3) := by decide +kernel
theorem dX5_renew_42 : decode cX5_renew 42 = .ok (.return_, 1) := by decide +kernel
theorem dX5_at_0 : decode cX5_at 0 = .ok (.iload_n 1, 1) := by decide +kernel
theorem dX5_at_1 : decode cX5_at 1 = .ok (.ifCond .lt 20, 3) := by decide +kernel
theorem dX5_at_4 : decode cX5_at 4 = .ok (.iload_n 1, 1) := by decide +kernel
theorem dX5_at_5 : decode cX5_at 5 = .ok (.aload_n 0, 1) := by decide +kernel
theorem dX5_at_6 : decode cX5_at 6 = .ok (.getfield 19, 3) := by decide +kernel
theorem dX5_at_9 : decode cX5_at 9 = .ok (.if_icmp .ge 12, 3) := by decide +kernel
theorem dX5_at_12 : decode cX5_at 12 = .ok (.aload_n 0, 1) := by decide +kernel
theorem dX5_at_13 : decode cX5_at 13 = .ok (.getfield 9, 3) := by decide +kernel
theorem dX5_at_16 : decode cX5_at 16 = .ok (.iload_n 1, 1) := by decide +kernel
theorem dX5_at_17 : decode cX5_at 17 = .ok (.iaload, 1) := by decide +kernel
theorem dX5_at_18 : decode cX5_at 18 = .ok (.goto 4, 3) := by decide +kernel
theorem dX5_at_21 : decode cX5_at 21 = .ok (.iconst 0, 1) := by decide +kernel
theorem dX5_at_22 : decode cX5_at 22 = .ok (.ireturn, 1) := by decide +kernel
set_option maxRecDepth 20000 in
theorem ggX5_set_X5_cut : GoodIn wsX5_set wsX5_cut := goodIn_r _ [7, 8, 9, 10, 11] (by decide +kernel) (by decide +kernel)
set_option maxRecDepth 20000 in
theorem gX5_set_X5_cut : GoodIn wsX5_set (wsV RX5 31 RX5 yX5_cut wsX5_cut) := goodIn_app (goodIn_of _ (by decide +kernel)) ggX5_set_X5_cut
theorem dX5_set_0 : decode cX5_set 0 = .ok (.iload_n 1, 1) := by decide +kernel
theorem dX5_set_1 : decode cX5_set 1 = .ok (.ifCond .lt 22, 3) := by decide +kernel
theorem dX5_set_4 : decode cX5_set 4 = .ok (.iload_n 1, 1) := by decide +kernel
theorem dX5_set_5 : decode cX5_set 5 = .ok (.aload_n 0, 1) := by decide +kernel
theorem dX5_set_6 : decode cX5_set 6 = .ok (.getfield 19, 3) := by decide +kernel
theorem dX5_set_9 : decode cX5_set 9 = .ok (.if_icmp .ge 14, 3) := by decide +kernel
theorem dX5_set_12 : decode cX5_set 12 = .ok (.aload_n 0, 1) := by decide +kernel
theorem dX5_set_13 : decode cX5_set 13 = .ok (.getfield 9, 3) := by decide +kernel
theorem dX5_set_16 : decode cX5_set 16 = .ok (.iload_n 1, 1) := by decide +kernel
theorem dX5_set_17 : decode cX5_set 17 = .ok (.aload_n 0, 1) := by decide +kernel
theorem dX5_set_18 : decode cX5_set 18 = .ok (.iload_n 2, 1) := by decide +kernel
theorem dX5_set_19 : decode cX5_set 19 = .ok (.invokevirtual 31, 3) := by decide +kernel
theorem dX5_set_22 : decode cX5_set 22 = .ok (.iastore, 1) := by decide +kernel
theorem dX5_set_23 : decode cX5_set 23 = .ok (.return_, 1) := by decide +kernel
theorem dX5_cut_0 : decode cX5_cut 0 = .ok (.aload_n 0, 1) := by decide +kernel
theorem dX5_cut_1 : decode cX5_cut 1 = .ok (.getfield 15, 3) := by decide +kernel
theorem dX5_cut_4 : decode cX5_cut 4 = .ok (.lookupswitch 34 #[(0, 28), (1, 31)], 28) := by decide +kernel
theorem dX5_cut_32 : decode cX5_cut 32 = .ok (.iload_n 1, 1) := by decide +kernel
theorem dX5_cut_33 : decode cX5_cut 33 = .ok (.i2b, 1) := by decide +kernel
theorem dX5_cut_34 : decode cX5_cut 34 = .ok (.ireturn, 1) := by decide +kernel
theorem dX5_cut_35 : decode cX5_cut 35 = .ok (.iload_n 1, 1) := by decide +kernel
theorem dX5_cut_36 : decode cX5_cut 36 = .ok (.i2s, 1) := by decide +kernel
theorem dX5_cut_37 : decode cX5_cut 37 = .ok (.ireturn, 1) := by decide +kernel
theorem dX5_cut_38 : decode cX5_cut 38 = .ok (.iload_n 1, 1) := by decide +kernel
theorem dX5_cut_39 : decode cX5_cut 39 = .ok (.ireturn, 1) := by decide +kernel
set_option maxRecDepth 20000 in
theorem ggX5_faultAsRow_X5_hasNothing : GoodIn wsX5_faultAsRow wsX5_hasNothing := goodIn_r _ [6, 1, 12, 13, 14] (by decide +kernel) (by decide +kernel)
set_option maxRecDepth 20000 in
theorem gX5_faultAsRow_X5_hasNothing : GoodIn wsX5_faultAsRow (wsV RX5 35 RX5 yX5_hasNothing wsX5_hasNothing) := goodIn_app (goodIn_of _ (by decide +kernel)) ggX5_faultAsRow_X5_hasNothing
set_option maxRecDepth 20000 in
theorem ggX5_faultAsRow_X5_faultOfCells : GoodIn wsX5_faultAsRow wsX5_faultOfCells := goodIn_r _ [10, 11, 12, 13, 14] (by decide +kernel) (by decide +kernel)
set_option maxRecDepth 20000 in
theorem gX5_faultAsRow_X5_faultOfCells : GoodIn wsX5_faultAsRow (wsV RX5 39 RX5 yX5_faultOfCells wsX5_faultOfCells) := goodIn_app (goodIn_of _ (by decide +kernel)) ggX5_faultAsRow_X5_faultOfCells
theorem dX5_faultAsRow_0 : decode cX5_faultAsRow 0 = .ok (.aload_n 0, 1) := by decide +kernel
theorem dX5_faultAsRow_1 : decode cX5_faultAsRow 1 = .ok (.invokevirtual 35, 3) := by decide +kernel
theorem dX5_faultAsRow_4 : decode cX5_faultAsRow 4 = .ok (.ifCond .eq 5, 3) := by decide +kernel
theorem dX5_faultAsRow_7 : decode cX5_faultAsRow 7 = .ok (.iconst 1, 1) := by decide +kernel
theorem dX5_faultAsRow_8 : decode cX5_faultAsRow 8 = .ok (.ireturn, 1) := by decide +kernel
theorem dX5_faultAsRow_9 : decode cX5_faultAsRow 9 = .ok (.aload_n 0, 1) := by decide +kernel
theorem dX5_faultAsRow_10 : decode cX5_faultAsRow 10 = .ok (.getfield 15, 3) := by decide +kernel
theorem dX5_faultAsRow_13 : decode cX5_faultAsRow 13 = .ok (.iload_n 1, 1) := by decide +kernel
theorem dX5_faultAsRow_14 : decode cX5_faultAsRow 14 = .ok (.if_icmp .eq 5, 3) := by decide +kernel
theorem dX5_faultAsRow_17 : decode cX5_faultAsRow 17 = .ok (.iconst 2, 1) := by decide +kernel
theorem dX5_faultAsRow_18 : decode cX5_faultAsRow 18 = .ok (.ireturn, 1) := by decide +kernel
theorem dX5_faultAsRow_19 : decode cX5_faultAsRow 19 = .ok (.iload_n 3, 1) := by decide +kernel
theorem dX5_faultAsRow_20 : decode cX5_faultAsRow 20 = .ok (.ifCond .ge 7, 3) := by decide +kernel
theorem dX5_faultAsRow_23 : decode cX5_faultAsRow 23 = .ok (.iconst 4, 1) := by decide +kernel
theorem dX5_faultAsRow_24 : decode cX5_faultAsRow 24 = .ok (.goto 9, 3) := by decide +kernel
theorem dX5_faultAsRow_27 : decode cX5_faultAsRow 27 = .ok (.aload_n 0, 1) := by decide +kernel
theorem dX5_faultAsRow_28 : decode cX5_faultAsRow 28 = .ok (.iload_n 2, 1) := by decide +kernel
theorem dX5_faultAsRow_29 : decode cX5_faultAsRow 29 = .ok (.iload_n 3, 1) := by decide +kernel
theorem dX5_faultAsRow_30 : decode cX5_faultAsRow 30 = .ok (.invokevirtual 39, 3) := by decide +kernel
theorem dX5_faultAsRow_33 : decode cX5_faultAsRow 33 = .ok (.ireturn, 1) := by decide +kernel
theorem dX5_faultOfCells_0 : decode cX5_faultOfCells 0 = .ok (.iload_n 1, 1) := by decide +kernel
theorem dX5_faultOfCells_1 : decode cX5_faultOfCells 1 = .ok (.ifCond .lt 25, 3) := by decide +kernel
theorem dX5_faultOfCells_4 : decode cX5_faultOfCells 4 = .ok (.iload_n 1, 1) := by decide +kernel
theorem dX5_faultOfCells_5 : decode cX5_faultOfCells 5 = .ok (.aload_n 0, 1) := by decide +kernel
theorem dX5_faultOfCells_6 : decode cX5_faultOfCells 6 = .ok (.getfield 19, 3) := by decide +kernel
theorem dX5_faultOfCells_9 : decode cX5_faultOfCells 9 = .ok (.if_icmp .gt 17, 3) := by decide +kernel
theorem dX5_faultOfCells_12 : decode cX5_faultOfCells 12 = .ok (.iload_n 2, 1) := by decide +kernel
theorem dX5_faultOfCells_13 : decode cX5_faultOfCells 13 = .ok (.ifCond .lt 13, 3) := by decide +kernel
theorem dX5_faultOfCells_16 : decode cX5_faultOfCells 16 = .ok (.iload_n 2, 1) := by decide +kernel
theorem dX5_faultOfCells_17 : decode cX5_faultOfCells 17 = .ok (.aload_n 0, 1) := by decide +kernel
theorem dX5_faultOfCells_18 : decode cX5_faultOfCells 18 = .ok (.getfield 19, 3) := by decide +kernel
theorem dX5_faultOfCells_21 : decode cX5_faultOfCells 21 = .ok (.iload_n 1, 1) := by decide +kernel
theorem dX5_faultOfCells_22 : decode cX5_faultOfCells 22 = .ok (.isub, 1) := by decide +kernel
theorem dX5_faultOfCells_23 : decode cX5_faultOfCells 23 = .ok (.if_icmp .le 7, 3) := by decide +kernel
theorem dX5_faultOfCells_26 : decode cX5_faultOfCells 26 = .ok (.iconst 3, 1) := by decide +kernel
theorem dX5_faultOfCells_27 : decode cX5_faultOfCells 27 = .ok (.goto 4, 3) := by decide +kernel
theorem dX5_faultOfCells_30 : decode cX5_faultOfCells 30 = .ok (.iconst 0, 1) := by decide +kernel
theorem dX5_faultOfCells_31 : decode cX5_faultOfCells 31 = .ok (.ireturn, 1) := by decide +kernel
theorem dX6_init_0 : decode cX6_init 0 = .ok (.aload_n 0, 1) := by decide +kernel
theorem dX6_init_1 : decode cX6_init 1 = .ok (.invokespecial 3, 3) := by decide +kernel
theorem dX6_init_4 : decode cX6_init 4 = .ok (.aload_n 0, 1) := by decide +kernel
theorem dX6_init_5 : decode cX6_init 5 = .ok (.bipush 36, 2) := by decide +kernel
theorem dX6_init_7 : decode cX6_init 7 = .ok (.newarray .int, 2) := by decide +kernel
theorem dX6_init_9 : decode cX6_init 9 = .ok (.putfield 9, 3) := by decide +kernel
theorem dX6_init_12 : decode cX6_init 12 = .ok (.aload_n 0, 1) := by decide +kernel
theorem dX6_init_13 : decode cX6_init 13 = .ok (.bipush 36, 2) := by decide +kernel
theorem dX6_init_15 : decode cX6_init 15 = .ok (.newarray .int, 2) := by decide +kernel
theorem dX6_init_17 : decode cX6_init 17 = .ok (.putfield 15, 3) := by decide +kernel
theorem dX6_init_20 : decode cX6_init 20 = .ok (.aload_n 0, 1) := by decide +kernel
theorem dX6_init_21 : decode cX6_init 21 = .ok (.bipush 6, 2) := by decide +kernel
theorem dX6_init_23 : decode cX6_init 23 = .ok (.newarray .int, 2) := by decide +kernel
theorem dX6_init_25 : decode cX6_init 25 = .ok (.putfield 18, 3) := by decide +kernel
theorem dX6_init_28 : decode cX6_init 28 = .ok (.aload_n 0, 1) := by decide +kernel
theorem dX6_init_29 : decode cX6_init 29 = .ok (.iconst 0, 1) := by decide +kernel
theorem dX6_init_30 : decode cX6_init 30 = .ok (.putfield 21, 3) := by decide +kernel
theorem dX6_init_33 : decode cX6_init 33 = .ok (.return_, 1) := by decide +kernel
theorem dX6_has_0 : decode cX6_has 0 = .ok (.iload_n 1, 1) := by decide +kernel
theorem dX6_has_1 : decode cX6_has 1 = .ok (.ifCond .lt 15, 3) := by decide +kernel
theorem dX6_has_4 : decode cX6_has 4 = .ok (.iload_n 1, 1) := by decide +kernel
theorem dX6_has_5 : decode cX6_has 5 = .ok (.aload_n 0, 1) := by decide +kernel
theorem dX6_has_6 : decode cX6_has 6 = .ok (.getfield 21, 3) := by decide +kernel
theorem dX6_has_9 : decode cX6_has 9 = .ok (.if_icmp .ge 7, 3) := by decide +kernel
theorem dX6_has_12 : decode cX6_has 12 = .ok (.iconst 1, 1) := by decide +kernel
theorem dX6_has_13 : decode cX6_has 13 = .ok (.goto 4, 3) := by decide +kernel
theorem dX6_has_16 : decode cX6_has 16 = .ok (.iconst 0, 1) := by decide +kernel
theorem dX6_has_17 : decode cX6_has 17 = .ok (.ireturn, 1) := by decide +kernel
set_option maxRecDepth 20000 in
theorem ggX6_hasTwo_X6_has : GoodIn wsX6_hasTwo wsX6_has := goodIn_r _ [5, 6, 7, 8, 9, 10] (by decide +kernel) (by decide +kernel)
set_option maxRecDepth 20000 in
theorem gX6_hasTwo_X6_has : GoodIn wsX6_hasTwo (wsV RX6 25 RX6 yX6_has wsX6_has) := goodIn_app (goodIn_of _ (by decide +kernel)) ggX6_hasTwo_X6_has
theorem dX6_hasTwo_0 : decode cX6_hasTwo 0 = .ok (.aload_n 0, 1) := by decide +kernel
theorem dX6_hasTwo_1 : decode cX6_hasTwo 1 = .ok (.iload_n 1, 1) := by decide +kernel
theorem dX6_hasTwo_2 : decode cX6_hasTwo 2 = .ok (.invokevirtual 25, 3) := by decide +kernel
theorem dX6_hasTwo_5 : decode cX6_hasTwo 5 = .ok (.ifCond .eq 20, 3) := by decide +kernel
theorem dX6_hasTwo_8 : decode cX6_hasTwo 8 = .ok (.aload_n 0, 1) := by decide +kernel
theorem dX6_hasTwo_9 : decode cX6_hasTwo 9 = .ok (.iload_n 2, 1) := by decide +kernel
theorem dX6_hasTwo_10 : decode cX6_hasTwo 10 = .ok (.invokevirtual 25, 3) := by decide +kernel
theorem dX6_hasTwo_13 : decode cX6_hasTwo 13 = .ok (.ifCond .eq 12, 3) := by decide +kernel
theorem dX6_hasTwo_16 : decode cX6_hasTwo 16 = .ok (.iload_n 1, 1) := by decide +kernel
theorem dX6_hasTwo_17 : decode cX6_hasTwo 17 = .ok (.iload_n 2, 1) := by decide +kernel
theorem dX6_hasTwo_18 : decode cX6_hasTwo 18 = .ok (.if_icmp .eq 7, 3) := by decide +kernel
theorem dX6_hasTwo_21 : decode cX6_hasTwo 21 = .ok (.iconst 1, 1) := by decide +kernel
theorem dX6_hasTwo_22 : decode cX6_hasTwo 22 = .ok (.goto 4, 3) := by decide +kernel
theorem dX6_hasTwo_25 : decode cX6_hasTwo 25 = .ok (.iconst 0, 1) := by decide +kernel
theorem dX6_hasTwo_26 : decode cX6_hasTwo 26 = .ok (.ireturn, 1) := by decide +kernel
theorem dX6_renew_0 : decode cX6_renew 0 = .ok (.aload_n 0, 1) := by decide +kernel
theorem dX6_renew_1 : decode cX6_renew 1 = .ok (.iconst 0, 1) := by decide +kernel
theorem dX6_renew_2 : decode cX6_renew 2 = .ok (.iload_n 1, 1) := by decide +kernel
theorem dX6_renew_3 : decode cX6_renew 3 = .ok (.bipush 6, 2) := by decide +kernel
theorem dX6_renew_5 : decode cX6_renew 5 = .ok (.invokestatic 29, 3) := by decide +kernel
theorem dX6_renew_8 : decode cX6_renew 8 = .ok (.invokestatic 35, 3) := by decide +kernel
theorem dX6_renew_11 : decode cX6_renew 11 = .ok (.putfield 21, 3) := by decide +kernel
theorem dX6_renew_14 : decode cX6_renew 14 = .ok (.iconst 0, 1) := by decide +kernel
theorem dX6_renew_15 : decode cX6_renew 15 = .ok (.istore_n 2, 1) := by decide +kernel
theorem dX6_renew_16 : decode cX6_renew 16 = .ok (.iload_n 2, 1) := by decide +kernel
theorem dX6_renew_17 : decode cX6_renew 17 = .ok (.aload_n 0, 1) := by decide +kernel
theorem dX6_renew_18 : decode cX6_renew 18 = .ok (.getfield 9, 3) := by decide +kernel
theorem dX6_renew_21 : decode cX6_renew 21 = .ok (.arraylength, 1) := by decide +kernel
theorem dX6_renew_22 : decode cX6_renew 22 = .ok (.if_icmp .ge 16, 3) := by decide +kernel
theorem dX6_renew_25 : decode cX6_renew 25 = .ok (.aload_n 0, 1) := by decide +kernel
theorem dX6_renew_26 : decode cX6_renew 26 = .ok (.getfield 9, 3) := by decide +kernel
theorem dX6_renew_29 : decode cX6_renew 29 = .ok (.iload_n 2, 1) := by decide +kernel
theorem dX6_renew_30 : decode cX6_renew 30 = .ok (.iconst 0, 1) := by decide +kernel
theorem dX6_renew_31 : decode cX6_renew 31 = .ok (.iastore, 1) := by decide +kernel
theorem dX6_renew_32 : decode cX6_renew 32 = .ok (.iinc 2 1, 3) := by decide +kernel
theorem dX6_renew_35 : decode cX6_renew 35 = .ok (.goto (-19), 3) := by decide +kernel
theorem dX6_renew_38 : decode cX6_renew 38 = .ok (.return_, 1) := by decide +kernel
set_option maxRecDepth 20000 in
theorem ggX6_length_X6_has : GoodIn wsX6_length wsX6_has := goodIn_r _ [6, 7, 8, 9, 10, 11] (by decide +kernel) (by decide +kernel)
set_option maxRecDepth 20000 in
theorem gX6_length_X6_has : GoodIn wsX6_length (wsV RX6 25 RX6 yX6_has wsX6_has) := goodIn_app (goodIn_of _ (by decide +kernel)) ggX6_length_X6_has
theorem dX6_length_0 : decode cX6_length 0 = .ok (.aload_n 0, 1) := by decide +kernel
theorem dX6_length_1 : decode cX6_length 1 = .ok (.iload_n 1, 1) := by decide +kernel
theorem dX6_length_2 : decode cX6_length 2 = .ok (.invokevirtual 25, 3) := by decide +kernel
theorem dX6_length_5 : decode cX6_length 5 = .ok (.ifCond .eq 25, 3) := by decide +kernel
theorem dX6_length_8 : decode cX6_length 8 = .ok (.aload_n 0, 1) := by decide +kernel
theorem dX6_length_9 : decode cX6_length 9 = .ok (.iload_n 2, 1) := by decide +kernel
theorem dX6_length_10 : decode cX6_length 10 = .ok (.invokevirtual 25, 3) := by decide +kernel
theorem dX6_length_13 : decode cX6_length 13 = .ok (.ifCond .eq 17, 3) := by decide +kernel
theorem dX6_length_16 : decode cX6_length 16 = .ok (.aload_n 0, 1) := by decide +kernel
theorem dX6_length_17 : decode cX6_length 17 = .ok (.getfield 9, 3) := by decide +kernel
theorem dX6_length_20 : decode cX6_length 20 = .ok (.iload_n 1, 1) := by decide +kernel
theorem dX6_length_21 : decode cX6_length 21 = .ok (.bipush 6, 2) := by decide +kernel
theorem dX6_length_23 : decode cX6_length 23 = .ok (.imul, 1) := by decide +kernel
theorem dX6_length_24 : decode cX6_length 24 = .ok (.iload_n 2, 1) := by decide +kernel
theorem dX6_length_25 : decode cX6_length 25 = .ok (.iadd, 1) := by decide +kernel
theorem dX6_length_26 : decode cX6_length 26 = .ok (.iaload, 1) := by decide +kernel
theorem dX6_length_27 : decode cX6_length 27 = .ok (.goto 4, 3) := by decide +kernel
theorem dX6_length_30 : decode cX6_length 30 = .ok (.iconst 0, 1) := by decide +kernel
theorem dX6_length_31 : decode cX6_length 31 = .ok (.ireturn, 1) := by decide +kernel
set_option maxRecDepth 20000 in
theorem ggX6_lay_X6_hasTwo : GoodIn wsX6_lay wsX6_hasTwo := goodIn_r _ [6, 7, 8, 9, 5, 10, 11, 12, 13, 14, 15] (by decide +kernel) (by decide +kernel)
set_option maxRecDepth 20000 in
theorem gX6_lay_X6_hasTwo : GoodIn wsX6_lay (wsV RX6 38 RX6 yX6_hasTwo wsX6_hasTwo) := goodIn_app (goodIn_of _ (by decide +kernel)) ggX6_lay_X6_hasTwo
theorem dX6_lay_0 : decode cX6_lay 0 = .ok (.aload_n 0, 1) := by decide +kernel
theorem dX6_lay_1 : decode cX6_lay 1 = .ok (.iload_n 1, 1) := by decide +kernel
theorem dX6_lay_2 : decode cX6_lay 2 = .ok (.iload_n 2, 1) := by decide +kernel
theorem dX6_lay_3 : decode cX6_lay 3 = .ok (.invokevirtual 38, 3) := by decide +kernel
theorem dX6_lay_6 : decode cX6_lay 6 = .ok (.ifCond .eq 27, 3) := by decide +kernel
theorem dX6_lay_9 : decode cX6_lay 9 = .ok (.aload_n 0, 1) := by decide +kernel
theorem dX6_lay_10 : decode cX6_lay 10 = .ok (.getfield 9, 3) := by decide +kernel
theorem dX6_lay_13 : decode cX6_lay 13 = .ok (.iload_n 1, 1) := by decide +kernel
theorem dX6_lay_14 : decode cX6_lay 14 = .ok (.bipush 6, 2) := by decide +kernel
theorem dX6_lay_16 : decode cX6_lay 16 = .ok (.imul, 1) := by decide +kernel
theorem dX6_lay_17 : decode cX6_lay 17 = .ok (.iload_n 2, 1) := by decide +kernel
theorem dX6_lay_18 : decode cX6_lay 18 = .ok (.iadd, 1) := by decide +kernel
theorem dX6_lay_19 : decode cX6_lay 19 = .ok (.iload_n 3, 1) := by decide +kernel
theorem dX6_lay_20 : decode cX6_lay 20 = .ok (.iastore, 1) := by decide +kernel
theorem dX6_lay_21 : decode cX6_lay 21 = .ok (.aload_n 0, 1) := by decide +kernel
theorem dX6_lay_22 : decode cX6_lay 22 = .ok (.getfield 9, 3) := by decide +kernel
theorem dX6_lay_25 : decode cX6_lay 25 = .ok (.iload_n 2, 1) := by decide +kernel
theorem dX6_lay_26 : decode cX6_lay 26 = .ok (.bipush 6, 2) := by decide +kernel
theorem dX6_lay_28 : decode cX6_lay 28 = .ok (.imul, 1) := by decide +kernel
theorem dX6_lay_29 : decode cX6_lay 29 = .ok (.iload_n 1, 1) := by decide +kernel
theorem dX6_lay_30 : decode cX6_lay 30 = .ok (.iadd, 1) := by decide +kernel
theorem dX6_lay_31 : decode cX6_lay 31 = .ok (.iload_n 3, 1) := by decide +kernel
theorem dX6_lay_32 : decode cX6_lay 32 = .ok (.iastore, 1) := by decide +kernel
theorem dX6_lay_33 : decode cX6_lay 33 = .ok (.return_, 1) := by decide +kernel
set_option maxRecDepth 20000 in
theorem ggX6_measure_X6_length : GoodIn wsX6_measure wsX6_length := goodIn_r _ [8, 9, 10, 11, 12, 7, 13, 1, 18, 19, 20, 21] (by decide +kernel) (by decide +kernel)
set_option maxRecDepth 20000 in
theorem gX6_measure_X6_length : GoodIn wsX6_measure (wsV RX6 42 RX6 yX6_length wsX6_length) := goodIn_app (goodIn_of _ (by decide +kernel)) ggX6_measure_X6_length
set_option maxRecDepth 20000 in
theorem ggX6_measure_X6_shortenBy : GoodIn wsX6_measure wsX6_shortenBy := goodIn_r _ [17, 1, 2, 18, 19, 20, 21] (by decide +kernel) (by decide +kernel)
set_option maxRecDepth 20000 in
theorem gX6_measure_X6_shortenBy : GoodIn wsX6_measure (wsV RX6 46 RX6 yX6_shortenBy wsX6_shortenBy) := goodIn_app (goodIn_of _ (by decide +kernel)) ggX6_measure_X6_shortenBy
theorem dX6_measure_0 : decode cX6_measure 0 = .ok (.iconst 0, 1) := by decide +kernel
theorem dX6_measure_1 : decode cX6_measure 1 = .ok (.istore_n 1, 1) := by decide +kernel
theorem dX6_measure_2 : decode cX6_measure 2 = .ok (.iload_n 1, 1) := by decide +kernel
theorem dX6_measure_3 : decode cX6_measure 3 = .ok (.aload_n 0, 1) := by decide +kernel
theorem dX6_measure_4 : decode cX6_measure 4 = .ok (.getfield 21, 3) := by decide +kernel
theorem dX6_measure_7 : decode cX6_measure 7 = .ok (.if_icmp .ge 62, 3) := by decide +kernel
theorem dX6_measure_10 : decode cX6_measure 10 = .ok (.iconst 0, 1) := by decide +kernel
theorem dX6_measure_11 : decode cX6_measure 11 = .ok (.istore_n 2, 1) := by decide +kernel
theorem dX6_measure_12 : decode cX6_measure 12 = .ok (.iload_n 2, 1) := by decide +kernel
theorem dX6_measure_13 : decode cX6_measure 13 = .ok (.aload_n 0, 1) := by decide +kernel
theorem dX6_measure_14 : decode cX6_measure 14 = .ok (.getfield 21, 3) := by decide +kernel
theorem dX6_measure_17 : decode cX6_measure 17 = .ok (.if_icmp .ge 46, 3) := by decide +kernel
theorem dX6_measure_20 : decode cX6_measure 20 = .ok (.aload_n 0, 1) := by decide +kernel
theorem dX6_measure_21 : decode cX6_measure 21 = .ok (.iload_n 1, 1) := by decide +kernel
theorem dX6_measure_22 : decode cX6_measure 22 = .ok (.iload_n 2, 1) := by decide +kernel
theorem dX6_measure_23 : decode cX6_measure 23 = .ok (.invokevirtual 42, 3) := by decide +kernel
theorem dX6_measure_26 : decode cX6_measure 26 = .ok (.istore_n 3, 1) := by decide +kernel
theorem dX6_measure_27 : decode cX6_measure 27 = .ok (.aload_n 0, 1) := by decide +kernel
theorem dX6_measure_28 : decode cX6_measure 28 = .ok (.getfield 15, 3) := by decide +kernel
theorem dX6_measure_31 : decode cX6_measure 31 = .ok (.iload_n 1, 1) := by decide +kernel
theorem dX6_measure_32 : decode cX6_measure 32 = .ok (.bipush 6, 2) := by decide +kernel
theorem dX6_measure_34 : decode cX6_measure 34 = .ok (.imul, 1) := by decide +kernel
theorem dX6_measure_35 : decode cX6_measure 35 = .ok (.iload_n 2, 1) := by decide +kernel
theorem dX6_measure_36 : decode cX6_measure 36 = .ok (.iadd, 1) := by decide +kernel
theorem dX6_measure_37 : decode cX6_measure 37 = .ok (.iload_n 1, 1) := by decide +kernel
theorem dX6_measure_38 : decode cX6_measure 38 = .ok (.iload_n 2, 1) := by decide +kernel
theorem dX6_measure_39 : decode cX6_measure 39 = .ok (.if_icmp .ne 7, 3) := by decide +kernel
theorem dX6_measure_42 : decode cX6_measure 42 = .ok (.iconst 0, 1) := by decide +kernel
theorem dX6_measure_43 : decode cX6_measure 43 = .ok (.goto 13, 3) := by decide +kernel
theorem dX6_measure_46 : decode cX6_measure 46 = .ok (.iload_n 3, 1) := by decide +kernel
theorem dX6_measure_47 : decode cX6_measure 47 = .ok (.ifCond .ne 8, 3) := by decide +kernel
theorem dX6_measure_50 : decode cX6_measure 50 = .ok (.ldc 45, 2) := by decide +kernel
theorem dX6_measure_52 : decode cX6_measure 52 = .ok (.goto 4, 3) := by decide +kernel
theorem dX6_measure_55 : decode cX6_measure 55 = .ok (.iload_n 3, 1) := by decide +kernel
theorem dX6_measure_56 : decode cX6_measure 56 = .ok (.iastore, 1) := by decide +kernel
theorem dX6_measure_57 : decode cX6_measure 57 = .ok (.iinc 2 1, 3) := by decide +kernel
theorem dX6_measure_60 : decode cX6_measure 60 = .ok (.goto (-48), 3) := by decide +kernel
theorem dX6_measure_63 : decode cX6_measure 63 = .ok (.iinc 1 1, 3) := by decide +kernel
theorem dX6_measure_66 : decode cX6_measure 66 = .ok (.goto (-64), 3) := by decide +kernel
theorem dX6_measure_69 : decode cX6_measure 69 = .ok (.iconst 0, 1) := by decide +kernel
theorem dX6_measure_70 : decode cX6_measure 70 = .ok (.istore_n 1, 1) := by decide +kernel
theorem dX6_measure_71 : decode cX6_measure 71 = .ok (.iload_n 1, 1) := by decide +kernel
theorem dX6_measure_72 : decode cX6_measure 72 = .ok (.aload_n 0, 1) := by decide +kernel
theorem dX6_measure_73 : decode cX6_measure 73 = .ok (.getfield 21, 3) := by decide +kernel
theorem dX6_measure_76 : decode cX6_measure 76 = .ok (.if_icmp .ge 14, 3) := by decide +kernel
theorem dX6_measure_79 : decode cX6_measure 79 = .ok (.aload_n 0, 1) := by decide +kernel
theorem dX6_measure_80 : decode cX6_measure 80 = .ok (.iload_n 1, 1) := by decide +kernel
theorem dX6_measure_81 : decode cX6_measure 81 = .ok (.invokevirtual 46, 3) := by decide +kernel
theorem dX6_measure_84 : decode cX6_measure 84 = .ok (.iinc 1 1, 3) := by decide +kernel
theorem dX6_measure_87 : decode cX6_measure 87 = .ok (.goto (-16), 3) := by decide +kernel
theorem dX6_measure_90 : decode cX6_measure 90 = .ok (.return_, 1) := by decide +kernel
theorem dX6_shortenBy_0 : decode cX6_shortenBy 0 = .ok (.iconst 0, 1) := by decide +kernel
theorem dX6_shortenBy_1 : decode cX6_shortenBy 1 = .ok (.istore_n 2, 1) := by decide +kernel
theorem dX6_shortenBy_2 : decode cX6_shortenBy 2 = .ok (.iload_n 2, 1) := by decide +kernel
theorem dX6_shortenBy_3 : decode cX6_shortenBy 3 = .ok (.aload_n 0, 1) := by decide +kernel
theorem dX6_shortenBy_4 : decode cX6_shortenBy 4 = .ok (.getfield 21, 3) := by decide +kernel
theorem dX6_shortenBy_7 : decode cX6_shortenBy 7 = .ok (.if_icmp .ge 79, 3) := by decide +kernel
theorem dX6_shortenBy_10 : decode cX6_shortenBy 10 = .ok (.iconst 0, 1) := by decide +kernel
theorem dX6_shortenBy_11 : decode cX6_shortenBy 11 = .ok (.istore_n 3, 1) := by decide +kernel
theorem dX6_shortenBy_12 : decode cX6_shortenBy 12 = .ok (.iload_n 3, 1) := by decide +kernel
theorem dX6_shortenBy_13 : decode cX6_shortenBy 13 = .ok (.aload_n 0, 1) := by decide +kernel
theorem dX6_shortenBy_14 : decode cX6_shortenBy 14 = .ok (.getfield 21, 3) := by decide +kernel
theorem dX6_shortenBy_17 : decode cX6_shortenBy 17 = .ok (.if_icmp .ge 63, 3) := by decide +kernel
theorem dX6_shortenBy_20 : decode cX6_shortenBy 20 = .ok (.aload_n 0, 1) := by decide +kernel
theorem dX6_shortenBy_21 : decode cX6_shortenBy 21 = .ok (.getfield 15, 3) := by decide +kernel
theorem dX6_shortenBy_24 : decode cX6_shortenBy 24 = .ok (.iload_n 2, 1) := by decide +kernel
theorem dX6_shortenBy_25 : decode cX6_shortenBy 25 = .ok (.bipush 6, 2) := by decide +kernel
theorem dX6_shortenBy_27 : decode cX6_shortenBy 27 = .ok (.imul, 1) := by decide +kernel
theorem dX6_shortenBy_28 : decode cX6_shortenBy 28 = .ok (.iload_n 1, 1) := by decide +kernel
theorem dX6_shortenBy_29 : decode cX6_shortenBy 29 = .ok (.iadd, 1) := by decide +kernel
theorem dX6_shortenBy_30 : decode cX6_shortenBy 30 = .ok (.iaload, 1) := by decide +kernel
theorem dX6_shortenBy_31 : decode cX6_shortenBy 31 = .ok (.aload_n 0, 1) := by decide +kernel
theorem dX6_shortenBy_32 : decode cX6_shortenBy 32 = .ok (.getfield 15, 3) := by decide +kernel
theorem dX6_shortenBy_35 : decode cX6_shortenBy 35 = .ok (.iload_n 1, 1) := by decide +kernel
theorem dX6_shortenBy_36 : decode cX6_shortenBy 36 = .ok (.bipush 6, 2) := by decide +kernel
theorem dX6_shortenBy_38 : decode cX6_shortenBy 38 = .ok (.imul, 1) := by decide +kernel
theorem dX6_shortenBy_39 : decode cX6_shortenBy 39 = .ok (.iload_n 3, 1) := by decide +kernel
theorem dX6_shortenBy_40 : decode cX6_shortenBy 40 = .ok (.iadd, 1) := by decide +kernel
theorem dX6_shortenBy_41 : decode cX6_shortenBy 41 = .ok (.iaload, 1) := by decide +kernel
theorem dX6_shortenBy_42 : decode cX6_shortenBy 42 = .ok (.iadd, 1) := by decide +kernel
theorem dX6_shortenBy_43 : decode cX6_shortenBy 43 = .ok (.istore 4, 2) := by decide +kernel
theorem dX6_shortenBy_45 : decode cX6_shortenBy 45 = .ok (.iload 4, 2) := by decide +kernel
theorem dX6_shortenBy_47 : decode cX6_shortenBy 47 = .ok (.aload_n 0, 1) := by decide +kernel
theorem dX6_shortenBy_48 : decode cX6_shortenBy 48 = .ok (.getfield 15, 3) := by decide +kernel
theorem dX6_shortenBy_51 : decode cX6_shortenBy 51 = .ok (.iload_n 2, 1) := by decide +kernel
theorem dX6_shortenBy_52 : decode cX6_shortenBy 52 = .ok (.bipush 6, 2) := by decide +kernel
theorem dX6_shortenBy_54 : decode cX6_shortenBy 54 = .ok (.imul, 1) := by decide +kernel
theorem dX6_shortenBy_55 : decode cX6_shortenBy 55 = .ok (.iload_n 3, 1) := by decide +kernel
theorem dX6_shortenBy_56 : decode cX6_shortenBy 56 = .ok (.iadd, 1) := by decide +kernel
theorem dX6_shortenBy_57 : decode cX6_shortenBy 57 = .ok (.iaload, 1) := by decide +kernel
theorem dX6_shortenBy_58 : decode cX6_shortenBy 58 = .ok (.if_icmp .ge 16, 3) := by decide +kernel
theorem dX6_shortenBy_61 : decode cX6_shortenBy 61 = .ok (.aload_n 0, 1) := by decide +kernel
theorem dX6_shortenBy_62 : decode cX6_shortenBy 62 = .ok (.getfield 15, 3) := by decide +kernel
theorem dX6_shortenBy_65 : decode cX6_shortenBy 65 = .ok (.iload_n 2, 1) := by decide +kernel
theorem dX6_shortenBy_66 : decode cX6_shortenBy 66 = .ok (.bipush 6, 2) := by decide +kernel
theorem dX6_shortenBy_68 : decode cX6_shortenBy 68 = .ok (.imul, 1) := by decide +kernel
theorem dX6_shortenBy_69 : decode cX6_shortenBy 69 = .ok (.iload_n 3, 1) := by decide +kernel
theorem dX6_shortenBy_70 : decode cX6_shortenBy 70 = .ok (.iadd, 1) := by decide +kernel
theorem dX6_shortenBy_71 : decode cX6_shortenBy 71 = .ok (.iload 4, 2) := by decide +kernel
theorem dX6_shortenBy_73 : decode cX6_shortenBy 73 = .ok (.iastore, 1) := by decide +kernel
theorem dX6_shortenBy_74 : decode cX6_shortenBy 74 = .ok (.iinc 3 1, 3) := by decide +kernel
theorem dX6_shortenBy_77 : decode cX6_shortenBy 77 = .ok (.goto (-65), 3) := by decide +kernel
theorem dX6_shortenBy_80 : decode cX6_shortenBy 80 = .ok (.iinc 2 1, 3) := by decide +kernel
theorem dX6_shortenBy_83 : decode cX6_shortenBy 83 = .ok (.goto (-81), 3) := by decide +kernel
theorem dX6_shortenBy_86 : decode cX6_shortenBy 86 = .ok (.return_, 1) := by decide +kernel
set_option maxRecDepth 20000 in
theorem ggX6_distance_X6_has : GoodIn wsX6_distance wsX6_has := goodIn_r _ [7, 8, 9, 10, 11, 12] (by decide +kernel) (by decide +kernel)
set_option maxRecDepth 20000 in
theorem gX6_distance_X6_has : GoodIn wsX6_distance (wsV RX6 25 RX6 yX6_has wsX6_has) := goodIn_app (goodIn_of _ (by decide +kernel)) ggX6_distance_X6_has
theorem dX6_distance_0 : decode cX6_distance 0 = .ok (.aload_n 0, 1) := by decide +kernel
theorem dX6_distance_1 : decode cX6_distance 1 = .ok (.iload_n 1, 1) := by decide +kernel
theorem dX6_distance_2 : decode cX6_distance 2 = .ok (.invokevirtual 25, 3) := by decide +kernel
theorem dX6_distance_5 : decode cX6_distance 5 = .ok (.ifCond .eq 11, 3) := by decide +kernel
theorem dX6_distance_8 : decode cX6_distance 8 = .ok (.aload_n 0, 1) := by decide +kernel
theorem dX6_distance_9 : decode cX6_distance 9 = .ok (.iload_n 2, 1) := by decide +kernel
theorem dX6_distance_10 : decode cX6_distance 10 = .ok (.invokevirtual 25, 3) := by decide +kernel
theorem dX6_distance_13 : decode cX6_distance 13 = .ok (.ifCond .ne 6, 3) := by decide +kernel
theorem dX6_distance_16 : decode cX6_distance 16 = .ok (.bipush (-9), 2) := by decide +kernel
theorem dX6_distance_18 : decode cX6_distance 18 = .ok (.ireturn, 1) := by decide +kernel
theorem dX6_distance_19 : decode cX6_distance 19 = .ok (.aload_n 0, 1) := by decide +kernel
theorem dX6_distance_20 : decode cX6_distance 20 = .ok (.getfield 15, 3) := by decide +kernel
theorem dX6_distance_23 : decode cX6_distance 23 = .ok (.iload_n 1, 1) := by decide +kernel
theorem dX6_distance_24 : decode cX6_distance 24 = .ok (.bipush 6, 2) := by decide +kernel
theorem dX6_distance_26 : decode cX6_distance 26 = .ok (.imul, 1) := by decide +kernel
theorem dX6_distance_27 : decode cX6_distance 27 = .ok (.iload_n 2, 1) := by decide +kernel
theorem dX6_distance_28 : decode cX6_distance 28 = .ok (.iadd, 1) := by decide +kernel
theorem dX6_distance_29 : decode cX6_distance 29 = .ok (.iaload, 1) := by decide +kernel
theorem dX6_distance_30 : decode cX6_distance 30 = .ok (.istore_n 3, 1) := by decide +kernel
theorem dX6_distance_31 : decode cX6_distance 31 = .ok (.iload_n 3, 1) := by decide +kernel
theorem dX6_distance_32 : decode cX6_distance 32 = .ok (.ldc 45, 2) := by decide +kernel
theorem dX6_distance_34 : decode cX6_distance 34 = .ok (.if_icmp .ge 7, 3) := by decide +kernel
theorem dX6_distance_37 : decode cX6_distance 37 = .ok (.iload_n 3, 1) := by decide +kernel
theorem dX6_distance_38 : decode cX6_distance 38 = .ok (.goto 5, 3) := by decide +kernel
theorem dX6_distance_41 : decode cX6_distance 41 = .ok (.bipush (-9), 2) := by decide +kernel
theorem dX6_distance_43 : decode cX6_distance 43 = .ok (.ireturn, 1) := by decide +kernel
set_option maxRecDepth 20000 in
theorem ggX6_cornersOnWay_X6_nextOnWay : GoodIn wsX6_cornersOnWay wsX6_nextOnWay := goodIn_r _ [5, 6, 7, 8, 9, 4, 10, 11, 12, 13, 14, 15, 16, 17, 18, 19, 20, 21, 22, 23, 24, 25] (by decide +kernel) (by decide +kernel)
set_option maxRecDepth 20000 in
theorem gX6_cornersOnWay_X6_nextOnWay : GoodIn wsX6_cornersOnWay (wsV RX6 50 RX6 yX6_nextOnWay wsX6_nextOnWay) := goodIn_app (goodIn_of _ (by decide +kernel)) ggX6_cornersOnWay_X6_nextOnWay
theorem dX6_cornersOnWay_0 : decode cX6_cornersOnWay 0 = .ok (.iconst 1, 1) := by decide +kernel
theorem dX6_cornersOnWay_1 : decode cX6_cornersOnWay 1 = .ok (.istore_n 3, 1) := by decide +kernel
theorem dX6_cornersOnWay_2 : decode cX6_cornersOnWay 2 = .ok (.iload_n 1, 1) := by decide +kernel
theorem dX6_cornersOnWay_3 : decode cX6_cornersOnWay 3 = .ok (.istore 4, 2) := by decide +kernel
theorem dX6_cornersOnWay_5 : decode cX6_cornersOnWay 5 = .ok (.iload 4, 2) := by decide +kernel
theorem dX6_cornersOnWay_7 : decode cX6_cornersOnWay 7 = .ok (.iload_n 2, 1) := by decide +kernel
theorem dX6_cornersOnWay_8 : decode cX6_cornersOnWay 8 = .ok (.if_icmp .eq 34, 3) := by decide +kernel
theorem dX6_cornersOnWay_11 : decode cX6_cornersOnWay 11 = .ok (.iload_n 3, 1) := by decide +kernel
theorem dX6_cornersOnWay_12 : decode cX6_cornersOnWay 12 = .ok (.bipush 6, 2) := by decide +kernel
theorem dX6_cornersOnWay_14 : decode cX6_cornersOnWay 14 = .ok (.if_icmp .gt 28, 3) := by decide +kernel
theorem dX6_cornersOnWay_17 : decode cX6_cornersOnWay 17 = .ok (.aload_n 0, 1) := by decide +kernel
theorem dX6_cornersOnWay_18 : decode cX6_cornersOnWay 18 = .ok (.iload 4, 2) := by decide +kernel
theorem dX6_cornersOnWay_20 : decode cX6_cornersOnWay 20 = .ok (.iload_n 2, 1) := by decide +kernel
theorem dX6_cornersOnWay_21 : decode cX6_cornersOnWay 21 = .ok (.invokevirtual 50, 3) := by decide +kernel
theorem dX6_cornersOnWay_24 : decode cX6_cornersOnWay 24 = .ok (.istore 4, 2) := by decide +kernel
theorem dX6_cornersOnWay_26 : decode cX6_cornersOnWay 26 = .ok (.iload 4, 2) := by decide +kernel
theorem dX6_cornersOnWay_28 : decode cX6_cornersOnWay 28 = .ok (.bipush (-9), 2) := by decide +kernel
theorem dX6_cornersOnWay_30 : decode cX6_cornersOnWay 30 = .ok (.if_icmp .ne 6, 3) := by decide +kernel
theorem dX6_cornersOnWay_33 : decode cX6_cornersOnWay 33 = .ok (.bipush (-9), 2) := by decide +kernel
theorem dX6_cornersOnWay_35 : decode cX6_cornersOnWay 35 = .ok (.ireturn, 1) := by decide +kernel
theorem dX6_cornersOnWay_36 : decode cX6_cornersOnWay 36 = .ok (.iinc 3 1, 3) := by decide +kernel
theorem dX6_cornersOnWay_39 : decode cX6_cornersOnWay 39 = .ok (.goto (-34), 3) := by decide +kernel
theorem dX6_cornersOnWay_42 : decode cX6_cornersOnWay 42 = .ok (.iload_n 3, 1) := by decide +kernel
theorem dX6_cornersOnWay_43 : decode cX6_cornersOnWay 43 = .ok (.ireturn, 1) := by decide +kernel
set_option maxRecDepth 20000 in
theorem ggX6_cornerOnWay_X6_distance : GoodIn wsX6_cornerOnWay wsX6_distance := goodIn_r _ [5, 6, 7, 8, 9, 10, 4, 11, 12, 22, 23, 24, 25] (by decide +kernel) (by decide +kernel)
set_option maxRecDepth 20000 in
theorem gX6_cornerOnWay_X6_distance : GoodIn wsX6_cornerOnWay (wsV RX6 53 RX6 yX6_distance wsX6_distance) := goodIn_app (goodIn_of _ (by decide +kernel)) ggX6_cornerOnWay_X6_distance
set_option maxRecDepth 20000 in
theorem ggX6_cornerOnWay_X6_nextOnWay : GoodIn wsX6_cornerOnWay wsX6_nextOnWay := goodIn_r _ [16, 12, 1, 2, 3, 4, 5, 6, 7, 8, 9, 10, 11, 17, 18, 19, 20, 21, 22, 23, 24, 25] (by decide +kernel) (by decide +kernel)
set_option maxRecDepth 20000 in
theorem gX6_cornerOnWay_X6_nextOnWay : GoodIn wsX6_cornerOnWay (wsV RX6 50 RX6 yX6_nextOnWay wsX6_nextOnWay) := goodIn_app (goodIn_of _ (by decide +kernel)) ggX6_cornerOnWay_X6_nextOnWay
theorem dX6_cornerOnWay_0 : decode cX6_cornerOnWay 0 = .ok (.aload_n 0, 1) := by decide +kernel
theorem dX6_cornerOnWay_1 : decode cX6_cornerOnWay 1 = .ok (.iload_n 1, 1) := by decide +kernel
theorem dX6_cornerOnWay_2 : decode cX6_cornerOnWay 2 = .ok (.iload_n 2, 1) := by decide +kernel
theorem dX6_cornerOnWay_3 : decode cX6_cornerOnWay 3 = .ok (.invokevirtual 53, 3) := by decide +kernel
theorem dX6_cornerOnWay_6 : decode cX6_cornerOnWay 6 = .ok (.bipush (-9), 2) := by decide +kernel
theorem dX6_cornerOnWay_8 : decode cX6_cornerOnWay 8 = .ok (.if_icmp .ne 6, 3) := by decide +kernel
theorem dX6_cornerOnWay_11 : decode cX6_cornerOnWay 11 = .ok (.bipush (-9), 2) := by decide +kernel
theorem dX6_cornerOnWay_13 : decode cX6_cornerOnWay 13 = .ok (.ireturn, 1) := by decide +kernel
theorem dX6_cornerOnWay_14 : decode cX6_cornerOnWay 14 = .ok (.iload_n 1, 1) := by decide +kernel
theorem dX6_cornerOnWay_15 : decode cX6_cornerOnWay 15 = .ok (.istore 4, 2) := by decide +kernel
theorem dX6_cornerOnWay_17 : decode cX6_cornerOnWay 17 = .ok (.iconst 0, 1) := by decide +kernel
theorem dX6_cornerOnWay_18 : decode cX6_cornerOnWay 18 = .ok (.istore 5, 2) := by decide +kernel
theorem dX6_cornerOnWay_20 : decode cX6_cornerOnWay 20 = .ok (.iload 5, 2) := by decide +kernel
theorem dX6_cornerOnWay_22 : decode cX6_cornerOnWay 22 = .ok (.iload_n 3, 1) := by decide +kernel
theorem dX6_cornerOnWay_23 : decode cX6_cornerOnWay 23 = .ok (.if_icmp .ge 25, 3) := by decide +kernel
theorem dX6_cornerOnWay_26 : decode cX6_cornerOnWay 26 = .ok (.iload 4, 2) := by decide +kernel
theorem dX6_cornerOnWay_28 : decode cX6_cornerOnWay 28 = .ok (.bipush (-9), 2) := by decide +kernel
theorem dX6_cornerOnWay_30 : decode cX6_cornerOnWay 30 = .ok (.if_icmp .eq 18, 3) := by decide +kernel
theorem dX6_cornerOnWay_33 : decode cX6_cornerOnWay 33 = .ok (.aload_n 0, 1) := by decide +kernel
theorem dX6_cornerOnWay_34 : decode cX6_cornerOnWay 34 = .ok (.iload 4, 2) := by decide +kernel
theorem dX6_cornerOnWay_36 : decode cX6_cornerOnWay 36 = .ok (.iload_n 2, 1) := by decide +kernel
theorem dX6_cornerOnWay_37 : decode cX6_cornerOnWay 37 = .ok (.invokevirtual 50, 3) := by decide +kernel
theorem dX6_cornerOnWay_40 : decode cX6_cornerOnWay 40 = .ok (.istore 4, 2) := by decide +kernel
theorem dX6_cornerOnWay_42 : decode cX6_cornerOnWay 42 = .ok (.iinc 5 1, 3) := by decide +kernel
theorem dX6_cornerOnWay_45 : decode cX6_cornerOnWay 45 = .ok (.goto (-25), 3) := by decide +kernel
theorem dX6_cornerOnWay_48 : decode cX6_cornerOnWay 48 = .ok (.iload 4, 2) := by decide +kernel
theorem dX6_cornerOnWay_50 : decode cX6_cornerOnWay 50 = .ok (.ireturn, 1) := by decide +kernel
set_option maxRecDepth 20000 in
theorem ggX6_nextOnWay_X6_distance : GoodIn wsX6_nextOnWay wsX6_distance := goodIn_r _ [6, 7, 8, 9, 10, 11, 5, 12, 1, 18, 19, 20, 21] (by decide +kernel) (by decide +kernel)
set_option maxRecDepth 20000 in
theorem gX6_nextOnWay_X6_distance : GoodIn wsX6_nextOnWay (wsV RX6 53 RX6 yX6_distance wsX6_distance) := goodIn_app (goodIn_of _ (by decide +kernel)) ggX6_nextOnWay_X6_distance
set_option maxRecDepth 20000 in
theorem ggX6_nextOnWay_X6_length : GoodIn wsX6_nextOnWay wsX6_length := goodIn_r _ [16, 17, 9, 10, 11, 5, 12, 1, 18, 19, 20, 21] (by decide +kernel) (by decide +kernel)
set_option maxRecDepth 20000 in
theorem gX6_nextOnWay_X6_length : GoodIn wsX6_nextOnWay (wsV RX6 42 RX6 yX6_length wsX6_length) := goodIn_app (goodIn_of _ (by decide +kernel)) ggX6_nextOnWay_X6_length
theorem dX6_nextOnWay_0 : decode cX6_nextOnWay 0 = .ok (.aload_n 0, 1) := by decide +kernel
theorem dX6_nextOnWay_1 : decode cX6_nextOnWay 1 = .ok (.iload_n 1, 1) := by decide +kernel
theorem dX6_nextOnWay_2 : decode cX6_nextOnWay 2 = .ok (.iload_n 2, 1) := by decide +kernel
theorem dX6_nextOnWay_3 : decode cX6_nextOnWay 3 = .ok (.invokevirtual 53, 3) := by decide +kernel
theorem dX6_nextOnWay_6 : decode cX6_nextOnWay 6 = .ok (.istore_n 3, 1) := by decide +kernel
theorem dX6_nextOnWay_7 : decode cX6_nextOnWay 7 = .ok (.iconst 0, 1) := by decide +kernel
theorem dX6_nextOnWay_8 : decode cX6_nextOnWay 8 = .ok (.istore 4, 2) := by decide +kernel
theorem dX6_nextOnWay_10 : decode cX6_nextOnWay 10 = .ok (.iload 4, 2) := by decide +kernel
theorem dX6_nextOnWay_12 : decode cX6_nextOnWay 12 = .ok (.aload_n 0, 1) := by decide +kernel
theorem dX6_nextOnWay_13 : decode cX6_nextOnWay 13 = .ok (.getfield 21, 3) := by decide +kernel
theorem dX6_nextOnWay_16 : decode cX6_nextOnWay 16 = .ok (.if_icmp .ge 57, 3) := by decide +kernel
theorem dX6_nextOnWay_19 : decode cX6_nextOnWay 19 = .ok (.aload_n 0, 1) := by decide +kernel
theorem dX6_nextOnWay_20 : decode cX6_nextOnWay 20 = .ok (.iload_n 1, 1) := by decide +kernel
theorem dX6_nextOnWay_21 : decode cX6_nextOnWay 21 = .ok (.iload 4, 2) := by decide +kernel
theorem dX6_nextOnWay_23 : decode cX6_nextOnWay 23 = .ok (.invokevirtual 42, 3) := by decide +kernel
theorem dX6_nextOnWay_26 : decode cX6_nextOnWay 26 = .ok (.istore 5, 2) := by decide +kernel
theorem dX6_nextOnWay_28 : decode cX6_nextOnWay 28 = .ok (.aload_n 0, 1) := by decide +kernel
theorem dX6_nextOnWay_29 : decode cX6_nextOnWay 29 = .ok (.iload 4, 2) := by decide +kernel
theorem dX6_nextOnWay_31 : decode cX6_nextOnWay 31 = .ok (.iload_n 2, 1) := by decide +kernel
theorem dX6_nextOnWay_32 : decode cX6_nextOnWay 32 = .ok (.invokevirtual 53, 3) := by decide +kernel
theorem dX6_nextOnWay_35 : decode cX6_nextOnWay 35 = .ok (.istore 6, 2) := by decide +kernel
theorem dX6_nextOnWay_37 : decode cX6_nextOnWay 37 = .ok (.iload 5, 2) := by decide +kernel
theorem dX6_nextOnWay_39 : decode cX6_nextOnWay 39 = .ok (.ifCond .le 28, 3) := by decide +kernel
theorem dX6_nextOnWay_42 : decode cX6_nextOnWay 42 = .ok (.iload_n 3, 1) := by decide +kernel
theorem dX6_nextOnWay_43 : decode cX6_nextOnWay 43 = .ok (.bipush (-9), 2) := by decide +kernel
theorem dX6_nextOnWay_45 : decode cX6_nextOnWay 45 = .ok (.if_icmp .eq 22, 3) := by decide +kernel
theorem dX6_nextOnWay_48 : decode cX6_nextOnWay 48 = .ok (.iload 6, 2) := by decide +kernel
theorem dX6_nextOnWay_50 : decode cX6_nextOnWay 50 = .ok (.bipush (-9), 2) := by decide +kernel
theorem dX6_nextOnWay_52 : decode cX6_nextOnWay 52 = .ok (.if_icmp .eq 15, 3) := by decide +kernel
theorem dX6_nextOnWay_55 : decode cX6_nextOnWay 55 = .ok (.iload 5, 2) := by decide +kernel
theorem dX6_nextOnWay_57 : decode cX6_nextOnWay 57 = .ok (.iload 6, 2) := by decide +kernel
theorem dX6_nextOnWay_59 : decode cX6_nextOnWay 59 = .ok (.iadd, 1) := by decide +kernel
theorem dX6_nextOnWay_60 : decode cX6_nextOnWay 60 = .ok (.iload_n 3, 1) := by decide +kernel
theorem dX6_nextOnWay_61 : decode cX6_nextOnWay 61 = .ok (.if_icmp .ne 6, 3) := by decide +kernel
theorem dX6_nextOnWay_64 : decode cX6_nextOnWay 64 = .ok (.iload 4, 2) := by decide +kernel
theorem dX6_nextOnWay_66 : decode cX6_nextOnWay 66 = .ok (.ireturn, 1) := by decide +kernel
theorem dX6_nextOnWay_67 : decode cX6_nextOnWay 67 = .ok (.iinc 4 1, 3) := by decide +kernel
theorem dX6_nextOnWay_70 : decode cX6_nextOnWay 70 = .ok (.goto (-60), 3) := by decide +kernel
theorem dX6_nextOnWay_73 : decode cX6_nextOnWay 73 = .ok (.bipush (-9), 2) := by decide +kernel
theorem dX6_nextOnWay_75 : decode cX6_nextOnWay 75 = .ok (.ireturn, 1) := by decide +kernel
set_option maxRecDepth 20000 in
theorem ggX6_middleCorner_X6_farthestFrom : GoodIn wsX6_middleCorner wsX6_farthestFrom := goodIn_r _ [7, 2, 8, 9, 10, 11, 12, 13, 14, 6, 15, 16, 1, 17, 18, 19, 20, 21, 22, 23, 24] (by decide +kernel) (by decide +kernel)
set_option maxRecDepth 20000 in
theorem gX6_middleCorner_X6_farthestFrom : GoodIn wsX6_middleCorner (wsV RX6 56 RX6 yX6_farthestFrom wsX6_farthestFrom) := goodIn_app (goodIn_of _ (by decide +kernel)) ggX6_middleCorner_X6_farthestFrom
theorem dX6_middleCorner_0 : decode cX6_middleCorner 0 = .ok (.bipush (-9), 2) := by decide +kernel
theorem dX6_middleCorner_2 : decode cX6_middleCorner 2 = .ok (.istore_n 1, 1) := by decide +kernel
theorem dX6_middleCorner_3 : decode cX6_middleCorner 3 = .ok (.ldc 45, 2) := by decide +kernel
theorem dX6_middleCorner_5 : decode cX6_middleCorner 5 = .ok (.istore_n 2, 1) := by decide +kernel
theorem dX6_middleCorner_6 : decode cX6_middleCorner 6 = .ok (.iconst 0, 1) := by decide +kernel
theorem dX6_middleCorner_7 : decode cX6_middleCorner 7 = .ok (.istore_n 3, 1) := by decide +kernel
theorem dX6_middleCorner_8 : decode cX6_middleCorner 8 = .ok (.iload_n 3, 1) := by decide +kernel
theorem dX6_middleCorner_9 : decode cX6_middleCorner 9 = .ok (.aload_n 0, 1) := by decide +kernel
theorem dX6_middleCorner_10 : decode cX6_middleCorner 10 = .ok (.getfield 21, 3) := by decide +kernel
theorem dX6_middleCorner_13 : decode cX6_middleCorner 13 = .ok (.if_icmp .ge 34, 3) := by decide +kernel
theorem dX6_middleCorner_16 : decode cX6_middleCorner 16 = .ok (.aload_n 0, 1) := by decide +kernel
theorem dX6_middleCorner_17 : decode cX6_middleCorner 17 = .ok (.iload_n 3, 1) := by decide +kernel
theorem dX6_middleCorner_18 : decode cX6_middleCorner 18 = .ok (.invokevirtual 56, 3) := by decide +kernel
theorem dX6_middleCorner_21 : decode cX6_middleCorner 21 = .ok (.istore 4, 2) := by decide +kernel
theorem dX6_middleCorner_23 : decode cX6_middleCorner 23 = .ok (.iload 4, 2) := by decide +kernel
theorem dX6_middleCorner_25 : decode cX6_middleCorner 25 = .ok (.bipush (-9), 2) := by decide +kernel
theorem dX6_middleCorner_27 : decode cX6_middleCorner 27 = .ok (.if_icmp .eq 14, 3) := by decide +kernel
theorem dX6_middleCorner_30 : decode cX6_middleCorner 30 = .ok (.iload 4, 2) := by decide +kernel
theorem dX6_middleCorner_32 : decode cX6_middleCorner 32 = .ok (.iload_n 2, 1) := by decide +kernel
theorem dX6_middleCorner_33 : decode cX6_middleCorner 33 = .ok (.if_icmp .ge 8, 3) := by decide +kernel
theorem dX6_middleCorner_36 : decode cX6_middleCorner 36 = .ok (.iload_n 3, 1) := by decide +kernel
theorem dX6_middleCorner_37 : decode cX6_middleCorner 37 = .ok (.istore_n 1, 1) := by decide +kernel
theorem dX6_middleCorner_38 : decode cX6_middleCorner 38 = .ok (.iload 4, 2) := by decide +kernel
theorem dX6_middleCorner_40 : decode cX6_middleCorner 40 = .ok (.istore_n 2, 1) := by decide +kernel
theorem dX6_middleCorner_41 : decode cX6_middleCorner 41 = .ok (.iinc 3 1, 3) := by decide +kernel
theorem dX6_middleCorner_44 : decode cX6_middleCorner 44 = .ok (.goto (-36), 3) := by decide +kernel
theorem dX6_middleCorner_47 : decode cX6_middleCorner 47 = .ok (.iload_n 1, 1) := by decide +kernel
theorem dX6_middleCorner_48 : decode cX6_middleCorner 48 = .ok (.ireturn, 1) := by decide +kernel
set_option maxRecDepth 20000 in
theorem ggX6_farthestFrom_X6_distance : GoodIn wsX6_farthestFrom wsX6_distance := goodIn_r _ [10, 11, 12, 13, 14, 15, 9, 16, 1, 17, 18, 19, 20] (by decide +kernel) (by decide +kernel)
set_option maxRecDepth 20000 in
theorem gX6_farthestFrom_X6_distance : GoodIn wsX6_farthestFrom (wsV RX6 53 RX6 yX6_distance wsX6_distance) := goodIn_app (goodIn_of _ (by decide +kernel)) ggX6_farthestFrom_X6_distance
theorem dX6_farthestFrom_0 : decode cX6_farthestFrom 0 = .ok (.iconst 0, 1) := by decide +kernel
theorem dX6_farthestFrom_1 : decode cX6_farthestFrom 1 = .ok (.istore_n 2, 1) := by decide +kernel
theorem dX6_farthestFrom_2 : decode cX6_farthestFrom 2 = .ok (.iconst 0, 1) := by decide +kernel
theorem dX6_farthestFrom_3 : decode cX6_farthestFrom 3 = .ok (.istore_n 3, 1) := by decide +kernel
theorem dX6_farthestFrom_4 : decode cX6_farthestFrom 4 = .ok (.iload_n 3, 1) := by decide +kernel
theorem dX6_farthestFrom_5 : decode cX6_farthestFrom 5 = .ok (.aload_n 0, 1) := by decide +kernel
theorem dX6_farthestFrom_6 : decode cX6_farthestFrom 6 = .ok (.getfield 21, 3) := by decide +kernel
theorem dX6_farthestFrom_9 : decode cX6_farthestFrom 9 = .ok (.if_icmp .ge 34, 3) := by decide +kernel
theorem dX6_farthestFrom_12 : decode cX6_farthestFrom 12 = .ok (.aload_n 0, 1) := by decide +kernel
theorem dX6_farthestFrom_13 : decode cX6_farthestFrom 13 = .ok (.iload_n 1, 1) := by decide +kernel
theorem dX6_farthestFrom_14 : decode cX6_farthestFrom 14 = .ok (.iload_n 3, 1) := by decide +kernel
theorem dX6_farthestFrom_15 : decode cX6_farthestFrom 15 = .ok (.invokevirtual 53, 3) := by decide +kernel
theorem dX6_farthestFrom_18 : decode cX6_farthestFrom 18 = .ok (.istore 4, 2) := by decide +kernel
theorem dX6_farthestFrom_20 : decode cX6_farthestFrom 20 = .ok (.iload 4, 2) := by decide +kernel
theorem dX6_farthestFrom_22 : decode cX6_farthestFrom 22 = .ok (.bipush (-9), 2) := by decide +kernel
theorem dX6_farthestFrom_24 : decode cX6_farthestFrom 24 = .ok (.if_icmp .ne 6, 3) := by decide +kernel
theorem dX6_farthestFrom_27 : decode cX6_farthestFrom 27 = .ok (.bipush (-9), 2) := by decide +kernel
theorem dX6_farthestFrom_29 : decode cX6_farthestFrom 29 = .ok (.ireturn, 1) := by decide +kernel
theorem dX6_farthestFrom_30 : decode cX6_farthestFrom 30 = .ok (.iload_n 2, 1) := by decide +kernel
theorem dX6_farthestFrom_31 : decode cX6_farthestFrom 31 = .ok (.iload 4, 2) := by decide +kernel
theorem dX6_farthestFrom_33 : decode cX6_farthestFrom 33 = .ok (.invokestatic 35, 3) := by decide +kernel
theorem dX6_farthestFrom_36 : decode cX6_farthestFrom 36 = .ok (.istore_n 2, 1) := by decide +kernel
theorem dX6_farthestFrom_37 : decode cX6_farthestFrom 37 = .ok (.iinc 3 1, 3) := by decide +kernel
theorem dX6_farthestFrom_40 : decode cX6_farthestFrom 40 = .ok (.goto (-36), 3) := by decide +kernel
theorem dX6_farthestFrom_43 : decode cX6_farthestFrom 43 = .ok (.iload_n 2, 1) := by decide +kernel
theorem dX6_farthestFrom_44 : decode cX6_farthestFrom 44 = .ok (.ireturn, 1) := by decide +kernel
set_option maxRecDepth 20000 in
theorem ggX6_leastTree_X6_joinBy : GoodIn wsX6_leastTree wsX6_joinBy := goodIn_r _ [7, 1, 2, 8, 9, 10, 6, 11, 12, 13, 14, 15, 16, 17, 18, 19, 20, 28, 29, 30, 31] (by decide +kernel) (by decide +kernel)
set_option maxRecDepth 20000 in
theorem gX6_leastTree_X6_joinBy : GoodIn wsX6_leastTree (wsV RX6 60 RX6 yX6_joinBy wsX6_joinBy) := goodIn_app (goodIn_of _ (by decide +kernel)) ggX6_leastTree_X6_joinBy
set_option maxRecDepth 20000 in
theorem ggX6_leastTree_J6_bitCount_0f7a4 : GoodIn wsX6_leastTree wsJ6_bitCount_0f7a4 := goodIn_r _ [24, 25, 26, 27] (by decide +kernel) (by decide +kernel)
set_option maxRecDepth 20000 in
theorem gX6_leastTree_J6_bitCount_0f7a4 : GoodIn wsX6_leastTree (va_wsS RX6 63 yJ6_bitCount_0f7a4 wsJ6_bitCount_0f7a4) := goodIn_app (goodIn_of _ (by decide +kernel)) ggX6_leastTree_J6_bitCount_0f7a4
theorem dX6_leastTree_0 : decode cX6_leastTree 0 = .ok (.iconst 0, 1) := by decide +kernel
theorem dX6_leastTree_1 : decode cX6_leastTree 1 = .ok (.istore_n 1, 1) := by decide +kernel
theorem dX6_leastTree_2 : decode cX6_leastTree 2 = .ok (.iload_n 1, 1) := by decide +kernel
theorem dX6_leastTree_3 : decode cX6_leastTree 3 = .ok (.aload_n 0, 1) := by decide +kernel
theorem dX6_leastTree_4 : decode cX6_leastTree 4 = .ok (.getfield 21, 3) := by decide +kernel
theorem dX6_leastTree_7 : decode cX6_leastTree 7 = .ok (.if_icmp .ge 16, 3) := by decide +kernel
theorem dX6_leastTree_10 : decode cX6_leastTree 10 = .ok (.aload_n 0, 1) := by decide +kernel
theorem dX6_leastTree_11 : decode cX6_leastTree 11 = .ok (.getfield 18, 3) := by decide +kernel
theorem dX6_leastTree_14 : decode cX6_leastTree 14 = .ok (.iload_n 1, 1) := by decide +kernel
theorem dX6_leastTree_15 : decode cX6_leastTree 15 = .ok (.iload_n 1, 1) := by decide +kernel
theorem dX6_leastTree_16 : decode cX6_leastTree 16 = .ok (.iastore, 1) := by decide +kernel
theorem dX6_leastTree_17 : decode cX6_leastTree 17 = .ok (.iinc 1 1, 3) := by decide +kernel
theorem dX6_leastTree_20 : decode cX6_leastTree 20 = .ok (.goto (-18), 3) := by decide +kernel
theorem dX6_leastTree_23 : decode cX6_leastTree 23 = .ok (.iconst 0, 1) := by decide +kernel
theorem dX6_leastTree_24 : decode cX6_leastTree 24 = .ok (.istore_n 1, 1) := by decide +kernel
theorem dX6_leastTree_25 : decode cX6_leastTree 25 = .ok (.iconst 1, 1) := by decide +kernel
theorem dX6_leastTree_26 : decode cX6_leastTree 26 = .ok (.istore_n 2, 1) := by decide +kernel
theorem dX6_leastTree_27 : decode cX6_leastTree 27 = .ok (.iload_n 2, 1) := by decide +kernel
theorem dX6_leastTree_28 : decode cX6_leastTree 28 = .ok (.bipush 9, 2) := by decide +kernel
theorem dX6_leastTree_30 : decode cX6_leastTree 30 = .ok (.if_icmp .gt 17, 3) := by decide +kernel
theorem dX6_leastTree_33 : decode cX6_leastTree 33 = .ok (.iload_n 1, 1) := by decide +kernel
theorem dX6_leastTree_34 : decode cX6_leastTree 34 = .ok (.aload_n 0, 1) := by decide +kernel
theorem dX6_leastTree_35 : decode cX6_leastTree 35 = .ok (.iload_n 2, 1) := by decide +kernel
theorem dX6_leastTree_36 : decode cX6_leastTree 36 = .ok (.invokevirtual 60, 3) := by decide +kernel
theorem dX6_leastTree_39 : decode cX6_leastTree 39 = .ok (.ior, 1) := by decide +kernel
theorem dX6_leastTree_40 : decode cX6_leastTree 40 = .ok (.istore_n 1, 1) := by decide +kernel
theorem dX6_leastTree_41 : decode cX6_leastTree 41 = .ok (.iinc 2 1, 3) := by decide +kernel
theorem dX6_leastTree_44 : decode cX6_leastTree 44 = .ok (.goto (-17), 3) := by decide +kernel
theorem dX6_leastTree_47 : decode cX6_leastTree 47 = .ok (.iload_n 1, 1) := by decide +kernel
theorem dX6_leastTree_48 : decode cX6_leastTree 48 = .ok (.invokestatic 63, 3) := by decide +kernel
theorem dX6_leastTree_51 : decode cX6_leastTree 51 = .ok (.aload_n 0, 1) := by decide +kernel
theorem dX6_leastTree_52 : decode cX6_leastTree 52 = .ok (.getfield 21, 3) := by decide +kernel
theorem dX6_leastTree_55 : decode cX6_leastTree 55 = .ok (.iconst 1, 1) := by decide +kernel
theorem dX6_leastTree_56 : decode cX6_leastTree 56 = .ok (.isub, 1) := by decide +kernel
theorem dX6_leastTree_57 : decode cX6_leastTree 57 = .ok (.if_icmp .ne 7, 3) := by decide +kernel
theorem dX6_leastTree_60 : decode cX6_leastTree 60 = .ok (.iload_n 1, 1) := by decide +kernel
theorem dX6_leastTree_61 : decode cX6_leastTree 61 = .ok (.goto 5, 3) := by decide +kernel
theorem dX6_leastTree_64 : decode cX6_leastTree 64 = .ok (.bipush (-9), 2) := by decide +kernel
theorem dX6_leastTree_66 : decode cX6_leastTree 66 = .ok (.ireturn, 1) := by decide +kernel
set_option maxRecDepth 20000 in
theorem ggX6_joinBy_X6_length : GoodIn wsX6_joinBy wsX6_length := goodIn_r _ [7, 8, 9, 10, 11, 6, 12, 1, 17, 18, 19, 20] (by decide +kernel) (by decide +kernel)
set_option maxRecDepth 20000 in
theorem gX6_joinBy_X6_length : GoodIn wsX6_joinBy (wsV RX6 42 RX6 yX6_length wsX6_length) := goodIn_app (goodIn_of _ (by decide +kernel)) ggX6_joinBy_X6_length
set_option maxRecDepth 20000 in
theorem ggX6_joinBy_X6_joinGroups : GoodIn wsX6_joinBy wsX6_joinGroups := goodIn_r _ [16, 1, 2, 17, 18, 19, 20] (by decide +kernel) (by decide +kernel)
set_option maxRecDepth 20000 in
theorem gX6_joinBy_X6_joinGroups : GoodIn wsX6_joinBy (wsV RX6 68 RX6 yX6_joinGroups wsX6_joinGroups) := goodIn_app (goodIn_of _ (by decide +kernel)) ggX6_joinBy_X6_joinGroups
theorem dX6_joinBy_0 : decode cX6_joinBy 0 = .ok (.iconst 0, 1) := by decide +kernel
theorem dX6_joinBy_1 : decode cX6_joinBy 1 = .ok (.istore_n 2, 1) := by decide +kernel
theorem dX6_joinBy_2 : decode cX6_joinBy 2 = .ok (.iconst 0, 1) := by decide +kernel
theorem dX6_joinBy_3 : decode cX6_joinBy 3 = .ok (.istore_n 3, 1) := by decide +kernel
theorem dX6_joinBy_4 : decode cX6_joinBy 4 = .ok (.iconst 0, 1) := by decide +kernel
theorem dX6_joinBy_5 : decode cX6_joinBy 5 = .ok (.istore 4, 2) := by decide +kernel
theorem dX6_joinBy_7 : decode cX6_joinBy 7 = .ok (.iload 4, 2) := by decide +kernel
theorem dX6_joinBy_9 : decode cX6_joinBy 9 = .ok (.aload_n 0, 1) := by decide +kernel
theorem dX6_joinBy_10 : decode cX6_joinBy 10 = .ok (.getfield 21, 3) := by decide +kernel
theorem dX6_joinBy_13 : decode cX6_joinBy 13 = .ok (.if_icmp .ge 86, 3) := by decide +kernel
theorem dX6_joinBy_16 : decode cX6_joinBy 16 = .ok (.iload 4, 2) := by decide +kernel
theorem dX6_joinBy_18 : decode cX6_joinBy 18 = .ok (.iconst 1, 1) := by decide +kernel
theorem dX6_joinBy_19 : decode cX6_joinBy 19 = .ok (.iadd, 1) := by decide +kernel
theorem dX6_joinBy_20 : decode cX6_joinBy 20 = .ok (.istore 5, 2) := by decide +kernel
theorem dX6_joinBy_22 : decode cX6_joinBy 22 = .ok (.iload 5, 2) := by decide +kernel
theorem dX6_joinBy_24 : decode cX6_joinBy 24 = .ok (.aload_n 0, 1) := by decide +kernel
theorem dX6_joinBy_25 : decode cX6_joinBy 25 = .ok (.getfield 21, 3) := by decide +kernel
theorem dX6_joinBy_28 : decode cX6_joinBy 28 = .ok (.if_icmp .ge 65, 3) := by decide +kernel
theorem dX6_joinBy_31 : decode cX6_joinBy 31 = .ok (.aload_n 0, 1) := by decide +kernel
theorem dX6_joinBy_32 : decode cX6_joinBy 32 = .ok (.iload 4, 2) := by decide +kernel
theorem dX6_joinBy_34 : decode cX6_joinBy 34 = .ok (.iload 5, 2) := by decide +kernel
theorem dX6_joinBy_36 : decode cX6_joinBy 36 = .ok (.invokevirtual 42, 3) := by decide +kernel
theorem dX6_joinBy_39 : decode cX6_joinBy 39 = .ok (.iload_n 1, 1) := by decide +kernel
theorem dX6_joinBy_40 : decode cX6_joinBy 40 = .ok (.if_icmp .ne 44, 3) := by decide +kernel
theorem dX6_joinBy_43 : decode cX6_joinBy 43 = .ok (.aload_n 0, 1) := by decide +kernel
theorem dX6_joinBy_44 : decode cX6_joinBy 44 = .ok (.getfield 18, 3) := by decide +kernel
theorem dX6_joinBy_47 : decode cX6_joinBy 47 = .ok (.iload 4, 2) := by decide +kernel
theorem dX6_joinBy_49 : decode cX6_joinBy 49 = .ok (.iaload, 1) := by decide +kernel
theorem dX6_joinBy_50 : decode cX6_joinBy 50 = .ok (.aload_n 0, 1) := by decide +kernel
theorem dX6_joinBy_51 : decode cX6_joinBy 51 = .ok (.getfield 18, 3) := by decide +kernel
theorem dX6_joinBy_54 : decode cX6_joinBy 54 = .ok (.iload 5, 2) := by decide +kernel
theorem dX6_joinBy_56 : decode cX6_joinBy 56 = .ok (.iaload, 1) := by decide +kernel
theorem dX6_joinBy_57 : decode cX6_joinBy 57 = .ok (.if_icmp .eq 27, 3) := by decide +kernel
theorem dX6_joinBy_60 : decode cX6_joinBy 60 = .ok (.aload_n 0, 1) := by decide +kernel
theorem dX6_joinBy_61 : decode cX6_joinBy 61 = .ok (.aload_n 0, 1) := by decide +kernel
theorem dX6_joinBy_62 : decode cX6_joinBy 62 = .ok (.getfield 18, 3) := by decide +kernel
theorem dX6_joinBy_65 : decode cX6_joinBy 65 = .ok (.iload 4, 2) := by decide +kernel
theorem dX6_joinBy_67 : decode cX6_joinBy 67 = .ok (.iaload, 1) := by decide +kernel
theorem dX6_joinBy_68 : decode cX6_joinBy 68 = .ok (.aload_n 0, 1) := by decide +kernel
theorem dX6_joinBy_69 : decode cX6_joinBy 69 = .ok (.getfield 18, 3) := by decide +kernel
theorem dX6_joinBy_72 : decode cX6_joinBy 72 = .ok (.iload 5, 2) := by decide +kernel
theorem dX6_joinBy_74 : decode cX6_joinBy 74 = .ok (.iaload, 1) := by decide +kernel
theorem dX6_joinBy_75 : decode cX6_joinBy 75 = .ok (.invokevirtual 68, 3) := by decide +kernel
theorem dX6_joinBy_78 : decode cX6_joinBy 78 = .ok (.iload_n 2, 1) := by decide +kernel
theorem dX6_joinBy_79 : decode cX6_joinBy 79 = .ok (.iconst 1, 1) := by decide +kernel
theorem dX6_joinBy_80 : decode cX6_joinBy 80 = .ok (.iload_n 3, 1) := by decide +kernel
theorem dX6_joinBy_81 : decode cX6_joinBy 81 = .ok (.ishl, 1) := by decide +kernel
theorem dX6_joinBy_82 : decode cX6_joinBy 82 = .ok (.ior, 1) := by decide +kernel
theorem dX6_joinBy_83 : decode cX6_joinBy 83 = .ok (.istore_n 2, 1) := by decide +kernel
theorem dX6_joinBy_84 : decode cX6_joinBy 84 = .ok (.iinc 3 1, 3) := by decide +kernel
theorem dX6_joinBy_87 : decode cX6_joinBy 87 = .ok (.iinc 5 1, 3) := by decide +kernel
theorem dX6_joinBy_90 : decode cX6_joinBy 90 = .ok (.goto (-68), 3) := by decide +kernel
theorem dX6_joinBy_93 : decode cX6_joinBy 93 = .ok (.iinc 4 1, 3) := by decide +kernel
theorem dX6_joinBy_96 : decode cX6_joinBy 96 = .ok (.goto (-89), 3) := by decide +kernel
theorem dX6_joinBy_99 : decode cX6_joinBy 99 = .ok (.iload_n 2, 1) := by decide +kernel
theorem dX6_joinBy_100 : decode cX6_joinBy 100 = .ok (.ireturn, 1) := by decide +kernel
theorem dX6_joinGroups_0 : decode cX6_joinGroups 0 = .ok (.iconst 0, 1) := by decide +kernel
theorem dX6_joinGroups_1 : decode cX6_joinGroups 1 = .ok (.istore_n 3, 1) := by decide +kernel
theorem dX6_joinGroups_2 : decode cX6_joinGroups 2 = .ok (.iload_n 3, 1) := by decide +kernel
theorem dX6_joinGroups_3 : decode cX6_joinGroups 3 = .ok (.aload_n 0, 1) := by decide +kernel
theorem dX6_joinGroups_4 : decode cX6_joinGroups 4 = .ok (.getfield 21, 3) := by decide +kernel
theorem dX6_joinGroups_7 : decode cX6_joinGroups 7 = .ok (.if_icmp .ge 26, 3) := by decide +kernel
theorem dX6_joinGroups_10 : decode cX6_joinGroups 10 = .ok (.aload_n 0, 1) := by decide +kernel
theorem dX6_joinGroups_11 : decode cX6_joinGroups 11 = .ok (.getfield 18, 3) := by decide +kernel
theorem dX6_joinGroups_14 : decode cX6_joinGroups 14 = .ok (.iload_n 3, 1) := by decide +kernel
theorem dX6_joinGroups_15 : decode cX6_joinGroups 15 = .ok (.iaload, 1) := by decide +kernel
theorem dX6_joinGroups_16 : decode cX6_joinGroups 16 = .ok (.iload_n 2, 1) := by decide +kernel
theorem dX6_joinGroups_17 : decode cX6_joinGroups 17 = .ok (.if_icmp .ne 10, 3) := by decide +kernel
theorem dX6_joinGroups_20 : decode cX6_joinGroups 20 = .ok (.aload_n 0, 1) := by decide +kernel
theorem dX6_joinGroups_21 : decode cX6_joinGroups 21 = .ok (.getfield 18, 3) := by decide +kernel
theorem dX6_joinGroups_24 : decode cX6_joinGroups 24 = .ok (.iload_n 3, 1) := by decide +kernel
theorem dX6_joinGroups_25 : decode cX6_joinGroups 25 = .ok (.iload_n 1, 1) := by decide +kernel
theorem dX6_joinGroups_26 : decode cX6_joinGroups 26 = .ok (.iastore, 1) := by decide +kernel
theorem dX6_joinGroups_27 : decode cX6_joinGroups 27 = .ok (.iinc 3 1, 3) := by decide +kernel
theorem dX6_joinGroups_30 : decode cX6_joinGroups 30 = .ok (.goto (-28), 3) := by decide +kernel
theorem dX6_joinGroups_33 : decode cX6_joinGroups 33 = .ok (.return_, 1) := by decide +kernel
set_option maxRecDepth 20000 in
theorem ggX6_lengthOf_X6_length : GoodIn wsX6_lengthOf wsX6_length := goodIn_r _ [6, 7, 8, 9, 10, 5, 11, 1, 12, 13, 14, 15] (by decide +kernel) (by decide +kernel)
set_option maxRecDepth 20000 in
theorem gX6_lengthOf_X6_length : GoodIn wsX6_lengthOf (wsV RX6 42 RX6 yX6_length wsX6_length) := goodIn_app (goodIn_of _ (by decide +kernel)) ggX6_lengthOf_X6_length
theorem dX6_lengthOf_0 : decode cX6_lengthOf 0 = .ok (.iconst 0, 1) := by decide +kernel
theorem dX6_lengthOf_1 : decode cX6_lengthOf 1 = .ok (.istore_n 2, 1) := by decide +kernel
theorem dX6_lengthOf_2 : decode cX6_lengthOf 2 = .ok (.iconst 0, 1) := by decide +kernel
theorem dX6_lengthOf_3 : decode cX6_lengthOf 3 = .ok (.istore_n 3, 1) := by decide +kernel
theorem dX6_lengthOf_4 : decode cX6_lengthOf 4 = .ok (.iconst 0, 1) := by decide +kernel
theorem dX6_lengthOf_5 : decode cX6_lengthOf 5 = .ok (.istore 4, 2) := by decide +kernel
theorem dX6_lengthOf_7 : decode cX6_lengthOf 7 = .ok (.iload 4, 2) := by decide +kernel
theorem dX6_lengthOf_9 : decode cX6_lengthOf 9 = .ok (.aload_n 0, 1) := by decide +kernel
theorem dX6_lengthOf_10 : decode cX6_lengthOf 10 = .ok (.getfield 21, 3) := by decide +kernel
theorem dX6_lengthOf_13 : decode cX6_lengthOf 13 = .ok (.if_icmp .ge 53, 3) := by decide +kernel
theorem dX6_lengthOf_16 : decode cX6_lengthOf 16 = .ok (.iload 4, 2) := by decide +kernel
theorem dX6_lengthOf_18 : decode cX6_lengthOf 18 = .ok (.iconst 1, 1) := by decide +kernel
theorem dX6_lengthOf_19 : decode cX6_lengthOf 19 = .ok (.iadd, 1) := by decide +kernel
theorem dX6_lengthOf_20 : decode cX6_lengthOf 20 = .ok (.istore 5, 2) := by decide +kernel
theorem dX6_lengthOf_22 : decode cX6_lengthOf 22 = .ok (.iload 5, 2) := by decide +kernel
theorem dX6_lengthOf_24 : decode cX6_lengthOf 24 = .ok (.aload_n 0, 1) := by decide +kernel
theorem dX6_lengthOf_25 : decode cX6_lengthOf 25 = .ok (.getfield 21, 3) := by decide +kernel
theorem dX6_lengthOf_28 : decode cX6_lengthOf 28 = .ok (.if_icmp .ge 32, 3) := by decide +kernel
theorem dX6_lengthOf_31 : decode cX6_lengthOf 31 = .ok (.iload_n 1, 1) := by decide +kernel
theorem dX6_lengthOf_32 : decode cX6_lengthOf 32 = .ok (.iload_n 3, 1) := by decide +kernel
theorem dX6_lengthOf_33 : decode cX6_lengthOf 33 = .ok (.ishr, 1) := by decide +kernel
theorem dX6_lengthOf_34 : decode cX6_lengthOf 34 = .ok (.iconst 1, 1) := by decide +kernel
theorem dX6_lengthOf_35 : decode cX6_lengthOf 35 = .ok (.iand, 1) := by decide +kernel
theorem dX6_lengthOf_36 : decode cX6_lengthOf 36 = .ok (.iconst 1, 1) := by decide +kernel
theorem dX6_lengthOf_37 : decode cX6_lengthOf 37 = .ok (.if_icmp .ne 14, 3) := by decide +kernel
theorem dX6_lengthOf_40 : decode cX6_lengthOf 40 = .ok (.iload_n 2, 1) := by decide +kernel
theorem dX6_lengthOf_41 : decode cX6_lengthOf 41 = .ok (.aload_n 0, 1) := by decide +kernel
theorem dX6_lengthOf_42 : decode cX6_lengthOf 42 = .ok (.iload 4, 2) := by decide +kernel
theorem dX6_lengthOf_44 : decode cX6_lengthOf 44 = .ok (.iload 5, 2) := by decide +kernel
theorem dX6_lengthOf_46 : decode cX6_lengthOf 46 = .ok (.invokevirtual 42, 3) := by decide +kernel
theorem dX6_lengthOf_49 : decode cX6_lengthOf 49 = .ok (.iadd, 1) := by decide +kernel
theorem dX6_lengthOf_50 : decode cX6_lengthOf 50 = .ok (.istore_n 2, 1) := by decide +kernel
theorem dX6_lengthOf_51 : decode cX6_lengthOf 51 = .ok (.iinc 3 1, 3) := by decide +kernel
theorem dX6_lengthOf_54 : decode cX6_lengthOf 54 = .ok (.iinc 5 1, 3) := by decide +kernel
theorem dX6_lengthOf_57 : decode cX6_lengthOf 57 = .ok (.goto (-35), 3) := by decide +kernel
theorem dX6_lengthOf_60 : decode cX6_lengthOf 60 = .ok (.iinc 4 1, 3) := by decide +kernel
theorem dX6_lengthOf_63 : decode cX6_lengthOf 63 = .ok (.goto (-56), 3) := by decide +kernel
theorem dX6_lengthOf_66 : decode cX6_lengthOf 66 = .ok (.iload_n 2, 1) := by decide +kernel
theorem dX6_lengthOf_67 : decode cX6_lengthOf 67 = .ok (.ireturn, 1) := by decide +kernel
set_option maxRecDepth 20000 in
theorem ggX7_firstFault_X7_goesOn : GoodIn wsX7_firstFault wsX7_goesOn := goodIn_r _ [4, 5, 6, 7, 8, 9, 10, 11, 12, 13, 3, 14, 15, 16, 17, 18, 19, 20, 21, 22, 23, 27, 28, 29] (by decide +kernel) (by decide +kernel)
set_option maxRecDepth 20000 in
theorem gX7_firstFault_X7_goesOn : GoodIn wsX7_firstFault (va_wsS RX7 9 yX7_goesOn wsX7_goesOn) := goodIn_app (goodIn_of _ (by decide +kernel)) ggX7_firstFault_X7_goesOn
set_option maxRecDepth 20000 in
theorem ggX7_firstFault_X7_isWhole : GoodIn wsX7_firstFault wsX7_isWhole := goodIn_r _ [26, 12, 13, 3, 14, 5, 6, 7, 8, 9, 10, 11, 15, 16, 17, 27, 28, 29] (by decide +kernel) (by decide +kernel)
set_option maxRecDepth 20000 in
theorem gX7_firstFault_X7_isWhole : GoodIn wsX7_firstFault (va_wsS RX7 15 yX7_isWhole wsX7_isWhole) := goodIn_app (goodIn_of _ (by decide +kernel)) ggX7_firstFault_X7_isWhole
theorem dX7_firstFault_0 : decode cX7_firstFault 0 = .ok (.iconst 0, 1) := by decide +kernel
theorem dX7_firstFault_1 : decode cX7_firstFault 1 = .ok (.istore_n 3, 1) := by decide +kernel
theorem dX7_firstFault_2 : decode cX7_firstFault 2 = .ok (.iload_n 3, 1) := by decide +kernel
theorem dX7_firstFault_3 : decode cX7_firstFault 3 = .ok (.iload_n 2, 1) := by decide +kernel
theorem dX7_firstFault_4 : decode cX7_firstFault 4 = .ok (.if_icmp .ge 20, 3) := by decide +kernel
theorem dX7_firstFault_7 : decode cX7_firstFault 7 = .ok (.aload_n 0, 1) := by decide +kernel
theorem dX7_firstFault_8 : decode cX7_firstFault 8 = .ok (.iload_n 1, 1) := by decide +kernel
theorem dX7_firstFault_9 : decode cX7_firstFault 9 = .ok (.iload_n 3, 1) := by decide +kernel
theorem dX7_firstFault_10 : decode cX7_firstFault 10 = .ok (.invokestatic 9, 3) := by decide +kernel
theorem dX7_firstFault_13 : decode cX7_firstFault 13 = .ok (.ifCond .ne 5, 3) := by decide +kernel
theorem dX7_firstFault_16 : decode cX7_firstFault 16 = .ok (.iload_n 3, 1) := by decide +kernel
theorem dX7_firstFault_17 : decode cX7_firstFault 17 = .ok (.ireturn, 1) := by decide +kernel
theorem dX7_firstFault_18 : decode cX7_firstFault 18 = .ok (.iinc 3 1, 3) := by decide +kernel
theorem dX7_firstFault_21 : decode cX7_firstFault 21 = .ok (.goto (-19), 3) := by decide +kernel
theorem dX7_firstFault_24 : decode cX7_firstFault 24 = .ok (.aload_n 0, 1) := by decide +kernel
theorem dX7_firstFault_25 : decode cX7_firstFault 25 = .ok (.iload_n 1, 1) := by decide +kernel
theorem dX7_firstFault_26 : decode cX7_firstFault 26 = .ok (.iload_n 2, 1) := by decide +kernel
theorem dX7_firstFault_27 : decode cX7_firstFault 27 = .ok (.invokestatic 15, 3) := by decide +kernel
theorem dX7_firstFault_30 : decode cX7_firstFault 30 = .ok (.ifCond .eq 8, 3) := by decide +kernel
theorem dX7_firstFault_33 : decode cX7_firstFault 33 = .ok (.bipush (-9), 2) := by decide +kernel
theorem dX7_firstFault_35 : decode cX7_firstFault 35 = .ok (.goto 4, 3) := by decide +kernel
theorem dX7_firstFault_38 : decode cX7_firstFault 38 = .ok (.iload_n 2, 1) := by decide +kernel
theorem dX7_firstFault_39 : decode cX7_firstFault 39 = .ok (.ireturn, 1) := by decide +kernel
set_option maxRecDepth 20000 in
theorem ggX7_goesOn_X5_at : GoodIn wsX7_goesOn wsX5_at := goodIn_r _ [5, 6, 7, 21, 22, 23] (by decide +kernel) (by decide +kernel)
set_option maxRecDepth 20000 in
theorem gX7_goesOn_X5_at : GoodIn wsX7_goesOn (wsV RX7 18 RX5 yX5_at wsX5_at) := goodIn_app (goodIn_of _ (by decide +kernel)) ggX7_goesOn_X5_at
set_option maxRecDepth 20000 in
theorem ggX7_goesOn_X7_digit : GoodIn wsX7_goesOn wsX7_digit := goodIn_r _ [11, 1, 2, 3, 4, 5, 6, 7, 21, 22, 23] (by decide +kernel) (by decide +kernel)
set_option maxRecDepth 20000 in
theorem gX7_goesOn_X7_digit : GoodIn wsX7_goesOn (va_wsS RX7 24 yX7_digit wsX7_digit) := goodIn_app (goodIn_of _ (by decide +kernel)) ggX7_goesOn_X7_digit
set_option maxRecDepth 20000 in
theorem ggX7_goesOn_X7_headLength : GoodIn wsX7_goesOn wsX7_headLength := goodIn_r _ [14] (by decide +kernel) (by decide +kernel)
set_option maxRecDepth 20000 in
theorem gX7_goesOn_X7_headLength : GoodIn wsX7_goesOn (va_wsS RX7 28 yX7_headLength wsX7_headLength) := goodIn_app (goodIn_of _ (by decide +kernel)) ggX7_goesOn_X7_headLength
set_option maxRecDepth 20000 in
theorem ggX7_goesOn_X7_tellsFootman : GoodIn wsX7_goesOn wsX7_tellsFootman := goodIn_r _ [17, 18, 19, 10, 20] (by decide +kernel) (by decide +kernel)
set_option maxRecDepth 20000 in
theorem gX7_goesOn_X7_tellsFootman : GoodIn wsX7_goesOn (va_wsS RX7 31 yX7_tellsFootman wsX7_tellsFootman) := goodIn_app (goodIn_of _ (by decide +kernel)) ggX7_goesOn_X7_tellsFootman
theorem dX7_goesOn_0 : decode cX7_goesOn 0 = .ok (.aload_n 0, 1) := by decide +kernel
theorem dX7_goesOn_1 : decode cX7_goesOn 1 = .ok (.iload_n 1, 1) := by decide +kernel
theorem dX7_goesOn_2 : decode cX7_goesOn 2 = .ok (.iload_n 2, 1) := by decide +kernel
theorem dX7_goesOn_3 : decode cX7_goesOn 3 = .ok (.iadd, 1) := by decide +kernel
theorem dX7_goesOn_4 : decode cX7_goesOn 4 = .ok (.invokevirtual 18, 3) := by decide +kernel
theorem dX7_goesOn_7 : decode cX7_goesOn 7 = .ok (.istore_n 3, 1) := by decide +kernel
theorem dX7_goesOn_8 : decode cX7_goesOn 8 = .ok (.iload_n 2, 1) := by decide +kernel
theorem dX7_goesOn_9 : decode cX7_goesOn 9 = .ok (.ifCond .ne 15, 3) := by decide +kernel
theorem dX7_goesOn_12 : decode cX7_goesOn 12 = .ok (.iload_n 3, 1) := by decide +kernel
theorem dX7_goesOn_13 : decode cX7_goesOn 13 = .ok (.bipush 116, 2) := by decide +kernel
theorem dX7_goesOn_15 : decode cX7_goesOn 15 = .ok (.if_icmp .ne 7, 3) := by decide +kernel
theorem dX7_goesOn_18 : decode cX7_goesOn 18 = .ok (.iconst 1, 1) := by decide +kernel
theorem dX7_goesOn_19 : decode cX7_goesOn 19 = .ok (.goto 4, 3) := by decide +kernel
theorem dX7_goesOn_22 : decode cX7_goesOn 22 = .ok (.iconst 0, 1) := by decide +kernel
theorem dX7_goesOn_23 : decode cX7_goesOn 23 = .ok (.ireturn, 1) := by decide +kernel
theorem dX7_goesOn_24 : decode cX7_goesOn 24 = .ok (.iload_n 2, 1) := by decide +kernel
theorem dX7_goesOn_25 : decode cX7_goesOn 25 = .ok (.iconst 1, 1) := by decide +kernel
theorem dX7_goesOn_26 : decode cX7_goesOn 26 = .ok (.if_icmp .ne 21, 3) := by decide +kernel
theorem dX7_goesOn_29 : decode cX7_goesOn 29 = .ok (.iload_n 3, 1) := by decide +kernel
theorem dX7_goesOn_30 : decode cX7_goesOn 30 = .ok (.bipush 50, 2) := by decide +kernel
theorem dX7_goesOn_32 : decode cX7_goesOn 32 = .ok (.if_icmp .lt 13, 3) := by decide +kernel
theorem dX7_goesOn_35 : decode cX7_goesOn 35 = .ok (.iload_n 3, 1) := by decide +kernel
theorem dX7_goesOn_36 : decode cX7_goesOn 36 = .ok (.bipush 54, 2) := by decide +kernel
theorem dX7_goesOn_38 : decode cX7_goesOn 38 = .ok (.if_icmp .gt 7, 3) := by decide +kernel
theorem dX7_goesOn_41 : decode cX7_goesOn 41 = .ok (.iconst 1, 1) := by decide +kernel
theorem dX7_goesOn_42 : decode cX7_goesOn 42 = .ok (.goto 4, 3) := by decide +kernel
theorem dX7_goesOn_45 : decode cX7_goesOn 45 = .ok (.iconst 0, 1) := by decide +kernel
theorem dX7_goesOn_46 : decode cX7_goesOn 46 = .ok (.ireturn, 1) := by decide +kernel
theorem dX7_goesOn_47 : decode cX7_goesOn 47 = .ok (.aload_n 0, 1) := by decide +kernel
theorem dX7_goesOn_48 : decode cX7_goesOn 48 = .ok (.iload_n 1, 1) := by decide +kernel
theorem dX7_goesOn_49 : decode cX7_goesOn 49 = .ok (.iconst 1, 1) := by decide +kernel
theorem dX7_goesOn_50 : decode cX7_goesOn 50 = .ok (.iadd, 1) := by decide +kernel
theorem dX7_goesOn_51 : decode cX7_goesOn 51 = .ok (.invokestatic 24, 3) := by decide +kernel
theorem dX7_goesOn_54 : decode cX7_goesOn 54 = .ok (.istore 4, 2) := by decide +kernel
theorem dX7_goesOn_56 : decode cX7_goesOn 56 = .ok (.iload_n 2, 1) := by decide +kernel
theorem dX7_goesOn_57 : decode cX7_goesOn 57 = .ok (.iload 4, 2) := by decide +kernel
theorem dX7_goesOn_59 : decode cX7_goesOn 59 = .ok (.invokestatic 28, 3) := by decide +kernel
theorem dX7_goesOn_62 : decode cX7_goesOn 62 = .ok (.isub, 1) := by decide +kernel
theorem dX7_goesOn_63 : decode cX7_goesOn 63 = .ok (.istore 5, 2) := by decide +kernel
theorem dX7_goesOn_65 : decode cX7_goesOn 65 = .ok (.iload 5, 2) := by decide +kernel
theorem dX7_goesOn_67 : decode cX7_goesOn 67 = .ok (.ifCond .ge 21, 3) := by decide +kernel
theorem dX7_goesOn_70 : decode cX7_goesOn 70 = .ok (.iload_n 3, 1) := by decide +kernel
theorem dX7_goesOn_71 : decode cX7_goesOn 71 = .ok (.bipush 48, 2) := by decide +kernel
theorem dX7_goesOn_73 : decode cX7_goesOn 73 = .ok (.if_icmp .lt 13, 3) := by decide +kernel
theorem dX7_goesOn_76 : decode cX7_goesOn 76 = .ok (.iload_n 3, 1) := by decide +kernel
theorem dX7_goesOn_77 : decode cX7_goesOn 77 = .ok (.bipush 57, 2) := by decide +kernel
theorem dX7_goesOn_79 : decode cX7_goesOn 79 = .ok (.if_icmp .gt 7, 3) := by decide +kernel
theorem dX7_goesOn_82 : decode cX7_goesOn 82 = .ok (.iconst 1, 1) := by decide +kernel
theorem dX7_goesOn_83 : decode cX7_goesOn 83 = .ok (.goto 4, 3) := by decide +kernel
theorem dX7_goesOn_86 : decode cX7_goesOn 86 = .ok (.iconst 0, 1) := by decide +kernel
theorem dX7_goesOn_87 : decode cX7_goesOn 87 = .ok (.ireturn, 1) := by decide +kernel
theorem dX7_goesOn_88 : decode cX7_goesOn 88 = .ok (.iload 5, 2) := by decide +kernel
theorem dX7_goesOn_90 : decode cX7_goesOn 90 = .ok (.bipush 25, 2) := by decide +kernel
theorem dX7_goesOn_92 : decode cX7_goesOn 92 = .ok (.if_icmp .ge 20, 3) := by decide +kernel
theorem dX7_goesOn_95 : decode cX7_goesOn 95 = .ok (.iload_n 3, 1) := by decide +kernel
theorem dX7_goesOn_96 : decode cX7_goesOn 96 = .ok (.iload 5, 2) := by decide +kernel
theorem dX7_goesOn_98 : decode cX7_goesOn 98 = .ok (.iconst 5, 1) := by decide +kernel
theorem dX7_goesOn_99 : decode cX7_goesOn 99 = .ok (.irem, 1) := by decide +kernel
theorem dX7_goesOn_100 : decode cX7_goesOn 100 = .ok (.iload 4, 2) := by decide +kernel
theorem dX7_goesOn_102 : decode cX7_goesOn 102 = .ok (.invokestatic 31, 3) := by decide +kernel
theorem dX7_goesOn_105 : decode cX7_goesOn 105 = .ok (.ifCond .eq 7, 3) := by decide +kernel
theorem dX7_goesOn_108 : decode cX7_goesOn 108 = .ok (.iconst 1, 1) := by decide +kernel
theorem dX7_goesOn_109 : decode cX7_goesOn 109 = .ok (.goto 4, 3) := by decide +kernel
theorem dX7_goesOn_112 : decode cX7_goesOn 112 = .ok (.iconst 0, 1) := by decide +kernel
theorem dX7_goesOn_113 : decode cX7_goesOn 113 = .ok (.ireturn, 1) := by decide +kernel
set_option maxRecDepth 20000 in
theorem ggX7_tellsFootman_X7_kindOf : GoodIn wsX7_tellsFootman wsX7_kindOf := goodIn_r _ [4] (by decide +kernel) (by decide +kernel)
set_option maxRecDepth 20000 in
theorem gX7_tellsFootman_X7_kindOf : GoodIn wsX7_tellsFootman (va_wsS RX7 35 yX7_kindOf wsX7_kindOf) := goodIn_app (goodIn_of _ (by decide +kernel)) ggX7_tellsFootman_X7_kindOf
theorem dX7_tellsFootman_0 : decode cX7_tellsFootman 0 = .ok (.iload_n 1, 1) := by decide +kernel
theorem dX7_tellsFootman_1 : decode cX7_tellsFootman 1 = .ok (.tableswitch 78 0 3 #[31, 43, 58, 58], 31) := by decide +kernel
theorem dX7_tellsFootman_32 : decode cX7_tellsFootman 32 = .ok (.iload_n 0, 1) := by decide +kernel
theorem dX7_tellsFootman_33 : decode cX7_tellsFootman 33 = .ok (.bipush 59, 2) := by decide +kernel
theorem dX7_tellsFootman_35 : decode cX7_tellsFootman 35 = .ok (.if_icmp .ne 7, 3) := by decide +kernel
theorem dX7_tellsFootman_38 : decode cX7_tellsFootman 38 = .ok (.iconst 1, 1) := by decide +kernel
theorem dX7_tellsFootman_39 : decode cX7_tellsFootman 39 = .ok (.goto 4, 3) := by decide +kernel
theorem dX7_tellsFootman_42 : decode cX7_tellsFootman 42 = .ok (.iconst 0, 1) := by decide +kernel
theorem dX7_tellsFootman_43 : decode cX7_tellsFootman 43 = .ok (.ireturn, 1) := by decide +kernel
theorem dX7_tellsFootman_44 : decode cX7_tellsFootman 44 = .ok (.iload_n 0, 1) := by decide +kernel
theorem dX7_tellsFootman_45 : decode cX7_tellsFootman 45 = .ok (.invokestatic 35, 3) := by decide +kernel
theorem dX7_tellsFootman_48 : decode cX7_tellsFootman 48 = .ok (.bipush (-9), 2) := by decide +kernel
theorem dX7_tellsFootman_50 : decode cX7_tellsFootman 50 = .ok (.if_icmp .eq 7, 3) := by decide +kernel
theorem dX7_tellsFootman_53 : decode cX7_tellsFootman 53 = .ok (.iconst 1, 1) := by decide +kernel
theorem dX7_tellsFootman_54 : decode cX7_tellsFootman 54 = .ok (.goto 4, 3) := by decide +kernel
theorem dX7_tellsFootman_57 : decode cX7_tellsFootman 57 = .ok (.iconst 0, 1) := by decide +kernel
theorem dX7_tellsFootman_58 : decode cX7_tellsFootman 58 = .ok (.ireturn, 1) := by decide +kernel
theorem dX7_tellsFootman_59 : decode cX7_tellsFootman 59 = .ok (.iload_n 0, 1) := by decide +kernel
theorem dX7_tellsFootman_60 : decode cX7_tellsFootman 60 = .ok (.bipush 48, 2) := by decide +kernel
theorem dX7_tellsFootman_62 : decode cX7_tellsFootman 62 = .ok (.if_icmp .lt 15, 3) := by decide +kernel
theorem dX7_tellsFootman_65 : decode cX7_tellsFootman 65 = .ok (.iload_n 0, 1) := by decide +kernel
theorem dX7_tellsFootman_66 : decode cX7_tellsFootman 66 = .ok (.bipush 48, 2) := by decide +kernel
theorem dX7_tellsFootman_68 : decode cX7_tellsFootman 68 = .ok (.iload_n 2, 1) := by decide +kernel
theorem dX7_tellsFootman_69 : decode cX7_tellsFootman 69 = .ok (.iadd, 1) := by decide +kernel
theorem dX7_tellsFootman_70 : decode cX7_tellsFootman 70 = .ok (.if_icmp .ge 7, 3) := by decide +kernel
theorem dX7_tellsFootman_73 : decode cX7_tellsFootman 73 = .ok (.iconst 1, 1) := by decide +kernel
theorem dX7_tellsFootman_74 : decode cX7_tellsFootman 74 = .ok (.goto 4, 3) := by decide +kernel
theorem dX7_tellsFootman_77 : decode cX7_tellsFootman 77 = .ok (.iconst 0, 1) := by decide +kernel
theorem dX7_tellsFootman_78 : decode cX7_tellsFootman 78 = .ok (.ireturn, 1) := by decide +kernel
theorem dX7_tellsFootman_79 : decode cX7_tellsFootman 79 = .ok (.iload_n 0, 1) := by decide +kernel
theorem dX7_tellsFootman_80 : decode cX7_tellsFootman 80 = .ok (.bipush 49, 2) := by decide +kernel
theorem dX7_tellsFootman_82 : decode cX7_tellsFootman 82 = .ok (.if_icmp .lt 13, 3) := by decide +kernel
theorem dX7_tellsFootman_85 : decode cX7_tellsFootman 85 = .ok (.iload_n 0, 1) := by decide +kernel
theorem dX7_tellsFootman_86 : decode cX7_tellsFootman 86 = .ok (.bipush 57, 2) := by decide +kernel
theorem dX7_tellsFootman_88 : decode cX7_tellsFootman 88 = .ok (.if_icmp .gt 7, 3) := by decide +kernel
theorem dX7_tellsFootman_91 : decode cX7_tellsFootman 91 = .ok (.iconst 1, 1) := by decide +kernel
theorem dX7_tellsFootman_92 : decode cX7_tellsFootman 92 = .ok (.goto 4, 3) := by decide +kernel
theorem dX7_tellsFootman_95 : decode cX7_tellsFootman 95 = .ok (.iconst 0, 1) := by decide +kernel
theorem dX7_tellsFootman_96 : decode cX7_tellsFootman 96 = .ok (.ireturn, 1) := by decide +kernel
set_option maxRecDepth 20000 in
theorem ggX7_isWhole_X7_digit : GoodIn wsX7_isWhole wsX7_digit := goodIn_r _ [4, 5, 6, 7, 8, 9, 10, 11, 15, 16, 17] (by decide +kernel) (by decide +kernel)
set_option maxRecDepth 20000 in
theorem gX7_isWhole_X7_digit : GoodIn wsX7_isWhole (va_wsS RX7 24 yX7_digit wsX7_digit) := goodIn_app (goodIn_of _ (by decide +kernel)) ggX7_isWhole_X7_digit
set_option maxRecDepth 20000 in
theorem ggX7_isWhole_X7_headLength : GoodIn wsX7_isWhole wsX7_headLength := goodIn_r _ [14] (by decide +kernel) (by decide +kernel)
set_option maxRecDepth 20000 in
theorem gX7_isWhole_X7_headLength : GoodIn wsX7_isWhole (va_wsS RX7 28 yX7_headLength wsX7_headLength) := goodIn_app (goodIn_of _ (by decide +kernel)) ggX7_isWhole_X7_headLength
theorem dX7_isWhole_0 : decode cX7_isWhole 0 = .ok (.iload_n 2, 1) := by decide +kernel
theorem dX7_isWhole_1 : decode cX7_isWhole 1 = .ok (.iconst 2, 1) := by decide +kernel
theorem dX7_isWhole_2 : decode cX7_isWhole 2 = .ok (.if_icmp .ge 5, 3) := by decide +kernel
theorem dX7_isWhole_5 : decode cX7_isWhole 5 = .ok (.iconst 0, 1) := by decide +kernel
theorem dX7_isWhole_6 : decode cX7_isWhole 6 = .ok (.ireturn, 1) := by decide +kernel
theorem dX7_isWhole_7 : decode cX7_isWhole 7 = .ok (.iload_n 2, 1) := by decide +kernel
theorem dX7_isWhole_8 : decode cX7_isWhole 8 = .ok (.aload_n 0, 1) := by decide +kernel
theorem dX7_isWhole_9 : decode cX7_isWhole 9 = .ok (.iload_n 1, 1) := by decide +kernel
theorem dX7_isWhole_10 : decode cX7_isWhole 10 = .ok (.iconst 1, 1) := by decide +kernel
theorem dX7_isWhole_11 : decode cX7_isWhole 11 = .ok (.iadd, 1) := by decide +kernel
theorem dX7_isWhole_12 : decode cX7_isWhole 12 = .ok (.invokestatic 24, 3) := by decide +kernel
theorem dX7_isWhole_15 : decode cX7_isWhole 15 = .ok (.invokestatic 28, 3) := by decide +kernel
theorem dX7_isWhole_18 : decode cX7_isWhole 18 = .ok (.isub, 1) := by decide +kernel
theorem dX7_isWhole_19 : decode cX7_isWhole 19 = .ok (.istore_n 3, 1) := by decide +kernel
theorem dX7_isWhole_20 : decode cX7_isWhole 20 = .ok (.iload_n 3, 1) := by decide +kernel
theorem dX7_isWhole_21 : decode cX7_isWhole 21 = .ok (.iconst 5, 1) := by decide +kernel
theorem dX7_isWhole_22 : decode cX7_isWhole 22 = .ok (.if_icmp .lt 13, 3) := by decide +kernel
theorem dX7_isWhole_25 : decode cX7_isWhole 25 = .ok (.iload_n 3, 1) := by decide +kernel
theorem dX7_isWhole_26 : decode cX7_isWhole 26 = .ok (.iconst 5, 1) := by decide +kernel
theorem dX7_isWhole_27 : decode cX7_isWhole 27 = .ok (.irem, 1) := by decide +kernel
theorem dX7_isWhole_28 : decode cX7_isWhole 28 = .ok (.ifCond .ne 7, 3) := by decide +kernel
theorem dX7_isWhole_31 : decode cX7_isWhole 31 = .ok (.iconst 1, 1) := by decide +kernel
theorem dX7_isWhole_32 : decode cX7_isWhole 32 = .ok (.goto 4, 3) := by decide +kernel
theorem dX7_isWhole_35 : decode cX7_isWhole 35 = .ok (.iconst 0, 1) := by decide +kernel
theorem dX7_isWhole_36 : decode cX7_isWhole 36 = .ok (.ireturn, 1) := by decide +kernel
set_option maxRecDepth 20000 in
theorem ggX7_take_X7_digit : GoodIn wsX7_take wsX7_digit := goodIn_r _ [4, 5, 6, 7, 8, 9, 10, 11, 68, 69, 70] (by decide +kernel) (by decide +kernel)
set_option maxRecDepth 20000 in
theorem gX7_take_X7_digit : GoodIn wsX7_take (va_wsS RX7 24 yX7_digit wsX7_digit) := goodIn_app (goodIn_of _ (by decide +kernel)) ggX7_take_X7_digit
set_option maxRecDepth 20000 in
theorem ggX7_take_X6_renew : GoodIn wsX7_take wsX6_renew := goodIn_r _ [16, 17, 18, 19, 20, 21, 22, 23, 24, 25, 62, 63, 64, 65] (by decide +kernel) (by decide +kernel)
set_option maxRecDepth 20000 in
theorem gX7_take_X6_renew : GoodIn wsX7_take (wsV RX7 38 RX6 yX6_renew wsX6_renew) := goodIn_app (goodIn_of _ (by decide +kernel)) ggX7_take_X6_renew
set_option maxRecDepth 20000 in
theorem ggX7_take_X6_lay : GoodIn wsX7_take wsX6_lay := goodIn_r _ [29, 25, 30, 31, 32, 15, 33, 34, 35, 36, 37, 24, 62, 63, 64, 65] (by decide +kernel) (by decide +kernel)
set_option maxRecDepth 20000 in
theorem gX7_take_X6_lay : GoodIn wsX7_take (wsV RX7 48 RX6 yX6_lay wsX6_lay) := goodIn_app (goodIn_of _ (by decide +kernel)) ggX7_take_X6_lay
set_option maxRecDepth 20000 in
theorem ggX7_take_X6_measure : GoodIn wsX7_take wsX6_measure := goodIn_r _ [41, 24, 42, 43, 44, 45, 46, 15, 47, 25, 34, 35, 36, 37, 48, 49, 50, 51, 62, 63, 64, 65] (by decide +kernel) (by decide +kernel)
set_option maxRecDepth 20000 in
theorem gX7_take_X6_measure : GoodIn wsX7_take (wsV RX7 52 RX6 yX6_measure wsX6_measure) := goodIn_app (goodIn_of _ (by decide +kernel)) ggX7_take_X6_measure
set_option maxRecDepth 20000 in
theorem ggX7_take_X5_at : GoodIn wsX7_take wsX5_at := goodIn_r _ [9, 10, 11, 68, 69, 70] (by decide +kernel) (by decide +kernel)
set_option maxRecDepth 20000 in
theorem gX7_take_X5_at : GoodIn wsX7_take (wsV RX7 18 RX5 yX5_at wsX5_at) := goodIn_app (goodIn_of _ (by decide +kernel)) ggX7_take_X5_at
set_option maxRecDepth 20000 in
theorem ggX7_take_X7_kindOf : GoodIn wsX7_take wsX7_kindOf := goodIn_r _ [54] (by decide +kernel) (by decide +kernel)
set_option maxRecDepth 20000 in
theorem gX7_take_X7_kindOf : GoodIn wsX7_take (va_wsS RX7 35 yX7_kindOf wsX7_kindOf) := goodIn_app (goodIn_of _ (by decide +kernel)) ggX7_take_X7_kindOf
set_option maxRecDepth 20000 in
theorem ggX7_take_X0_add : GoodIn wsX7_take wsX0_add := goodIn_r _ [59, 60, 61, 66, 67, 71, 72, 73, 74, 75, 76] (by decide +kernel) (by decide +kernel)
set_option maxRecDepth 20000 in
theorem gX7_take_X0_add : GoodIn wsX7_take (wsV RX7 60 RX0 yX0_add wsX0_add) := goodIn_app (goodIn_of _ (by decide +kernel)) ggX7_take_X0_add
theorem dX7_take_0 : decode cX7_take 0 = .ok (.aload_n 3, 1) := by decide +kernel
theorem dX7_take_1 : decode cX7_take 1 = .ok (.aload_n 0, 1) := by decide +kernel
theorem dX7_take_2 : decode cX7_take 2 = .ok (.iload_n 1, 1) := by decide +kernel
theorem dX7_take_3 : decode cX7_take 3 = .ok (.iconst 1, 1) := by decide +kernel
theorem dX7_take_4 : decode cX7_take 4 = .ok (.iadd, 1) := by decide +kernel
theorem dX7_take_5 : decode cX7_take 5 = .ok (.invokestatic 24, 3) := by decide +kernel
theorem dX7_take_8 : decode cX7_take 8 = .ok (.invokevirtual 38, 3) := by decide +kernel
theorem dX7_take_11 : decode cX7_take 11 = .ok (.iload_n 1, 1) := by decide +kernel
theorem dX7_take_12 : decode cX7_take 12 = .ok (.iconst 2, 1) := by decide +kernel
theorem dX7_take_13 : decode cX7_take 13 = .ok (.iadd, 1) := by decide +kernel
theorem dX7_take_14 : decode cX7_take 14 = .ok (.istore 5, 2) := by decide +kernel
theorem dX7_take_16 : decode cX7_take 16 = .ok (.iconst 0, 1) := by decide +kernel
theorem dX7_take_17 : decode cX7_take 17 = .ok (.istore 6, 2) := by decide +kernel
theorem dX7_take_19 : decode cX7_take 19 = .ok (.iload 6, 2) := by decide +kernel
theorem dX7_take_21 : decode cX7_take 21 = .ok (.aload_n 3, 1) := by decide +kernel
theorem dX7_take_22 : decode cX7_take 22 = .ok (.getfield 44, 3) := by decide +kernel
theorem dX7_take_25 : decode cX7_take 25 = .ok (.if_icmp .ge 47, 3) := by decide +kernel
theorem dX7_take_28 : decode cX7_take 28 = .ok (.iload 6, 2) := by decide +kernel
theorem dX7_take_30 : decode cX7_take 30 = .ok (.iconst 1, 1) := by decide +kernel
theorem dX7_take_31 : decode cX7_take 31 = .ok (.iadd, 1) := by decide +kernel
theorem dX7_take_32 : decode cX7_take 32 = .ok (.istore 7, 2) := by decide +kernel
theorem dX7_take_34 : decode cX7_take 34 = .ok (.iload 7, 2) := by decide +kernel
theorem dX7_take_36 : decode cX7_take 36 = .ok (.aload_n 3, 1) := by decide +kernel
theorem dX7_take_37 : decode cX7_take 37 = .ok (.getfield 44, 3) := by decide +kernel
theorem dX7_take_40 : decode cX7_take 40 = .ok (.if_icmp .ge 26, 3) := by decide +kernel
theorem dX7_take_43 : decode cX7_take 43 = .ok (.aload_n 3, 1) := by decide +kernel
theorem dX7_take_44 : decode cX7_take 44 = .ok (.iload 6, 2) := by decide +kernel
theorem dX7_take_46 : decode cX7_take 46 = .ok (.iload 7, 2) := by decide +kernel
theorem dX7_take_48 : decode cX7_take 48 = .ok (.aload_n 0, 1) := by decide +kernel
theorem dX7_take_49 : decode cX7_take 49 = .ok (.iload 5, 2) := by decide +kernel
theorem dX7_take_51 : decode cX7_take 51 = .ok (.invokestatic 24, 3) := by decide +kernel
theorem dX7_take_54 : decode cX7_take 54 = .ok (.invokevirtual 48, 3) := by decide +kernel
theorem dX7_take_57 : decode cX7_take 57 = .ok (.iinc 5 1, 3) := by decide +kernel
theorem dX7_take_60 : decode cX7_take 60 = .ok (.iinc 7 1, 3) := by decide +kernel
theorem dX7_take_63 : decode cX7_take 63 = .ok (.goto (-29), 3) := by decide +kernel
theorem dX7_take_66 : decode cX7_take 66 = .ok (.iinc 6 1, 3) := by decide +kernel
theorem dX7_take_69 : decode cX7_take 69 = .ok (.goto (-50), 3) := by decide +kernel
theorem dX7_take_72 : decode cX7_take 72 = .ok (.aload_n 3, 1) := by decide +kernel
theorem dX7_take_73 : decode cX7_take 73 = .ok (.invokevirtual 52, 3) := by decide +kernel
theorem dX7_take_76 : decode cX7_take 76 = .ok (.aload 4, 2) := by decide +kernel
theorem dX7_take_78 : decode cX7_take 78 = .ok (.iconst 0, 1) := by decide +kernel
theorem dX7_take_79 : decode cX7_take 79 = .ok (.putfield 55, 3) := by decide +kernel
theorem dX7_take_82 : decode cX7_take 82 = .ok (.iload 5, 2) := by decide +kernel
theorem dX7_take_84 : decode cX7_take 84 = .ok (.iconst 5, 1) := by decide +kernel
theorem dX7_take_85 : decode cX7_take 85 = .ok (.iadd, 1) := by decide +kernel
theorem dX7_take_86 : decode cX7_take 86 = .ok (.iload_n 1, 1) := by decide +kernel
theorem dX7_take_87 : decode cX7_take 87 = .ok (.iload_n 2, 1) := by decide +kernel
theorem dX7_take_88 : decode cX7_take 88 = .ok (.iadd, 1) := by decide +kernel
theorem dX7_take_89 : decode cX7_take 89 = .ok (.if_icmp .gt 53, 3) := by decide +kernel
theorem dX7_take_92 : decode cX7_take 92 = .ok (.aload_n 0, 1) := by decide +kernel
theorem dX7_take_93 : decode cX7_take 93 = .ok (.iload 5, 2) := by decide +kernel
theorem dX7_take_95 : decode cX7_take 95 = .ok (.iconst 1, 1) := by decide +kernel
theorem dX7_take_96 : decode cX7_take 96 = .ok (.iadd, 1) := by decide +kernel
theorem dX7_take_97 : decode cX7_take 97 = .ok (.invokevirtual 18, 3) := by decide +kernel
theorem dX7_take_100 : decode cX7_take 100 = .ok (.invokestatic 35, 3) := by decide +kernel
theorem dX7_take_103 : decode cX7_take 103 = .ok (.istore 6, 2) := by decide +kernel
theorem dX7_take_105 : decode cX7_take 105 = .ok (.aload 4, 2) := by decide +kernel
theorem dX7_take_107 : decode cX7_take 107 = .ok (.iload 6, 2) := by decide +kernel
theorem dX7_take_109 : decode cX7_take 109 = .ok (.aload_n 0, 1) := by decide +kernel
theorem dX7_take_110 : decode cX7_take 110 = .ok (.iload 5, 2) := by decide +kernel
theorem dX7_take_112 : decode cX7_take 112 = .ok (.iconst 2, 1) := by decide +kernel
theorem dX7_take_113 : decode cX7_take 113 = .ok (.iadd, 1) := by decide +kernel
theorem dX7_take_114 : decode cX7_take 114 = .ok (.invokestatic 24, 3) := by decide +kernel
theorem dX7_take_117 : decode cX7_take 117 = .ok (.aload_n 0, 1) := by decide +kernel
theorem dX7_take_118 : decode cX7_take 118 = .ok (.iload 5, 2) := by decide +kernel
theorem dX7_take_120 : decode cX7_take 120 = .ok (.iconst 3, 1) := by decide +kernel
theorem dX7_take_121 : decode cX7_take 121 = .ok (.iadd, 1) := by decide +kernel
theorem dX7_take_122 : decode cX7_take 122 = .ok (.invokestatic 24, 3) := by decide +kernel
theorem dX7_take_125 : decode cX7_take 125 = .ok (.aload_n 0, 1) := by decide +kernel
theorem dX7_take_126 : decode cX7_take 126 = .ok (.iload 5, 2) := by decide +kernel
theorem dX7_take_128 : decode cX7_take 128 = .ok (.iconst 4, 1) := by decide +kernel
theorem dX7_take_129 : decode cX7_take 129 = .ok (.iadd, 1) := by decide +kernel
theorem dX7_take_130 : decode cX7_take 130 = .ok (.invokestatic 24, 3) := by decide +kernel
theorem dX7_take_133 : decode cX7_take 133 = .ok (.invokevirtual 60, 3) := by decide +kernel
theorem dX7_take_136 : decode cX7_take 136 = .ok (.iinc 5 5, 3) := by decide +kernel
theorem dX7_take_139 : decode cX7_take 139 = .ok (.goto (-57), 3) := by decide +kernel
theorem dX7_take_142 : decode cX7_take 142 = .ok (.return_, 1) := by decide +kernel
theorem dX7_headLength_0 : decode cX7_headLength 0 = .ok (.iconst 2, 1) := by decide +kernel
theorem dX7_headLength_1 : decode cX7_headLength 1 = .ok (.iload_n 0, 1) := by decide +kernel
theorem dX7_headLength_2 : decode cX7_headLength 2 = .ok (.iload_n 0, 1) := by decide +kernel
theorem dX7_headLength_3 : decode cX7_headLength 3 = .ok (.iconst 1, 1) := by decide +kernel
theorem dX7_headLength_4 : decode cX7_headLength 4 = .ok (.isub, 1) := by decide +kernel
theorem dX7_headLength_5 : decode cX7_headLength 5 = .ok (.imul, 1) := by decide +kernel
theorem dX7_headLength_6 : decode cX7_headLength 6 = .ok (.iconst 2, 1) := by decide +kernel
theorem dX7_headLength_7 : decode cX7_headLength 7 = .ok (.idiv, 1) := by decide +kernel
theorem dX7_headLength_8 : decode cX7_headLength 8 = .ok (.iadd, 1) := by decide +kernel
theorem dX7_headLength_9 : decode cX7_headLength 9 = .ok (.ireturn, 1) := by decide +kernel
set_option maxRecDepth 20000 in
theorem ggX7_digit_X5_at : GoodIn wsX7_digit wsX5_at := goodIn_r _ [5, 6, 7, 8, 9, 10] (by decide +kernel) (by decide +kernel)
set_option maxRecDepth 20000 in
theorem gX7_digit_X5_at : GoodIn wsX7_digit (wsV RX7 18 RX5 yX5_at wsX5_at) := goodIn_app (goodIn_of _ (by decide +kernel)) ggX7_digit_X5_at
theorem dX7_digit_0 : decode cX7_digit 0 = .ok (.aload_n 0, 1) := by decide +kernel
theorem dX7_digit_1 : decode cX7_digit 1 = .ok (.iload_n 1, 1) := by decide +kernel
theorem dX7_digit_2 : decode cX7_digit 2 = .ok (.invokevirtual 18, 3) := by decide +kernel
theorem dX7_digit_5 : decode cX7_digit 5 = .ok (.bipush 48, 2) := by decide +kernel
theorem dX7_digit_7 : decode cX7_digit 7 = .ok (.isub, 1) := by decide +kernel
theorem dX7_digit_8 : decode cX7_digit 8 = .ok (.ireturn, 1) := by decide +kernel
theorem dX7_kindOf_0 : decode cX7_kindOf 0 = .ok (.iload_n 0, 1) := by decide +kernel
theorem dX7_kindOf_1 : decode cX7_kindOf 1 = .ok (.lookupswitch 41 #[(98, 35), (109, 37), (112, 39)], 35) := by decide +kernel
theorem dX7_kindOf_36 : decode cX7_kindOf 36 = .ok (.iconst 0, 1) := by decide +kernel
theorem dX7_kindOf_37 : decode cX7_kindOf 37 = .ok (.ireturn, 1) := by decide +kernel
theorem dX7_kindOf_38 : decode cX7_kindOf 38 = .ok (.iconst 1, 1) := by decide +kernel
theorem dX7_kindOf_39 : decode cX7_kindOf 39 = .ok (.ireturn, 1) := by decide +kernel
theorem dX7_kindOf_40 : decode cX7_kindOf 40 = .ok (.iconst 2, 1) := by decide +kernel
theorem dX7_kindOf_41 : decode cX7_kindOf 41 = .ok (.ireturn, 1) := by decide +kernel
theorem dX7_kindOf_42 : decode cX7_kindOf 42 = .ok (.bipush (-9), 2) := by decide +kernel
theorem dX7_kindOf_44 : decode cX7_kindOf 44 = .ok (.ireturn, 1) := by decide +kernel
set_option maxRecDepth 20000 in
theorem ggX8_init_X6_init : GoodIn wsX8_init wsX6_init := goodIn_r _ [32, 33, 2, 3, 34, 35, 36, 37, 38, 93, 94, 95, 96] (by decide +kernel) (by decide +kernel)
set_option maxRecDepth 20000 in
theorem gX8_init_X6_init_n19 : GoodIn wsX8_init (wsX6_init) := ggX8_init_X6_init
set_option maxRecDepth 20000 in
theorem ggX8_init_X0_init : GoodIn wsX8_init wsX0_init := goodIn_r _ [41, 42, 2, 3, 43, 44, 45, 46, 47, 48, 49, 50, 51, 52, 53, 54, 55, 56, 97, 98, 112, 113, 114, 115, 116, 117] (by decide +kernel) (by decide +kernel)
set_option maxRecDepth 20000 in
theorem gX8_init_X0_init : GoodIn wsX8_init (wsX0_init) := ggX8_init_X0_init
set_option maxRecDepth 20000 in
theorem ggX8_init_X4_init : GoodIn wsX8_init wsX4_init := goodIn_r _ [58, 59, 2, 3, 60, 11, 12, 61, 62, 63, 64, 65, 66, 40, 41, 42, 43, 44, 45, 46, 47, 48, 49, 50, 51, 52, 53, 54, 55, 56, 97, 98, 99, 100, 101, 102, 103, 112, 113, 114, 115, 116, 117] (by decide +kernel) (by decide +kernel)
set_option maxRecDepth 20000 in
theorem gX8_init_X4_init_n33 : GoodIn wsX8_init (wsX4_init) := ggX8_init_X4_init
set_option maxRecDepth 20000 in
theorem ggX8_init_X1_init : GoodIn wsX8_init wsX1_init := goodIn_r _ [68, 69, 2, 3, 34, 70, 104] (by decide +kernel) (by decide +kernel)
set_option maxRecDepth 20000 in
theorem gX8_init_X1_init_n40 : GoodIn wsX8_init (wsX1_init) := ggX8_init_X1_init
set_option maxRecDepth 20000 in
theorem ggX8_init_X3_init : GoodIn wsX8_init wsX3_init := goodIn_r _ [72, 73, 2, 3, 34, 74, 75, 76, 77, 105, 106, 107, 108] (by decide +kernel) (by decide +kernel)
set_option maxRecDepth 20000 in
theorem gX8_init_X3_init_n47 : GoodIn wsX8_init (wsX3_init) := ggX8_init_X3_init
set_option maxRecDepth 20000 in
theorem ggX8_init_X5_init : GoodIn wsX8_init wsX5_init := goodIn_r _ [79, 80, 2, 3, 34, 81, 82, 83, 109, 110, 111] (by decide +kernel) (by decide +kernel)
set_option maxRecDepth 20000 in
theorem gX8_init_X5_init_n62 : GoodIn wsX8_init (wsX5_init) := ggX8_init_X5_init
theorem dX8_init_0 : decode cX8_init 0 = .ok (.aload_n 0, 1) := by decide +kernel
theorem dX8_init_1 : decode cX8_init 1 = .ok (.invokespecial 3, 3) := by decide +kernel
theorem dX8_init_4 : decode cX8_init 4 = .ok (.aload_n 0, 1) := by decide +kernel
theorem dX8_init_5 : decode cX8_init 5 = .ok (.iconst 4, 1) := by decide +kernel
theorem dX8_init_6 : decode cX8_init 6 = .ok (.anewarray 11, 3) := by decide +kernel
theorem dX8_init_9 : decode cX8_init 9 = .ok (.putfield 13, 3) := by decide +kernel
theorem dX8_init_12 : decode cX8_init 12 = .ok (.aload_n 0, 1) := by decide +kernel
theorem dX8_init_13 : decode cX8_init 13 = .ok (.new 17, 3) := by decide +kernel
theorem dX8_init_16 : decode cX8_init 16 = .ok (.dup, 1) := by decide +kernel
theorem dX8_init_17 : decode cX8_init 17 = .ok (.invokespecial 19, 3) := by decide +kernel
theorem dX8_init_20 : decode cX8_init 20 = .ok (.putfield 20, 3) := by decide +kernel
theorem dX8_init_23 : decode cX8_init 23 = .ok (.aload_n 0, 1) := by decide +kernel
theorem dX8_init_24 : decode cX8_init 24 = .ok (.new 24, 3) := by decide +kernel
theorem dX8_init_27 : decode cX8_init 27 = .ok (.dup, 1) := by decide +kernel
theorem dX8_init_28 : decode cX8_init 28 = .ok (.invokespecial 26, 3) := by decide +kernel
theorem dX8_init_31 : decode cX8_init 31 = .ok (.putfield 27, 3) := by decide +kernel
theorem dX8_init_34 : decode cX8_init 34 = .ok (.aload_n 0, 1) := by decide +kernel
theorem dX8_init_35 : decode cX8_init 35 = .ok (.new 31, 3) := by decide +kernel
theorem dX8_init_38 : decode cX8_init 38 = .ok (.dup, 1) := by decide +kernel
theorem dX8_init_39 : decode cX8_init 39 = .ok (.invokespecial 33, 3) := by decide +kernel
theorem dX8_init_42 : decode cX8_init 42 = .ok (.putfield 34, 3) := by decide +kernel
theorem dX8_init_45 : decode cX8_init 45 = .ok (.aload_n 0, 1) := by decide +kernel
theorem dX8_init_46 : decode cX8_init 46 = .ok (.new 38, 3) := by decide +kernel
theorem dX8_init_49 : decode cX8_init 49 = .ok (.dup, 1) := by decide +kernel
theorem dX8_init_50 : decode cX8_init 50 = .ok (.invokespecial 40, 3) := by decide +kernel
theorem dX8_init_53 : decode cX8_init 53 = .ok (.putfield 41, 3) := by decide +kernel
theorem dX8_init_56 : decode cX8_init 56 = .ok (.aload_n 0, 1) := by decide +kernel
theorem dX8_init_57 : decode cX8_init 57 = .ok (.new 45, 3) := by decide +kernel
theorem dX8_init_60 : decode cX8_init 60 = .ok (.dup, 1) := by decide +kernel
theorem dX8_init_61 : decode cX8_init 61 = .ok (.invokespecial 47, 3) := by decide +kernel
theorem dX8_init_64 : decode cX8_init 64 = .ok (.putfield 48, 3) := by decide +kernel
theorem dX8_init_67 : decode cX8_init 67 = .ok (.aload_n 0, 1) := by decide +kernel
theorem dX8_init_68 : decode cX8_init 68 = .ok (.iconst 0, 1) := by decide +kernel
theorem dX8_init_69 : decode cX8_init 69 = .ok (.putfield 52, 3) := by decide +kernel
theorem dX8_init_72 : decode cX8_init 72 = .ok (.aload_n 0, 1) := by decide +kernel
theorem dX8_init_73 : decode cX8_init 73 = .ok (.iconst 0, 1) := by decide +kernel
theorem dX8_init_74 : decode cX8_init 74 = .ok (.putfield 56, 3) := by decide +kernel
theorem dX8_init_77 : decode cX8_init 77 = .ok (.aload_n 0, 1) := by decide +kernel
theorem dX8_init_78 : decode cX8_init 78 = .ok (.iconst 0, 1) := by decide +kernel
theorem dX8_init_79 : decode cX8_init 79 = .ok (.putfield 59, 3) := by decide +kernel
theorem dX8_init_82 : decode cX8_init 82 = .ok (.iconst 0, 1) := by decide +kernel
theorem dX8_init_83 : decode cX8_init 83 = .ok (.istore_n 1, 1) := by decide +kernel
theorem dX8_init_84 : decode cX8_init 84 = .ok (.iload_n 1, 1) := by decide +kernel
theorem dX8_init_85 : decode cX8_init 85 = .ok (.iconst 4, 1) := by decide +kernel
theorem dX8_init_86 : decode cX8_init 86 = .ok (.if_icmp .ge 22, 3) := by decide +kernel
theorem dX8_init_89 : decode cX8_init 89 = .ok (.aload_n 0, 1) := by decide +kernel
theorem dX8_init_90 : decode cX8_init 90 = .ok (.getfield 13, 3) := by decide +kernel
theorem dX8_init_93 : decode cX8_init 93 = .ok (.iload_n 1, 1) := by decide +kernel
theorem dX8_init_94 : decode cX8_init 94 = .ok (.new 11, 3) := by decide +kernel
theorem dX8_init_97 : decode cX8_init 97 = .ok (.dup, 1) := by decide +kernel
theorem dX8_init_98 : decode cX8_init 98 = .ok (.invokespecial 62, 3) := by decide +kernel
theorem dX8_init_101 : decode cX8_init 101 = .ok (.aastore, 1) := by decide +kernel
theorem dX8_init_102 : decode cX8_init 102 = .ok (.iinc 1 1, 3) := by decide +kernel
theorem dX8_init_105 : decode cX8_init 105 = .ok (.goto (-21), 3) := by decide +kernel
theorem dX8_init_108 : decode cX8_init 108 = .ok (.return_, 1) := by decide +kernel
set_option maxRecDepth 20000 in
theorem ggX8_town_X8_isSheet : GoodIn wsX8_town wsX8_isSheet := goodIn_r _ [10] (by decide +kernel) (by decide +kernel)
set_option maxRecDepth 20000 in
theorem gX8_town_X8_isSheet : GoodIn wsX8_town (va_wsS RX8 63 yX8_isSheet wsX8_isSheet) := goodIn_app (goodIn_of _ (by decide +kernel)) ggX8_town_X8_isSheet
set_option maxRecDepth 20000 in
theorem ggX8_town_X8_isLane : GoodIn wsX8_town wsX8_isLane := goodIn_r _ [13] (by decide +kernel) (by decide +kernel)
set_option maxRecDepth 20000 in
theorem gX8_town_X8_isLane : GoodIn wsX8_town (va_wsS RX8 67 yX8_isLane wsX8_isLane) := goodIn_app (goodIn_of _ (by decide +kernel)) ggX8_town_X8_isLane
set_option maxRecDepth 20000 in
theorem ggX8_town_X5_faultAsRow : GoodIn wsX8_town wsX5_faultAsRow := goodIn_r _ [18, 19, 20, 21, 22, 17, 23, 24, 25, 26, 27, 28, 125, 126, 127] (by decide +kernel) (by decide +kernel)
set_option maxRecDepth 20000 in
theorem gX8_town_X5_faultAsRow : GoodIn wsX8_town (wsV RX8 70 RX5 yX5_faultAsRow wsX5_faultAsRow) := goodIn_app (goodIn_of _ (by decide +kernel)) ggX8_town_X5_faultAsRow
set_option maxRecDepth 20000 in
theorem ggX8_town_X8_faulted : GoodIn wsX8_town wsX8_faulted := goodIn_r _ [32, 1, 110, 111, 112, 113, 114, 115, 116, 117, 118] (by decide +kernel) (by decide +kernel)
set_option maxRecDepth 20000 in
theorem gX8_town_X8_faulted : GoodIn wsX8_town (wsV RX8 74 RX8 yX8_faulted wsX8_faulted) := goodIn_app (goodIn_of _ (by decide +kernel)) ggX8_town_X8_faulted
set_option maxRecDepth 20000 in
theorem ggX8_town_X7_firstFault : GoodIn wsX8_town wsX7_firstFault := goodIn_r _ [36, 37, 38, 35, 39, 40, 41, 42, 17, 43, 28, 44, 45, 46, 47, 48, 49, 50, 51, 52, 53, 54, 55, 56, 57, 58, 59, 125, 126, 127] (by decide +kernel) (by decide +kernel)
set_option maxRecDepth 20000 in
theorem gX8_town_X7_firstFault : GoodIn wsX8_town (va_wsS RX8 78 yX7_firstFault wsX7_firstFault) := goodIn_app (goodIn_of _ (by decide +kernel)) ggX8_town_X7_firstFault
set_option maxRecDepth 20000 in
theorem ggX8_town_X7_take : GoodIn wsX8_town wsX7_take := goodIn_r _ [62, 45, 46, 35, 47, 40, 41, 42, 17, 43, 28, 44, 63, 64, 65, 66, 67, 68, 69, 70, 71, 72, 73, 74, 75, 76, 77, 78, 79, 80, 81, 82, 83, 84, 85, 86, 87, 88, 89, 90, 91, 92, 93, 94, 95, 96, 97, 98, 99, 100, 101, 102, 54, 55, 56, 103, 104, 105, 106, 107, 108, 109, 128, 129, 130, 131, 123, 124, 125, 126, 127, 132, 133, 134, 135, 136, 137] (by decide +kernel) (by decide +kernel)
set_option maxRecDepth 20000 in
theorem gX8_town_X7_take : GoodIn wsX8_town (va_wsS RX8 84 yX7_take wsX7_take) := goodIn_app (goodIn_of _ (by decide +kernel)) ggX8_town_X7_take
theorem dX8_town_0 : decode cX8_town 0 = .ok (.aload_n 0, 1) := by decide +kernel
theorem dX8_town_1 : decode cX8_town 1 = .ok (.iconst 0, 1) := by decide +kernel
theorem dX8_town_2 : decode cX8_town 2 = .ok (.putfield 59, 3) := by decide +kernel
theorem dX8_town_5 : decode cX8_town 5 = .ok (.iload_n 1, 1) := by decide +kernel
theorem dX8_town_6 : decode cX8_town 6 = .ok (.invokestatic 63, 3) := by decide +kernel
theorem dX8_town_9 : decode cX8_town 9 = .ok (.ifCond .ne 5, 3) := by decide +kernel
theorem dX8_town_12 : decode cX8_town 12 = .ok (.iconst (-1), 1) := by decide +kernel
theorem dX8_town_13 : decode cX8_town 13 = .ok (.ireturn, 1) := by decide +kernel
theorem dX8_town_14 : decode cX8_town 14 = .ok (.iload_n 2, 1) := by decide +kernel
theorem dX8_town_15 : decode cX8_town 15 = .ok (.invokestatic 67, 3) := by decide +kernel
theorem dX8_town_18 : decode cX8_town 18 = .ok (.ifCond .ne 6, 3) := by decide +kernel
theorem dX8_town_21 : decode cX8_town 21 = .ok (.bipush (-2), 2) := by decide +kernel
theorem dX8_town_23 : decode cX8_town 23 = .ok (.ireturn, 1) := by decide +kernel
theorem dX8_town_24 : decode cX8_town 24 = .ok (.aload_n 0, 1) := by decide +kernel
theorem dX8_town_25 : decode cX8_town 25 = .ok (.getfield 13, 3) := by decide +kernel
theorem dX8_town_28 : decode cX8_town 28 = .ok (.iload_n 1, 1) := by decide +kernel
theorem dX8_town_29 : decode cX8_town 29 = .ok (.aaload, 1) := by decide +kernel
theorem dX8_town_30 : decode cX8_town 30 = .ok (.astore 5, 2) := by decide +kernel
theorem dX8_town_32 : decode cX8_town 32 = .ok (.aload 5, 2) := by decide +kernel
theorem dX8_town_34 : decode cX8_town 34 = .ok (.iload_n 2, 1) := by decide +kernel
theorem dX8_town_35 : decode cX8_town 35 = .ok (.iload_n 3, 1) := by decide +kernel
theorem dX8_town_36 : decode cX8_town 36 = .ok (.iload 4, 2) := by decide +kernel
theorem dX8_town_38 : decode cX8_town 38 = .ok (.invokevirtual 70, 3) := by decide +kernel
theorem dX8_town_41 : decode cX8_town 41 = .ok (.istore 6, 2) := by decide +kernel
theorem dX8_town_43 : decode cX8_town 43 = .ok (.iload 6, 2) := by decide +kernel
theorem dX8_town_45 : decode cX8_town 45 = .ok (.ifCond .eq 10, 3) := by decide +kernel
theorem dX8_town_48 : decode cX8_town 48 = .ok (.aload_n 0, 1) := by decide +kernel
theorem dX8_town_49 : decode cX8_town 49 = .ok (.iload 6, 2) := by decide +kernel
theorem dX8_town_51 : decode cX8_town 51 = .ok (.invokevirtual 74, 3) := by decide +kernel
theorem dX8_town_54 : decode cX8_town 54 = .ok (.ireturn, 1) := by decide +kernel
theorem dX8_town_55 : decode cX8_town 55 = .ok (.aload 5, 2) := by decide +kernel
theorem dX8_town_57 : decode cX8_town 57 = .ok (.iload_n 3, 1) := by decide +kernel
theorem dX8_town_58 : decode cX8_town 58 = .ok (.iload 4, 2) := by decide +kernel
theorem dX8_town_60 : decode cX8_town 60 = .ok (.invokestatic 78, 3) := by decide +kernel
theorem dX8_town_63 : decode cX8_town 63 = .ok (.istore 7, 2) := by decide +kernel
theorem dX8_town_65 : decode cX8_town 65 = .ok (.iload 7, 2) := by decide +kernel
theorem dX8_town_67 : decode cX8_town 67 = .ok (.bipush (-9), 2) := by decide +kernel
theorem dX8_town_69 : decode cX8_town 69 = .ok (.if_icmp .eq 9, 3) := by decide +kernel
theorem dX8_town_72 : decode cX8_town 72 = .ok (.bipush (-100), 2) := by decide +kernel
theorem dX8_town_74 : decode cX8_town 74 = .ok (.iload 7, 2) := by decide +kernel
theorem dX8_town_76 : decode cX8_town 76 = .ok (.isub, 1) := by decide +kernel
theorem dX8_town_77 : decode cX8_town 77 = .ok (.ireturn, 1) := by decide +kernel
theorem dX8_town_78 : decode cX8_town 78 = .ok (.aload 5, 2) := by decide +kernel
theorem dX8_town_80 : decode cX8_town 80 = .ok (.iload_n 3, 1) := by decide +kernel
theorem dX8_town_81 : decode cX8_town 81 = .ok (.iload 4, 2) := by decide +kernel
theorem dX8_town_83 : decode cX8_town 83 = .ok (.aload_n 0, 1) := by decide +kernel
theorem dX8_town_84 : decode cX8_town 84 = .ok (.getfield 20, 3) := by decide +kernel
theorem dX8_town_87 : decode cX8_town 87 = .ok (.aload_n 0, 1) := by decide +kernel
theorem dX8_town_88 : decode cX8_town 88 = .ok (.getfield 27, 3) := by decide +kernel
theorem dX8_town_91 : decode cX8_town 91 = .ok (.invokestatic 84, 3) := by decide +kernel
theorem dX8_town_94 : decode cX8_town 94 = .ok (.aload_n 0, 1) := by decide +kernel
theorem dX8_town_95 : decode cX8_town 95 = .ok (.getfield 48, 3) := by decide +kernel
theorem dX8_town_98 : decode cX8_town 98 = .ok (.iconst 0, 1) := by decide +kernel
theorem dX8_town_99 : decode cX8_town 99 = .ok (.putfield 88, 3) := by decide +kernel
theorem dX8_town_102 : decode cX8_town 102 = .ok (.aload_n 0, 1) := by decide +kernel
theorem dX8_town_103 : decode cX8_town 103 = .ok (.iconst 0, 1) := by decide +kernel
theorem dX8_town_104 : decode cX8_town 104 = .ok (.putfield 52, 3) := by decide +kernel
theorem dX8_town_107 : decode cX8_town 107 = .ok (.aload_n 0, 1) := by decide +kernel
theorem dX8_town_108 : decode cX8_town 108 = .ok (.getfield 27, 3) := by decide +kernel
theorem dX8_town_111 : decode cX8_town 111 = .ok (.getfield 91, 3) := by decide +kernel
theorem dX8_town_114 : decode cX8_town 114 = .ok (.ireturn, 1) := by decide +kernel
set_option maxRecDepth 20000 in
theorem ggX8_ofFootman_X0_has : GoodIn wsX8_ofFootman wsX0_has := goodIn_r _ [7, 8, 47, 48] (by decide +kernel) (by decide +kernel)
set_option maxRecDepth 20000 in
theorem gX8_ofFootman_X0_has : GoodIn wsX8_ofFootman (wsV RX8 92 RX0 yX0_has wsX0_has) := goodIn_app (goodIn_of _ (by decide +kernel)) ggX8_ofFootman_X0_has
set_option maxRecDepth 20000 in
theorem ggX8_ofFootman_X2_pace : GoodIn wsX8_ofFootman wsX2_pace := goodIn_r _ [13, 14, 15, 16, 17, 18, 49, 50, 51, 52, 53, 54] (by decide +kernel) (by decide +kernel)
set_option maxRecDepth 20000 in
theorem gX8_ofFootman_X2_pace : GoodIn wsX8_ofFootman (wsV RX8 113 RX2 yX2_pace wsX2_pace) := goodIn_app (goodIn_of _ (by decide +kernel)) ggX8_ofFootman_X2_pace
set_option maxRecDepth 20000 in
theorem ggX8_ofFootman_X2_hasArrived : GoodIn wsX8_ofFootman wsX2_hasArrived := goodIn_r _ [22, 23, 24, 25, 26, 27, 28, 29, 30, 31, 32, 33, 34, 35, 36, 37, 49, 50, 51, 52, 53, 54, 55, 56, 57, 58] (by decide +kernel) (by decide +kernel)
set_option maxRecDepth 20000 in
theorem gX8_ofFootman_X2_hasArrived : GoodIn wsX8_ofFootman (wsV RX8 124 RX2 yX2_hasArrived wsX2_hasArrived) := goodIn_app (goodIn_of _ (by decide +kernel)) ggX8_ofFootman_X2_hasArrived
theorem dX8_ofFootman_0 : decode cX8_ofFootman 0 = .ok (.aload_n 0, 1) := by decide +kernel
theorem dX8_ofFootman_1 : decode cX8_ofFootman 1 = .ok (.getfield 27, 3) := by decide +kernel
theorem dX8_ofFootman_4 : decode cX8_ofFootman 4 = .ok (.iload_n 1, 1) := by decide +kernel
theorem dX8_ofFootman_5 : decode cX8_ofFootman 5 = .ok (.invokevirtual 92, 3) := by decide +kernel
theorem dX8_ofFootman_8 : decode cX8_ofFootman 8 = .ok (.ifCond .ne 5, 3) := by decide +kernel
theorem dX8_ofFootman_11 : decode cX8_ofFootman 11 = .ok (.iconst (-1), 1) := by decide +kernel
theorem dX8_ofFootman_12 : decode cX8_ofFootman 12 = .ok (.ireturn, 1) := by decide +kernel
theorem dX8_ofFootman_13 : decode cX8_ofFootman 13 = .ok (.aload_n 0, 1) := by decide +kernel
theorem dX8_ofFootman_14 : decode cX8_ofFootman 14 = .ok (.getfield 27, 3) := by decide +kernel
theorem dX8_ofFootman_17 : decode cX8_ofFootman 17 = .ok (.getfield 95, 3) := by decide +kernel
theorem dX8_ofFootman_20 : decode cX8_ofFootman 20 = .ok (.iload_n 1, 1) := by decide +kernel
theorem dX8_ofFootman_21 : decode cX8_ofFootman 21 = .ok (.aaload, 1) := by decide +kernel
theorem dX8_ofFootman_22 : decode cX8_ofFootman 22 = .ok (.astore_n 3, 1) := by decide +kernel
theorem dX8_ofFootman_23 : decode cX8_ofFootman 23 = .ok (.iload_n 2, 1) := by decide +kernel
theorem dX8_ofFootman_24 : decode cX8_ofFootman 24 = .ok (.tableswitch 108 0 7 #[48, 53, 58, 63, 68, 73, 78, 91], 48) := by decide +kernel
theorem dX8_ofFootman_72 : decode cX8_ofFootman 72 = .ok (.aload_n 3, 1) := by decide +kernel
theorem dX8_ofFootman_73 : decode cX8_ofFootman 73 = .ok (.getfield 99, 3) := by decide +kernel
theorem dX8_ofFootman_76 : decode cX8_ofFootman 76 = .ok (.ireturn, 1) := by decide +kernel
theorem dX8_ofFootman_77 : decode cX8_ofFootman 77 = .ok (.aload_n 3, 1) := by decide +kernel
theorem dX8_ofFootman_78 : decode cX8_ofFootman 78 = .ok (.getfield 104, 3) := by decide +kernel
theorem dX8_ofFootman_81 : decode cX8_ofFootman 81 = .ok (.ireturn, 1) := by decide +kernel
theorem dX8_ofFootman_82 : decode cX8_ofFootman 82 = .ok (.aload_n 3, 1) := by decide +kernel
theorem dX8_ofFootman_83 : decode cX8_ofFootman 83 = .ok (.getfield 107, 3) := by decide +kernel
theorem dX8_ofFootman_86 : decode cX8_ofFootman 86 = .ok (.ireturn, 1) := by decide +kernel
theorem dX8_ofFootman_87 : decode cX8_ofFootman 87 = .ok (.aload_n 3, 1) := by decide +kernel
theorem dX8_ofFootman_88 : decode cX8_ofFootman 88 = .ok (.getfield 110, 3) := by decide +kernel
theorem dX8_ofFootman_91 : decode cX8_ofFootman 91 = .ok (.ireturn, 1) := by decide +kernel
theorem dX8_ofFootman_92 : decode cX8_ofFootman 92 = .ok (.aload_n 3, 1) := by decide +kernel
theorem dX8_ofFootman_93 : decode cX8_ofFootman 93 = .ok (.invokevirtual 113, 3) := by decide +kernel
theorem dX8_ofFootman_96 : decode cX8_ofFootman 96 = .ok (.ireturn, 1) := by decide +kernel
theorem dX8_ofFootman_97 : decode cX8_ofFootman 97 = .ok (.aload_n 3, 1) := by decide +kernel
theorem dX8_ofFootman_98 : decode cX8_ofFootman 98 = .ok (.getfield 117, 3) := by decide +kernel
theorem dX8_ofFootman_101 : decode cX8_ofFootman 101 = .ok (.ireturn, 1) := by decide +kernel
theorem dX8_ofFootman_102 : decode cX8_ofFootman 102 = .ok (.aload_n 3, 1) := by decide +kernel
theorem dX8_ofFootman_103 : decode cX8_ofFootman 103 = .ok (.getfield 120, 3) := by decide +kernel
theorem dX8_ofFootman_106 : decode cX8_ofFootman 106 = .ok (.ifCond .eq 7, 3) := by decide +kernel
theorem dX8_ofFootman_109 : decode cX8_ofFootman 109 = .ok (.iconst 1, 1) := by decide +kernel
theorem dX8_ofFootman_110 : decode cX8_ofFootman 110 = .ok (.goto 4, 3) := by decide +kernel
theorem dX8_ofFootman_113 : decode cX8_ofFootman 113 = .ok (.iconst 0, 1) := by decide +kernel
theorem dX8_ofFootman_114 : decode cX8_ofFootman 114 = .ok (.ireturn, 1) := by decide +kernel
theorem dX8_ofFootman_115 : decode cX8_ofFootman 115 = .ok (.aload_n 3, 1) := by decide +kernel
theorem dX8_ofFootman_116 : decode cX8_ofFootman 116 = .ok (.aload_n 0, 1) := by decide +kernel
theorem dX8_ofFootman_117 : decode cX8_ofFootman 117 = .ok (.getfield 20, 3) := by decide +kernel
theorem dX8_ofFootman_120 : decode cX8_ofFootman 120 = .ok (.invokevirtual 124, 3) := by decide +kernel
theorem dX8_ofFootman_123 : decode cX8_ofFootman 123 = .ok (.ifCond .eq 7, 3) := by decide +kernel
theorem dX8_ofFootman_126 : decode cX8_ofFootman 126 = .ok (.iconst 1, 1) := by decide +kernel
theorem dX8_ofFootman_127 : decode cX8_ofFootman 127 = .ok (.goto 4, 3) := by decide +kernel
theorem dX8_ofFootman_130 : decode cX8_ofFootman 130 = .ok (.iconst 0, 1) := by decide +kernel
theorem dX8_ofFootman_131 : decode cX8_ofFootman 131 = .ok (.ireturn, 1) := by decide +kernel
theorem dX8_ofFootman_132 : decode cX8_ofFootman 132 = .ok (.bipush (-2), 2) := by decide +kernel
theorem dX8_ofFootman_134 : decode cX8_ofFootman 134 = .ok (.ireturn, 1) := by decide +kernel
set_option maxRecDepth 20000 in
theorem ggX8_street_X6_hasTwo : GoodIn wsX8_street wsX6_hasTwo := goodIn_r _ [6, 7, 8, 9, 5, 10, 11, 26, 27, 28, 29] (by decide +kernel) (by decide +kernel)
set_option maxRecDepth 20000 in
theorem gX8_street_X6_hasTwo : GoodIn wsX8_street (wsV RX8 128 RX6 yX6_hasTwo wsX6_hasTwo) := goodIn_app (goodIn_of _ (by decide +kernel)) ggX8_street_X6_hasTwo
set_option maxRecDepth 20000 in
theorem ggX8_street_X6_length : GoodIn wsX8_street wsX6_length := goodIn_r _ [15, 16, 7, 8, 9, 5, 10, 11, 26, 27, 28, 29] (by decide +kernel) (by decide +kernel)
set_option maxRecDepth 20000 in
theorem gX8_street_X6_length : GoodIn wsX8_street (wsV RX8 132 RX6 yX6_length wsX6_length) := goodIn_app (goodIn_of _ (by decide +kernel)) ggX8_street_X6_length
theorem dX8_street_0 : decode cX8_street 0 = .ok (.aload_n 0, 1) := by decide +kernel
theorem dX8_street_1 : decode cX8_street 1 = .ok (.getfield 20, 3) := by decide +kernel
theorem dX8_street_4 : decode cX8_street 4 = .ok (.iload_n 1, 1) := by decide +kernel
theorem dX8_street_5 : decode cX8_street 5 = .ok (.iload_n 2, 1) := by decide +kernel
theorem dX8_street_6 : decode cX8_street 6 = .ok (.invokevirtual 128, 3) := by decide +kernel
theorem dX8_street_9 : decode cX8_street 9 = .ok (.ifCond .ne 5, 3) := by decide +kernel
theorem dX8_street_12 : decode cX8_street 12 = .ok (.iconst (-1), 1) := by decide +kernel
theorem dX8_street_13 : decode cX8_street 13 = .ok (.ireturn, 1) := by decide +kernel
theorem dX8_street_14 : decode cX8_street 14 = .ok (.aload_n 0, 1) := by decide +kernel
theorem dX8_street_15 : decode cX8_street 15 = .ok (.getfield 20, 3) := by decide +kernel
theorem dX8_street_18 : decode cX8_street 18 = .ok (.iload_n 1, 1) := by decide +kernel
theorem dX8_street_19 : decode cX8_street 19 = .ok (.iload_n 2, 1) := by decide +kernel
theorem dX8_street_20 : decode cX8_street 20 = .ok (.invokevirtual 132, 3) := by decide +kernel
theorem dX8_street_23 : decode cX8_street 23 = .ok (.ireturn, 1) := by decide +kernel
set_option maxRecDepth 20000 in
theorem ggX8_pave_X6_hasTwo : GoodIn wsX8_pave wsX6_hasTwo := goodIn_r _ [6, 7, 8, 9, 5, 10, 11, 42, 43, 44, 45] (by decide +kernel) (by decide +kernel)
set_option maxRecDepth 20000 in
theorem gX8_pave_X6_hasTwo : GoodIn wsX8_pave (wsV RX8 128 RX6 yX6_hasTwo wsX6_hasTwo) := goodIn_app (goodIn_of _ (by decide +kernel)) ggX8_pave_X6_hasTwo
set_option maxRecDepth 20000 in
theorem ggX8_pave_X6_length : GoodIn wsX8_pave wsX6_length := goodIn_r _ [15, 16, 7, 8, 9, 5, 10, 11, 42, 43, 44, 45] (by decide +kernel) (by decide +kernel)
set_option maxRecDepth 20000 in
theorem gX8_pave_X6_length : GoodIn wsX8_pave (wsV RX8 132 RX6 yX6_length wsX6_length) := goodIn_app (goodIn_of _ (by decide +kernel)) ggX8_pave_X6_length
set_option maxRecDepth 20000 in
theorem ggX8_pave_X6_lay : GoodIn wsX8_pave wsX6_lay := goodIn_r _ [20, 16, 21, 3, 4, 5, 6, 7, 8, 9, 10, 11, 42, 43, 44, 45] (by decide +kernel) (by decide +kernel)
set_option maxRecDepth 20000 in
theorem gX8_pave_X6_lay : GoodIn wsX8_pave (wsV RX8 136 RX6 yX6_lay wsX6_lay) := goodIn_app (goodIn_of _ (by decide +kernel)) ggX8_pave_X6_lay
set_option maxRecDepth 20000 in
theorem ggX8_pave_X6_measure : GoodIn wsX8_pave wsX6_measure := goodIn_r _ [25, 11, 26, 27, 28, 13, 14, 5, 15, 16, 7, 8, 9, 10, 29, 30, 31, 32, 42, 43, 44, 45] (by decide +kernel) (by decide +kernel)
set_option maxRecDepth 20000 in
theorem gX8_pave_X6_measure : GoodIn wsX8_pave (wsV RX8 140 RX6 yX6_measure wsX6_measure) := goodIn_app (goodIn_of _ (by decide +kernel)) ggX8_pave_X6_measure
theorem dX8_pave_0 : decode cX8_pave 0 = .ok (.aload_n 0, 1) := by decide +kernel
theorem dX8_pave_1 : decode cX8_pave 1 = .ok (.getfield 20, 3) := by decide +kernel
theorem dX8_pave_4 : decode cX8_pave 4 = .ok (.iload_n 1, 1) := by decide +kernel
theorem dX8_pave_5 : decode cX8_pave 5 = .ok (.iload_n 2, 1) := by decide +kernel
theorem dX8_pave_6 : decode cX8_pave 6 = .ok (.invokevirtual 128, 3) := by decide +kernel
theorem dX8_pave_9 : decode cX8_pave 9 = .ok (.ifCond .ne 5, 3) := by decide +kernel
theorem dX8_pave_12 : decode cX8_pave 12 = .ok (.iconst (-1), 1) := by decide +kernel
theorem dX8_pave_13 : decode cX8_pave 13 = .ok (.ireturn, 1) := by decide +kernel
theorem dX8_pave_14 : decode cX8_pave 14 = .ok (.iload_n 3, 1) := by decide +kernel
theorem dX8_pave_15 : decode cX8_pave 15 = .ok (.ifCond .lt 9, 3) := by decide +kernel
theorem dX8_pave_18 : decode cX8_pave 18 = .ok (.iload_n 3, 1) := by decide +kernel
theorem dX8_pave_19 : decode cX8_pave 19 = .ok (.bipush 9, 2) := by decide +kernel
theorem dX8_pave_21 : decode cX8_pave 21 = .ok (.if_icmp .le 6, 3) := by decide +kernel
theorem dX8_pave_24 : decode cX8_pave 24 = .ok (.bipush (-2), 2) := by decide +kernel
theorem dX8_pave_26 : decode cX8_pave 26 = .ok (.ireturn, 1) := by decide +kernel
theorem dX8_pave_27 : decode cX8_pave 27 = .ok (.aload_n 0, 1) := by decide +kernel
theorem dX8_pave_28 : decode cX8_pave 28 = .ok (.getfield 20, 3) := by decide +kernel
theorem dX8_pave_31 : decode cX8_pave 31 = .ok (.iload_n 1, 1) := by decide +kernel
theorem dX8_pave_32 : decode cX8_pave 32 = .ok (.iload_n 2, 1) := by decide +kernel
theorem dX8_pave_33 : decode cX8_pave 33 = .ok (.invokevirtual 132, 3) := by decide +kernel
theorem dX8_pave_36 : decode cX8_pave 36 = .ok (.istore 4, 2) := by decide +kernel
theorem dX8_pave_38 : decode cX8_pave 38 = .ok (.aload_n 0, 1) := by decide +kernel
theorem dX8_pave_39 : decode cX8_pave 39 = .ok (.getfield 20, 3) := by decide +kernel
theorem dX8_pave_42 : decode cX8_pave 42 = .ok (.iload_n 1, 1) := by decide +kernel
theorem dX8_pave_43 : decode cX8_pave 43 = .ok (.iload_n 2, 1) := by decide +kernel
theorem dX8_pave_44 : decode cX8_pave 44 = .ok (.iload_n 3, 1) := by decide +kernel
theorem dX8_pave_45 : decode cX8_pave 45 = .ok (.invokevirtual 136, 3) := by decide +kernel
theorem dX8_pave_48 : decode cX8_pave 48 = .ok (.aload_n 0, 1) := by decide +kernel
theorem dX8_pave_49 : decode cX8_pave 49 = .ok (.getfield 20, 3) := by decide +kernel
theorem dX8_pave_52 : decode cX8_pave 52 = .ok (.invokevirtual 140, 3) := by decide +kernel
theorem dX8_pave_55 : decode cX8_pave 55 = .ok (.iload 4, 2) := by decide +kernel
theorem dX8_pave_57 : decode cX8_pave 57 = .ok (.ireturn, 1) := by decide +kernel
set_option maxRecDepth 20000 in
theorem ggX8_far_X6_has : GoodIn wsX8_far wsX6_has := goodIn_r _ [6, 7, 24, 25, 26, 27] (by decide +kernel) (by decide +kernel)
set_option maxRecDepth 20000 in
theorem gX8_far_X6_has : GoodIn wsX8_far (wsV RX8 143 RX6 yX6_has wsX6_has) := goodIn_app (goodIn_of _ (by decide +kernel)) ggX8_far_X6_has
set_option maxRecDepth 20000 in
theorem ggX8_far_X6_distance : GoodIn wsX8_far wsX6_distance := goodIn_r _ [11, 12, 13, 14, 3, 4, 5, 6, 7, 24, 25, 26, 27] (by decide +kernel) (by decide +kernel)
set_option maxRecDepth 20000 in
theorem gX8_far_X6_distance : GoodIn wsX8_far (wsV RX8 144 RX6 yX6_distance wsX6_distance) := goodIn_app (goodIn_of _ (by decide +kernel)) ggX8_far_X6_distance
theorem dX8_far_0 : decode cX8_far 0 = .ok (.aload_n 0, 1) := by decide +kernel
theorem dX8_far_1 : decode cX8_far 1 = .ok (.getfield 20, 3) := by decide +kernel
theorem dX8_far_4 : decode cX8_far 4 = .ok (.iload_n 1, 1) := by decide +kernel
theorem dX8_far_5 : decode cX8_far 5 = .ok (.invokevirtual 143, 3) := by decide +kernel
theorem dX8_far_8 : decode cX8_far 8 = .ok (.ifCond .eq 14, 3) := by decide +kernel
theorem dX8_far_11 : decode cX8_far 11 = .ok (.aload_n 0, 1) := by decide +kernel
theorem dX8_far_12 : decode cX8_far 12 = .ok (.getfield 20, 3) := by decide +kernel
theorem dX8_far_15 : decode cX8_far 15 = .ok (.iload_n 2, 1) := by decide +kernel
theorem dX8_far_16 : decode cX8_far 16 = .ok (.invokevirtual 143, 3) := by decide +kernel
theorem dX8_far_19 : decode cX8_far 19 = .ok (.ifCond .ne 5, 3) := by decide +kernel
theorem dX8_far_22 : decode cX8_far 22 = .ok (.iconst (-1), 1) := by decide +kernel
theorem dX8_far_23 : decode cX8_far 23 = .ok (.ireturn, 1) := by decide +kernel
theorem dX8_far_24 : decode cX8_far 24 = .ok (.aload_n 0, 1) := by decide +kernel
theorem dX8_far_25 : decode cX8_far 25 = .ok (.getfield 20, 3) := by decide +kernel
theorem dX8_far_28 : decode cX8_far 28 = .ok (.iload_n 1, 1) := by decide +kernel
theorem dX8_far_29 : decode cX8_far 29 = .ok (.iload_n 2, 1) := by decide +kernel
theorem dX8_far_30 : decode cX8_far 30 = .ok (.invokevirtual 144, 3) := by decide +kernel
theorem dX8_far_33 : decode cX8_far 33 = .ok (.ireturn, 1) := by decide +kernel
set_option maxRecDepth 20000 in
theorem ggX8_days_X8_hasTown : GoodIn wsX8_days wsX8_hasTown := goodIn_r _ [8, 2, 48, 49, 50, 51, 52, 53, 54, 55, 56, 57, 58, 59, 60] (by decide +kernel) (by decide +kernel)
set_option maxRecDepth 20000 in
theorem gX8_days_X8_hasTown : GoodIn wsX8_days (wsV RX8 147 RX8 yX8_hasTown wsX8_hasTown) := goodIn_app (goodIn_of _ (by decide +kernel)) ggX8_days_X8_hasTown
set_option maxRecDepth 20000 in
theorem ggX8_days_X0_countArrived : GoodIn wsX8_days wsX0_countArrived := goodIn_r _ [13, 14, 15, 16, 17, 18, 19, 20, 21, 22, 23, 24, 25, 26, 27, 28, 29, 30, 31, 32, 33, 34, 35, 61, 62, 63, 64, 65, 66, 67, 68, 57, 58, 59, 60] (by decide +kernel) (by decide +kernel)
set_option maxRecDepth 20000 in
theorem gX8_days_X0_countArrived : GoodIn wsX8_days (wsV RX8 151 RX0 yX0_countArrived wsX0_countArrived) := goodIn_app (goodIn_of _ (by decide +kernel)) ggX8_days_X0_countArrived
set_option maxRecDepth 20000 in
theorem ggX8_days_X0_passDay : GoodIn wsX8_days wsX0_passDay := goodIn_r _ [39, 14, 15, 16, 17, 18, 19, 20, 21, 22, 23, 24, 25, 26, 27, 28, 29, 30, 31, 32, 33, 34, 35, 40, 41, 42, 43, 44, 45, 46, 7, 47, 61, 62, 63, 64, 65, 66, 67, 68, 57, 58, 59, 60] (by decide +kernel) (by decide +kernel)
set_option maxRecDepth 20000 in
theorem gX8_days_X0_passDay : GoodIn wsX8_days (wsV RX8 155 RX0 yX0_passDay wsX0_passDay) := goodIn_app (goodIn_of _ (by decide +kernel)) ggX8_days_X0_passDay
theorem dX8_days_0 : decode cX8_days 0 = .ok (.iload_n 1, 1) := by decide +kernel
theorem dX8_days_1 : decode cX8_days 1 = .ok (.iconst 1, 1) := by decide +kernel
theorem dX8_days_2 : decode cX8_days 2 = .ok (.if_icmp .lt 9, 3) := by decide +kernel
theorem dX8_days_5 : decode cX8_days 5 = .ok (.iload_n 1, 1) := by decide +kernel
theorem dX8_days_6 : decode cX8_days 6 = .ok (.bipush 99, 2) := by decide +kernel
theorem dX8_days_8 : decode cX8_days 8 = .ok (.if_icmp .le 6, 3) := by decide +kernel
theorem dX8_days_11 : decode cX8_days 11 = .ok (.bipush (-2), 2) := by decide +kernel
theorem dX8_days_13 : decode cX8_days 13 = .ok (.ireturn, 1) := by decide +kernel
theorem dX8_days_14 : decode cX8_days 14 = .ok (.aload_n 0, 1) := by decide +kernel
theorem dX8_days_15 : decode cX8_days 15 = .ok (.invokevirtual 147, 3) := by decide +kernel
theorem dX8_days_18 : decode cX8_days 18 = .ok (.ifCond .ne 6, 3) := by decide +kernel
theorem dX8_days_21 : decode cX8_days 21 = .ok (.bipush (-3), 2) := by decide +kernel
theorem dX8_days_23 : decode cX8_days 23 = .ok (.ireturn, 1) := by decide +kernel
theorem dX8_days_24 : decode cX8_days 24 = .ok (.aload_n 0, 1) := by decide +kernel
theorem dX8_days_25 : decode cX8_days 25 = .ok (.getfield 27, 3) := by decide +kernel
theorem dX8_days_28 : decode cX8_days 28 = .ok (.aload_n 0, 1) := by decide +kernel
theorem dX8_days_29 : decode cX8_days 29 = .ok (.getfield 20, 3) := by decide +kernel
theorem dX8_days_32 : decode cX8_days 32 = .ok (.invokevirtual 151, 3) := by decide +kernel
theorem dX8_days_35 : decode cX8_days 35 = .ok (.istore_n 2, 1) := by decide +kernel
theorem dX8_days_36 : decode cX8_days 36 = .ok (.iconst 0, 1) := by decide +kernel
theorem dX8_days_37 : decode cX8_days 37 = .ok (.istore_n 3, 1) := by decide +kernel
theorem dX8_days_38 : decode cX8_days 38 = .ok (.iload_n 3, 1) := by decide +kernel
theorem dX8_days_39 : decode cX8_days 39 = .ok (.iload_n 1, 1) := by decide +kernel
theorem dX8_days_40 : decode cX8_days 40 = .ok (.if_icmp .ge 20, 3) := by decide +kernel
theorem dX8_days_43 : decode cX8_days 43 = .ok (.aload_n 0, 1) := by decide +kernel
theorem dX8_days_44 : decode cX8_days 44 = .ok (.getfield 27, 3) := by decide +kernel
theorem dX8_days_47 : decode cX8_days 47 = .ok (.aload_n 0, 1) := by decide +kernel
theorem dX8_days_48 : decode cX8_days 48 = .ok (.getfield 20, 3) := by decide +kernel
theorem dX8_days_51 : decode cX8_days 51 = .ok (.invokevirtual 155, 3) := by decide +kernel
theorem dX8_days_54 : decode cX8_days 54 = .ok (.iinc 3 1, 3) := by decide +kernel
theorem dX8_days_57 : decode cX8_days 57 = .ok (.goto (-19), 3) := by decide +kernel
theorem dX8_days_60 : decode cX8_days 60 = .ok (.aload_n 0, 1) := by decide +kernel
theorem dX8_days_61 : decode cX8_days 61 = .ok (.dup, 1) := by decide +kernel
theorem dX8_days_62 : decode cX8_days 62 = .ok (.getfield 52, 3) := by decide +kernel
theorem dX8_days_65 : decode cX8_days 65 = .ok (.iload_n 1, 1) := by decide +kernel
theorem dX8_days_66 : decode cX8_days 66 = .ok (.iadd, 1) := by decide +kernel
theorem dX8_days_67 : decode cX8_days 67 = .ok (.putfield 52, 3) := by decide +kernel
theorem dX8_days_70 : decode cX8_days 70 = .ok (.aload_n 0, 1) := by decide +kernel
theorem dX8_days_71 : decode cX8_days 71 = .ok (.getfield 27, 3) := by decide +kernel
theorem dX8_days_74 : decode cX8_days 74 = .ok (.aload_n 0, 1) := by decide +kernel
theorem dX8_days_75 : decode cX8_days 75 = .ok (.getfield 20, 3) := by decide +kernel
theorem dX8_days_78 : decode cX8_days 78 = .ok (.invokevirtual 151, 3) := by decide +kernel
theorem dX8_days_81 : decode cX8_days 81 = .ok (.iload_n 2, 1) := by decide +kernel
theorem dX8_days_82 : decode cX8_days 82 = .ok (.isub, 1) := by decide +kernel
theorem dX8_days_83 : decode cX8_days 83 = .ok (.ireturn, 1) := by decide +kernel
set_option maxRecDepth 20000 in
theorem ggX8_sit_X0_has : GoodIn wsX8_sit wsX0_has := goodIn_r _ [6, 7, 34, 35] (by decide +kernel) (by decide +kernel)
set_option maxRecDepth 20000 in
theorem gX8_sit_X0_has : GoodIn wsX8_sit (wsV RX8 92 RX0 yX0_has wsX0_has) := goodIn_app (goodIn_of _ (by decide +kernel)) ggX8_sit_X0_has
set_option maxRecDepth 20000 in
theorem ggX8_sit_X0_turn : GoodIn wsX8_sit wsX0_turn := goodIn_r _ [11, 12, 13, 3, 4, 5, 6, 7, 34, 35, 36, 37, 38, 39, 40, 41] (by decide +kernel) (by decide +kernel)
set_option maxRecDepth 20000 in
theorem gX8_sit_X0_turn : GoodIn wsX8_sit (wsV RX8 159 RX0 yX0_turn wsX0_turn) := goodIn_app (goodIn_of _ (by decide +kernel)) ggX8_sit_X0_turn
set_option maxRecDepth 20000 in
theorem ggX8_sit_X0_sitters : GoodIn wsX8_sit wsX0_sitters := goodIn_r _ [17, 7, 12, 34, 35, 36, 37, 38, 39, 40, 41] (by decide +kernel) (by decide +kernel)
set_option maxRecDepth 20000 in
theorem gX8_sit_X0_sitters : GoodIn wsX8_sit (wsV RX8 163 RX0 yX0_sitters wsX0_sitters) := goodIn_app (goodIn_of _ (by decide +kernel)) ggX8_sit_X0_sitters
set_option maxRecDepth 20000 in
theorem ggX8_sit_J6_bitCount_0f7a4 : GoodIn wsX8_sit wsJ6_bitCount_0f7a4 := goodIn_r _ [21, 22, 23, 24] (by decide +kernel) (by decide +kernel)
set_option maxRecDepth 20000 in
theorem gX8_sit_J6_bitCount_0f7a4 : GoodIn wsX8_sit (va_wsS RX8 166 yJ6_bitCount_0f7a4 wsJ6_bitCount_0f7a4) := goodIn_app (goodIn_of _ (by decide +kernel)) ggX8_sit_J6_bitCount_0f7a4
theorem dX8_sit_0 : decode cX8_sit 0 = .ok (.aload_n 0, 1) := by decide +kernel
theorem dX8_sit_1 : decode cX8_sit 1 = .ok (.getfield 27, 3) := by decide +kernel
theorem dX8_sit_4 : decode cX8_sit 4 = .ok (.iload_n 1, 1) := by decide +kernel
theorem dX8_sit_5 : decode cX8_sit 5 = .ok (.invokevirtual 92, 3) := by decide +kernel
theorem dX8_sit_8 : decode cX8_sit 8 = .ok (.ifCond .ne 5, 3) := by decide +kernel
theorem dX8_sit_11 : decode cX8_sit 11 = .ok (.iconst (-1), 1) := by decide +kernel
theorem dX8_sit_12 : decode cX8_sit 12 = .ok (.ireturn, 1) := by decide +kernel
theorem dX8_sit_13 : decode cX8_sit 13 = .ok (.aload_n 0, 1) := by decide +kernel
theorem dX8_sit_14 : decode cX8_sit 14 = .ok (.getfield 27, 3) := by decide +kernel
theorem dX8_sit_17 : decode cX8_sit 17 = .ok (.iload_n 1, 1) := by decide +kernel
theorem dX8_sit_18 : decode cX8_sit 18 = .ok (.iconst 1, 1) := by decide +kernel
theorem dX8_sit_19 : decode cX8_sit 19 = .ok (.invokevirtual 159, 3) := by decide +kernel
theorem dX8_sit_22 : decode cX8_sit 22 = .ok (.ifCond .eq 16, 3) := by decide +kernel
theorem dX8_sit_25 : decode cX8_sit 25 = .ok (.aload_n 0, 1) := by decide +kernel
theorem dX8_sit_26 : decode cX8_sit 26 = .ok (.getfield 27, 3) := by decide +kernel
theorem dX8_sit_29 : decode cX8_sit 29 = .ok (.invokevirtual 163, 3) := by decide +kernel
theorem dX8_sit_32 : decode cX8_sit 32 = .ok (.invokestatic 166, 3) := by decide +kernel
theorem dX8_sit_35 : decode cX8_sit 35 = .ok (.goto 5, 3) := by decide +kernel
theorem dX8_sit_38 : decode cX8_sit 38 = .ok (.bipush (-3), 2) := by decide +kernel
theorem dX8_sit_40 : decode cX8_sit 40 = .ok (.ireturn, 1) := by decide +kernel
set_option maxRecDepth 20000 in
theorem ggX8_rise_X0_has : GoodIn wsX8_rise wsX0_has := goodIn_r _ [6, 7, 34, 35] (by decide +kernel) (by decide +kernel)
set_option maxRecDepth 20000 in
theorem gX8_rise_X0_has : GoodIn wsX8_rise (wsV RX8 92 RX0 yX0_has wsX0_has) := goodIn_app (goodIn_of _ (by decide +kernel)) ggX8_rise_X0_has
set_option maxRecDepth 20000 in
theorem ggX8_rise_X0_turn : GoodIn wsX8_rise wsX0_turn := goodIn_r _ [11, 12, 13, 3, 4, 5, 6, 7, 34, 35, 36, 37, 38, 39, 40, 41] (by decide +kernel) (by decide +kernel)
set_option maxRecDepth 20000 in
theorem gX8_rise_X0_turn : GoodIn wsX8_rise (wsV RX8 159 RX0 yX0_turn wsX0_turn) := goodIn_app (goodIn_of _ (by decide +kernel)) ggX8_rise_X0_turn
set_option maxRecDepth 20000 in
theorem ggX8_rise_X0_sitters : GoodIn wsX8_rise wsX0_sitters := goodIn_r _ [17, 7, 12, 34, 35, 36, 37, 38, 39, 40, 41] (by decide +kernel) (by decide +kernel)
set_option maxRecDepth 20000 in
theorem gX8_rise_X0_sitters : GoodIn wsX8_rise (wsV RX8 163 RX0 yX0_sitters wsX0_sitters) := goodIn_app (goodIn_of _ (by decide +kernel)) ggX8_rise_X0_sitters
set_option maxRecDepth 20000 in
theorem ggX8_rise_J6_bitCount_0f7a4 : GoodIn wsX8_rise wsJ6_bitCount_0f7a4 := goodIn_r _ [21, 22, 23, 24] (by decide +kernel) (by decide +kernel)
set_option maxRecDepth 20000 in
theorem gX8_rise_J6_bitCount_0f7a4 : GoodIn wsX8_rise (va_wsS RX8 166 yJ6_bitCount_0f7a4 wsJ6_bitCount_0f7a4) := goodIn_app (goodIn_of _ (by decide +kernel)) ggX8_rise_J6_bitCount_0f7a4
