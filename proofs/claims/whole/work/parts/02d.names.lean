theorem dX9_arrived_31 : decode cX9_arrived 31 = .ok (.goto (-27), 3) := by decide +kernel
theorem dX9_arrived_34 : decode cX9_arrived 34 = .ok (.iload_n 1, 1) := by decide +kernel
theorem dX9_arrived_35 : decode cX9_arrived 35 = .ok (.ireturn, 1) := by decide +kernel
set_option maxRecDepth 20000 in
theorem ggX9_passes_X9_isIn : GoodIn wsX9_passes wsX9_isIn := goodIn_r _ [8] (by decide +kernel) (by decide +kernel)
set_option maxRecDepth 20000 in
theorem gX9_passes_X9_isIn : GoodIn wsX9_passes (va_wsS RX9 179 yX9_isIn wsX9_isIn) := goodIn_app (goodIn_of _ (by decide +kernel)) ggX9_passes_X9_isIn
set_option maxRecDepth 20000 in
theorem ggX9_passes_X9_hasArrived : GoodIn wsX9_passes wsX9_hasArrived := goodIn_r _ [12, 13, 14, 2, 15, 16, 17, 7, 18, 19, 26, 27, 28, 29, 30, 31, 32, 33, 34, 35, 36, 37, 38, 39, 40, 41, 42, 43, 44, 45, 46, 47, 48, 49, 50, 51, 52, 53, 54, 55, 56, 57, 58, 59, 60, 61, 62, 63, 64] (by decide +kernel) (by decide +kernel)
set_option maxRecDepth 20000 in
theorem gX9_passes_X9_hasArrived : GoodIn wsX9_passes (wsV RX9 171 RX9 yX9_hasArrived wsX9_hasArrived) := goodIn_app (goodIn_of _ (by decide +kernel)) ggX9_passes_X9_hasArrived
set_option maxRecDepth 20000 in
theorem ggX9_passes_X9_paceOf : GoodIn wsX9_passes wsX9_paceOf := goodIn_r _ [23, 24, 25, 26, 27, 28, 29, 30, 31, 32, 33, 34, 35, 36, 37, 38, 39, 40, 41, 42, 43, 44, 45, 46, 47, 48, 49, 50, 51, 52, 53, 54, 55, 56, 57, 58, 59, 60, 61, 62, 63, 64] (by decide +kernel) (by decide +kernel)
set_option maxRecDepth 20000 in
theorem gX9_passes_X9_paceOf : GoodIn wsX9_passes (wsV RX9 168 RX9 yX9_paceOf wsX9_paceOf) := goodIn_app (goodIn_of _ (by decide +kernel)) ggX9_passes_X9_paceOf
theorem dX9_passes_0 : decode cX9_passes 0 = .ok (.iconst 0, 1) := by decide +kernel
theorem dX9_passes_1 : decode cX9_passes 1 = .ok (.istore_n 1, 1) := by decide +kernel
theorem dX9_passes_2 : decode cX9_passes 2 = .ok (.iload_n 1, 1) := by decide +kernel
theorem dX9_passes_3 : decode cX9_passes 3 = .ok (.aload_n 0, 1) := by decide +kernel
theorem dX9_passes_4 : decode cX9_passes 4 = .ok (.getfield 92, 3) := by decide +kernel
theorem dX9_passes_7 : decode cX9_passes 7 = .ok (.if_icmp .ge 46, 3) := by decide +kernel
theorem dX9_passes_10 : decode cX9_passes 10 = .ok (.aload_n 0, 1) := by decide +kernel
theorem dX9_passes_11 : decode cX9_passes 11 = .ok (.getfield 28, 3) := by decide +kernel
theorem dX9_passes_14 : decode cX9_passes 14 = .ok (.iload_n 1, 1) := by decide +kernel
theorem dX9_passes_15 : decode cX9_passes 15 = .ok (.dup2, 1) := by decide +kernel
theorem dX9_passes_16 : decode cX9_passes 16 = .ok (.iaload, 1) := by decide +kernel
theorem dX9_passes_17 : decode cX9_passes 17 = .ok (.aload_n 0, 1) := by decide +kernel
theorem dX9_passes_18 : decode cX9_passes 18 = .ok (.getfield 153, 3) := by decide +kernel
theorem dX9_passes_21 : decode cX9_passes 21 = .ok (.iload_n 1, 1) := by decide +kernel
theorem dX9_passes_22 : decode cX9_passes 22 = .ok (.invokestatic 179, 3) := by decide +kernel
theorem dX9_passes_25 : decode cX9_passes 25 = .ok (.ifCond .ne 11, 3) := by decide +kernel
theorem dX9_passes_28 : decode cX9_passes 28 = .ok (.aload_n 0, 1) := by decide +kernel
theorem dX9_passes_29 : decode cX9_passes 29 = .ok (.iload_n 1, 1) := by decide +kernel
theorem dX9_passes_30 : decode cX9_passes 30 = .ok (.invokevirtual 171, 3) := by decide +kernel
theorem dX9_passes_33 : decode cX9_passes 33 = .ok (.ifCond .eq 7, 3) := by decide +kernel
theorem dX9_passes_36 : decode cX9_passes 36 = .ok (.iconst 0, 1) := by decide +kernel
theorem dX9_passes_37 : decode cX9_passes 37 = .ok (.goto 8, 3) := by decide +kernel
theorem dX9_passes_40 : decode cX9_passes 40 = .ok (.aload_n 0, 1) := by decide +kernel
theorem dX9_passes_41 : decode cX9_passes 41 = .ok (.iload_n 1, 1) := by decide +kernel
theorem dX9_passes_42 : decode cX9_passes 42 = .ok (.invokevirtual 168, 3) := by decide +kernel
theorem dX9_passes_45 : decode cX9_passes 45 = .ok (.iadd, 1) := by decide +kernel
theorem dX9_passes_46 : decode cX9_passes 46 = .ok (.iastore, 1) := by decide +kernel
theorem dX9_passes_47 : decode cX9_passes 47 = .ok (.iinc 1 1, 3) := by decide +kernel
theorem dX9_passes_50 : decode cX9_passes 50 = .ok (.goto (-48), 3) := by decide +kernel
theorem dX9_passes_53 : decode cX9_passes 53 = .ok (.aload_n 0, 1) := by decide +kernel
theorem dX9_passes_54 : decode cX9_passes 54 = .ok (.dup, 1) := by decide +kernel
theorem dX9_passes_55 : decode cX9_passes 55 = .ok (.getfield 150, 3) := by decide +kernel
theorem dX9_passes_58 : decode cX9_passes 58 = .ok (.iconst 1, 1) := by decide +kernel
theorem dX9_passes_59 : decode cX9_passes 59 = .ok (.iadd, 1) := by decide +kernel
theorem dX9_passes_60 : decode cX9_passes 60 = .ok (.putfield 150, 3) := by decide +kernel
theorem dX9_passes_63 : decode cX9_passes 63 = .ok (.return_, 1) := by decide +kernel
set_option maxRecDepth 20000 in
theorem ggX9_days_X9_in : GoodIn wsX9_days wsX9_in := goodIn_r _ [6] (by decide +kernel) (by decide +kernel)
set_option maxRecDepth 20000 in
theorem gX9_days_X9_in : GoodIn wsX9_days (va_wsS RX9 95 yX9_in wsX9_in) := goodIn_app (goodIn_of _ (by decide +kernel)) ggX9_days_X9_in
set_option maxRecDepth 20000 in
theorem ggX9_days_X9_arrived : GoodIn wsX9_days wsX9_arrived := goodIn_r _ [10, 2, 11, 12, 13, 5, 14, 15, 16, 17, 18, 19, 20, 21, 22, 38, 39, 40, 41, 42, 43, 44, 45, 46, 47, 48, 49, 50, 51, 52, 53, 54, 55, 56, 57, 58, 59, 60, 61, 62, 63, 64, 65, 66, 67, 68, 69, 70, 71, 72, 73, 74, 75, 76] (by decide +kernel) (by decide +kernel)
set_option maxRecDepth 20000 in
theorem gX9_days_X9_arrived : GoodIn wsX9_days (wsV RX9 184 RX9 yX9_arrived wsX9_arrived) := goodIn_app (goodIn_of _ (by decide +kernel)) ggX9_days_X9_arrived
set_option maxRecDepth 20000 in
theorem ggX9_days_X9_passes : GoodIn wsX9_days wsX9_passes := goodIn_r _ [26, 2, 17, 27, 28, 29, 30, 5, 31, 11, 12, 13, 14, 15, 16, 18, 19, 20, 21, 22, 32, 33, 34, 35, 36, 37, 38, 39, 40, 41, 42, 43, 44, 45, 46, 47, 48, 49, 50, 51, 52, 53, 54, 55, 56, 57, 58, 59, 60, 61, 62, 63, 64, 65, 66, 67, 68, 69, 70, 71, 72, 73, 74, 75, 76] (by decide +kernel) (by decide +kernel)
set_option maxRecDepth 20000 in
theorem gX9_days_X9_passes : GoodIn wsX9_days (wsV RX9 188 RX9 yX9_passes wsX9_passes) := goodIn_app (goodIn_of _ (by decide +kernel)) ggX9_days_X9_passes
theorem dX9_days_0 : decode cX9_days 0 = .ok (.iload_n 1, 1) := by decide +kernel
theorem dX9_days_1 : decode cX9_days 1 = .ok (.i2l, 1) := by decide +kernel
theorem dX9_days_2 : decode cX9_days 2 = .ok (.lconst 1, 1) := by decide +kernel
theorem dX9_days_3 : decode cX9_days 3 = .ok (.ldc2_w 182, 3) := by decide +kernel
theorem dX9_days_6 : decode cX9_days 6 = .ok (.invokestatic 95, 3) := by decide +kernel
theorem dX9_days_9 : decode cX9_days 9 = .ok (.ifCond .ne 6, 3) := by decide +kernel
theorem dX9_days_12 : decode cX9_days 12 = .ok (.bipush (-2), 2) := by decide +kernel
theorem dX9_days_14 : decode cX9_days 14 = .ok (.ireturn, 1) := by decide +kernel
theorem dX9_days_15 : decode cX9_days 15 = .ok (.aload_n 0, 1) := by decide +kernel
theorem dX9_days_16 : decode cX9_days 16 = .ok (.getfield 92, 3) := by decide +kernel
theorem dX9_days_19 : decode cX9_days 19 = .ok (.ifCond .ne 6, 3) := by decide +kernel
theorem dX9_days_22 : decode cX9_days 22 = .ok (.bipush (-3), 2) := by decide +kernel
theorem dX9_days_24 : decode cX9_days 24 = .ok (.ireturn, 1) := by decide +kernel
theorem dX9_days_25 : decode cX9_days 25 = .ok (.aload_n 0, 1) := by decide +kernel
theorem dX9_days_26 : decode cX9_days 26 = .ok (.invokevirtual 184, 3) := by decide +kernel
theorem dX9_days_29 : decode cX9_days 29 = .ok (.istore_n 2, 1) := by decide +kernel
theorem dX9_days_30 : decode cX9_days 30 = .ok (.iconst 0, 1) := by decide +kernel
theorem dX9_days_31 : decode cX9_days 31 = .ok (.istore_n 3, 1) := by decide +kernel
theorem dX9_days_32 : decode cX9_days 32 = .ok (.iload_n 3, 1) := by decide +kernel
theorem dX9_days_33 : decode cX9_days 33 = .ok (.iload_n 1, 1) := by decide +kernel
theorem dX9_days_34 : decode cX9_days 34 = .ok (.if_icmp .ge 13, 3) := by decide +kernel
theorem dX9_days_37 : decode cX9_days 37 = .ok (.aload_n 0, 1) := by decide +kernel
theorem dX9_days_38 : decode cX9_days 38 = .ok (.invokevirtual 188, 3) := by decide +kernel
theorem dX9_days_41 : decode cX9_days 41 = .ok (.iinc 3 1, 3) := by decide +kernel
theorem dX9_days_44 : decode cX9_days 44 = .ok (.goto (-12), 3) := by decide +kernel
theorem dX9_days_47 : decode cX9_days 47 = .ok (.aload_n 0, 1) := by decide +kernel
theorem dX9_days_48 : decode cX9_days 48 = .ok (.invokevirtual 184, 3) := by decide +kernel
theorem dX9_days_51 : decode cX9_days 51 = .ok (.iload_n 2, 1) := by decide +kernel
theorem dX9_days_52 : decode cX9_days 52 = .ok (.isub, 1) := by decide +kernel
theorem dX9_days_53 : decode cX9_days 53 = .ok (.ireturn, 1) := by decide +kernel
set_option maxRecDepth 20000 in
theorem ggX9_sat_X9_isIn : GoodIn wsX9_sat wsX9_isIn := goodIn_r _ [5] (by decide +kernel) (by decide +kernel)
set_option maxRecDepth 20000 in
theorem gX9_sat_X9_isIn : GoodIn wsX9_sat (va_wsS RX9 179 yX9_isIn wsX9_isIn) := goodIn_app (goodIn_of _ (by decide +kernel)) ggX9_sat_X9_isIn
theorem dX9_sat_0 : decode cX9_sat 0 = .ok (.aload_n 0, 1) := by decide +kernel
theorem dX9_sat_1 : decode cX9_sat 1 = .ok (.getfield 153, 3) := by decide +kernel
theorem dX9_sat_4 : decode cX9_sat 4 = .ok (.iload_n 1, 1) := by decide +kernel
theorem dX9_sat_5 : decode cX9_sat 5 = .ok (.invokestatic 179, 3) := by decide +kernel
theorem dX9_sat_8 : decode cX9_sat 8 = .ok (.ifCond .ne 7, 3) := by decide +kernel
theorem dX9_sat_11 : decode cX9_sat 11 = .ok (.iconst 1, 1) := by decide +kernel
theorem dX9_sat_12 : decode cX9_sat 12 = .ok (.goto 4, 3) := by decide +kernel
theorem dX9_sat_15 : decode cX9_sat 15 = .ok (.iconst 0, 1) := by decide +kernel
theorem dX9_sat_16 : decode cX9_sat 16 = .ok (.istore_n 2, 1) := by decide +kernel
theorem dX9_sat_17 : decode cX9_sat 17 = .ok (.aload_n 0, 1) := by decide +kernel
theorem dX9_sat_18 : decode cX9_sat 18 = .ok (.dup, 1) := by decide +kernel
theorem dX9_sat_19 : decode cX9_sat 19 = .ok (.getfield 153, 3) := by decide +kernel
theorem dX9_sat_22 : decode cX9_sat 22 = .ok (.iconst 1, 1) := by decide +kernel
theorem dX9_sat_23 : decode cX9_sat 23 = .ok (.iload_n 1, 1) := by decide +kernel
theorem dX9_sat_24 : decode cX9_sat 24 = .ok (.ishl, 1) := by decide +kernel
theorem dX9_sat_25 : decode cX9_sat 25 = .ok (.ior, 1) := by decide +kernel
theorem dX9_sat_26 : decode cX9_sat 26 = .ok (.putfield 153, 3) := by decide +kernel
theorem dX9_sat_29 : decode cX9_sat 29 = .ok (.iload_n 2, 1) := by decide +kernel
theorem dX9_sat_30 : decode cX9_sat 30 = .ok (.ireturn, 1) := by decide +kernel
set_option maxRecDepth 20000 in
theorem ggX9_rose_X9_isIn : GoodIn wsX9_rose wsX9_isIn := goodIn_r _ [5] (by decide +kernel) (by decide +kernel)
set_option maxRecDepth 20000 in
theorem gX9_rose_X9_isIn : GoodIn wsX9_rose (va_wsS RX9 179 yX9_isIn wsX9_isIn) := goodIn_app (goodIn_of _ (by decide +kernel)) ggX9_rose_X9_isIn
theorem dX9_rose_0 : decode cX9_rose 0 = .ok (.aload_n 0, 1) := by decide +kernel
theorem dX9_rose_1 : decode cX9_rose 1 = .ok (.getfield 153, 3) := by decide +kernel
theorem dX9_rose_4 : decode cX9_rose 4 = .ok (.iload_n 1, 1) := by decide +kernel
theorem dX9_rose_5 : decode cX9_rose 5 = .ok (.invokestatic 179, 3) := by decide +kernel
theorem dX9_rose_8 : decode cX9_rose 8 = .ok (.istore_n 2, 1) := by decide +kernel
theorem dX9_rose_9 : decode cX9_rose 9 = .ok (.aload_n 0, 1) := by decide +kernel
theorem dX9_rose_10 : decode cX9_rose 10 = .ok (.dup, 1) := by decide +kernel
theorem dX9_rose_11 : decode cX9_rose 11 = .ok (.getfield 153, 3) := by decide +kernel
theorem dX9_rose_14 : decode cX9_rose 14 = .ok (.iconst 1, 1) := by decide +kernel
theorem dX9_rose_15 : decode cX9_rose 15 = .ok (.iload_n 1, 1) := by decide +kernel
theorem dX9_rose_16 : decode cX9_rose 16 = .ok (.ishl, 1) := by decide +kernel
theorem dX9_rose_17 : decode cX9_rose 17 = .ok (.iconst (-1), 1) := by decide +kernel
theorem dX9_rose_18 : decode cX9_rose 18 = .ok (.ixor, 1) := by decide +kernel
theorem dX9_rose_19 : decode cX9_rose 19 = .ok (.iand, 1) := by decide +kernel
theorem dX9_rose_20 : decode cX9_rose 20 = .ok (.putfield 153, 3) := by decide +kernel
theorem dX9_rose_23 : decode cX9_rose 23 = .ok (.iload_n 2, 1) := by decide +kernel
theorem dX9_rose_24 : decode cX9_rose 24 = .ok (.ireturn, 1) := by decide +kernel
set_option maxRecDepth 20000 in
theorem ggX9_sit_X9_noFootman : GoodIn wsX9_sit wsX9_noFootman := goodIn_r _ [6, 7, 8, 9, 5, 10, 21, 22, 23, 24, 25, 26, 27, 28, 29, 30, 31, 32, 33, 34, 35, 36, 37, 38, 39, 40, 41, 42, 43, 44, 45, 46, 47, 48, 49, 50, 51, 52, 53, 54, 55, 56, 57, 58, 59] (by decide +kernel) (by decide +kernel)
set_option maxRecDepth 20000 in
theorem gX9_sit_X9_noFootman : GoodIn wsX9_sit (wsV RX9 165 RX9 yX9_noFootman wsX9_noFootman) := goodIn_app (goodIn_of _ (by decide +kernel)) ggX9_sit_X9_noFootman
set_option maxRecDepth 20000 in
theorem ggX9_sit_X9_sat : GoodIn wsX9_sit wsX9_sat := goodIn_r _ [14, 1, 15, 16, 5, 17, 21, 22, 23, 24, 25, 26, 27, 28, 29, 30, 31, 32, 33, 34, 35, 36, 37, 38, 39, 40, 41, 42, 43, 44, 45, 46, 47, 48, 49, 50, 51, 52, 53, 54, 55, 56, 57, 58, 59] (by decide +kernel) (by decide +kernel)
set_option maxRecDepth 20000 in
theorem gX9_sit_X9_sat : GoodIn wsX9_sit (wsV RX9 191 RX9 yX9_sat wsX9_sat) := goodIn_app (goodIn_of _ (by decide +kernel)) ggX9_sit_X9_sat
set_option maxRecDepth 20000 in
theorem ggX9_sit_X9_bits : GoodIn wsX9_sit wsX9_bits := goodIn_r _ [20] (by decide +kernel) (by decide +kernel)
set_option maxRecDepth 20000 in
theorem gX9_sit_X9_bits : GoodIn wsX9_sit (va_wsS RX9 194 yX9_bits wsX9_bits) := goodIn_app (goodIn_of _ (by decide +kernel)) ggX9_sit_X9_bits
theorem dX9_sit_0 : decode cX9_sit 0 = .ok (.aload_n 0, 1) := by decide +kernel
theorem dX9_sit_1 : decode cX9_sit 1 = .ok (.iload_n 1, 1) := by decide +kernel
theorem dX9_sit_2 : decode cX9_sit 2 = .ok (.invokevirtual 165, 3) := by decide +kernel
theorem dX9_sit_5 : decode cX9_sit 5 = .ok (.ifCond .eq 5, 3) := by decide +kernel
theorem dX9_sit_8 : decode cX9_sit 8 = .ok (.iconst (-1), 1) := by decide +kernel
theorem dX9_sit_9 : decode cX9_sit 9 = .ok (.ireturn, 1) := by decide +kernel
theorem dX9_sit_10 : decode cX9_sit 10 = .ok (.aload_n 0, 1) := by decide +kernel
theorem dX9_sit_11 : decode cX9_sit 11 = .ok (.iload_n 1, 1) := by decide +kernel
theorem dX9_sit_12 : decode cX9_sit 12 = .ok (.invokevirtual 191, 3) := by decide +kernel
theorem dX9_sit_15 : decode cX9_sit 15 = .ok (.ifCond .eq 13, 3) := by decide +kernel
theorem dX9_sit_18 : decode cX9_sit 18 = .ok (.aload_n 0, 1) := by decide +kernel
theorem dX9_sit_19 : decode cX9_sit 19 = .ok (.getfield 153, 3) := by decide +kernel
theorem dX9_sit_22 : decode cX9_sit 22 = .ok (.invokestatic 194, 3) := by decide +kernel
theorem dX9_sit_25 : decode cX9_sit 25 = .ok (.goto 5, 3) := by decide +kernel
theorem dX9_sit_28 : decode cX9_sit 28 = .ok (.bipush (-3), 2) := by decide +kernel
theorem dX9_sit_30 : decode cX9_sit 30 = .ok (.ireturn, 1) := by decide +kernel
set_option maxRecDepth 20000 in
theorem ggX9_rise_X9_noFootman : GoodIn wsX9_rise wsX9_noFootman := goodIn_r _ [6, 7, 8, 9, 5, 10, 21, 22, 23, 24, 25, 26, 27, 28, 29, 30, 31, 32, 33, 34, 35, 36, 37, 38, 39, 40, 41, 42, 43, 44, 45, 46, 47, 48, 49, 50, 51, 52, 53, 54, 55, 56, 57, 58, 59] (by decide +kernel) (by decide +kernel)
set_option maxRecDepth 20000 in
theorem gX9_rise_X9_noFootman : GoodIn wsX9_rise (wsV RX9 165 RX9 yX9_noFootman wsX9_noFootman) := goodIn_app (goodIn_of _ (by decide +kernel)) ggX9_rise_X9_noFootman
set_option maxRecDepth 20000 in
theorem ggX9_rise_X9_rose : GoodIn wsX9_rise wsX9_rose := goodIn_r _ [14, 1, 15, 16, 5, 17, 21, 22, 23, 24, 25, 26, 27, 28, 29, 30, 31, 32, 33, 34, 35, 36, 37, 38, 39, 40, 41, 42, 43, 44, 45, 46, 47, 48, 49, 50, 51, 52, 53, 54, 55, 56, 57, 58, 59] (by decide +kernel) (by decide +kernel)
set_option maxRecDepth 20000 in
theorem gX9_rise_X9_rose : GoodIn wsX9_rise (wsV RX9 197 RX9 yX9_rose wsX9_rose) := goodIn_app (goodIn_of _ (by decide +kernel)) ggX9_rise_X9_rose
set_option maxRecDepth 20000 in
theorem ggX9_rise_X9_bits : GoodIn wsX9_rise wsX9_bits := goodIn_r _ [20] (by decide +kernel) (by decide +kernel)
set_option maxRecDepth 20000 in
theorem gX9_rise_X9_bits : GoodIn wsX9_rise (va_wsS RX9 194 yX9_bits wsX9_bits) := goodIn_app (goodIn_of _ (by decide +kernel)) ggX9_rise_X9_bits
theorem dX9_rise_0 : decode cX9_rise 0 = .ok (.aload_n 0, 1) := by decide +kernel
theorem dX9_rise_1 : decode cX9_rise 1 = .ok (.iload_n 1, 1) := by decide +kernel
theorem dX9_rise_2 : decode cX9_rise 2 = .ok (.invokevirtual 165, 3) := by decide +kernel
theorem dX9_rise_5 : decode cX9_rise 5 = .ok (.ifCond .eq 5, 3) := by decide +kernel
theorem dX9_rise_8 : decode cX9_rise 8 = .ok (.iconst (-1), 1) := by decide +kernel
theorem dX9_rise_9 : decode cX9_rise 9 = .ok (.ireturn, 1) := by decide +kernel
theorem dX9_rise_10 : decode cX9_rise 10 = .ok (.aload_n 0, 1) := by decide +kernel
theorem dX9_rise_11 : decode cX9_rise 11 = .ok (.iload_n 1, 1) := by decide +kernel
theorem dX9_rise_12 : decode cX9_rise 12 = .ok (.invokevirtual 197, 3) := by decide +kernel
theorem dX9_rise_15 : decode cX9_rise 15 = .ok (.ifCond .eq 13, 3) := by decide +kernel
theorem dX9_rise_18 : decode cX9_rise 18 = .ok (.aload_n 0, 1) := by decide +kernel
theorem dX9_rise_19 : decode cX9_rise 19 = .ok (.getfield 153, 3) := by decide +kernel
theorem dX9_rise_22 : decode cX9_rise 22 = .ok (.invokestatic 194, 3) := by decide +kernel
theorem dX9_rise_25 : decode cX9_rise 25 = .ok (.goto 5, 3) := by decide +kernel
theorem dX9_rise_28 : decode cX9_rise 28 = .ok (.bipush (-3), 2) := by decide +kernel
theorem dX9_rise_30 : decode cX9_rise 30 = .ok (.ireturn, 1) := by decide +kernel
set_option maxRecDepth 20000 in
theorem ggX9_give_X9_in : GoodIn wsX9_give wsX9_in := goodIn_r _ [12] (by decide +kernel) (by decide +kernel)
set_option maxRecDepth 20000 in
theorem gX9_give_X9_in : GoodIn wsX9_give (va_wsS RX9 95 yX9_in wsX9_in) := goodIn_app (goodIn_of _ (by decide +kernel)) ggX9_give_X9_in
set_option maxRecDepth 20000 in
theorem ggX9_give_X9_noCorner : GoodIn wsX9_give wsX9_noCorner := goodIn_r _ [16, 17, 9, 10, 11, 12, 18, 19, 20, 21, 22, 23, 24, 25, 26, 27, 28, 29, 30, 31, 32, 33, 34, 35, 36, 37, 38, 39, 40, 41, 42, 43, 44, 45, 46, 47, 48, 49, 50, 51, 52, 53, 54, 55, 56] (by decide +kernel) (by decide +kernel)
set_option maxRecDepth 20000 in
theorem gX9_give_X9_noCorner : GoodIn wsX9_give (wsV RX9 174 RX9 yX9_noCorner wsX9_noCorner) := goodIn_app (goodIn_of _ (by decide +kernel)) ggX9_give_X9_noCorner
theorem dX9_give_0 : decode cX9_give 0 = .ok (.iload_n 1, 1) := by decide +kernel
theorem dX9_give_1 : decode cX9_give 1 = .ok (.i2l, 1) := by decide +kernel
theorem dX9_give_2 : decode cX9_give 2 = .ok (.lconst 0, 1) := by decide +kernel
theorem dX9_give_3 : decode cX9_give 3 = .ok (.ldc2_w 141, 3) := by decide +kernel
theorem dX9_give_6 : decode cX9_give 6 = .ok (.invokestatic 95, 3) := by decide +kernel
theorem dX9_give_9 : decode cX9_give 9 = .ok (.ifCond .eq 16, 3) := by decide +kernel
theorem dX9_give_12 : decode cX9_give 12 = .ok (.iload 4, 2) := by decide +kernel
theorem dX9_give_14 : decode cX9_give 14 = .ok (.i2l, 1) := by decide +kernel
theorem dX9_give_15 : decode cX9_give 15 = .ok (.lconst 1, 1) := by decide +kernel
theorem dX9_give_16 : decode cX9_give 16 = .ok (.ldc2_w 177, 3) := by decide +kernel
theorem dX9_give_19 : decode cX9_give 19 = .ok (.invokestatic 95, 3) := by decide +kernel
theorem dX9_give_22 : decode cX9_give 22 = .ok (.ifCond .ne 6, 3) := by decide +kernel
theorem dX9_give_25 : decode cX9_give 25 = .ok (.bipush (-2), 2) := by decide +kernel
theorem dX9_give_27 : decode cX9_give 27 = .ok (.ireturn, 1) := by decide +kernel
theorem dX9_give_28 : decode cX9_give 28 = .ok (.aload_n 0, 1) := by decide +kernel
theorem dX9_give_29 : decode cX9_give 29 = .ok (.iload_n 2, 1) := by decide +kernel
theorem dX9_give_30 : decode cX9_give 30 = .ok (.invokevirtual 174, 3) := by decide +kernel
theorem dX9_give_33 : decode cX9_give 33 = .ok (.ifCond .ne 11, 3) := by decide +kernel
theorem dX9_give_36 : decode cX9_give 36 = .ok (.aload_n 0, 1) := by decide +kernel
theorem dX9_give_37 : decode cX9_give 37 = .ok (.iload_n 3, 1) := by decide +kernel
theorem dX9_give_38 : decode cX9_give 38 = .ok (.invokevirtual 174, 3) := by decide +kernel
theorem dX9_give_41 : decode cX9_give 41 = .ok (.ifCond .eq 5, 3) := by decide +kernel
theorem dX9_give_44 : decode cX9_give 44 = .ok (.iconst (-1), 1) := by decide +kernel
theorem dX9_give_45 : decode cX9_give 45 = .ok (.ireturn, 1) := by decide +kernel
theorem dX9_give_46 : decode cX9_give 46 = .ok (.aload_n 0, 1) := by decide +kernel
theorem dX9_give_47 : decode cX9_give 47 = .ok (.getfield 92, 3) := by decide +kernel
theorem dX9_give_50 : decode cX9_give 50 = .ok (.bipush 6, 2) := by decide +kernel
theorem dX9_give_52 : decode cX9_give 52 = .ok (.if_icmp .ne 6, 3) := by decide +kernel
theorem dX9_give_55 : decode cX9_give 55 = .ok (.bipush (-4), 2) := by decide +kernel
theorem dX9_give_57 : decode cX9_give 57 = .ok (.ireturn, 1) := by decide +kernel
theorem dX9_give_58 : decode cX9_give 58 = .ok (.aload_n 0, 1) := by decide +kernel
theorem dX9_give_59 : decode cX9_give 59 = .ok (.getfield 16, 3) := by decide +kernel
theorem dX9_give_62 : decode cX9_give 62 = .ok (.aload_n 0, 1) := by decide +kernel
theorem dX9_give_63 : decode cX9_give 63 = .ok (.getfield 92, 3) := by decide +kernel
theorem dX9_give_66 : decode cX9_give 66 = .ok (.iload_n 1, 1) := by decide +kernel
theorem dX9_give_67 : decode cX9_give 67 = .ok (.iastore, 1) := by decide +kernel
theorem dX9_give_68 : decode cX9_give 68 = .ok (.aload_n 0, 1) := by decide +kernel
theorem dX9_give_69 : decode cX9_give 69 = .ok (.getfield 19, 3) := by decide +kernel
theorem dX9_give_72 : decode cX9_give 72 = .ok (.aload_n 0, 1) := by decide +kernel
theorem dX9_give_73 : decode cX9_give 73 = .ok (.getfield 92, 3) := by decide +kernel
theorem dX9_give_76 : decode cX9_give 76 = .ok (.iload_n 2, 1) := by decide +kernel
theorem dX9_give_77 : decode cX9_give 77 = .ok (.iastore, 1) := by decide +kernel
theorem dX9_give_78 : decode cX9_give 78 = .ok (.aload_n 0, 1) := by decide +kernel
theorem dX9_give_79 : decode cX9_give 79 = .ok (.getfield 22, 3) := by decide +kernel
theorem dX9_give_82 : decode cX9_give 82 = .ok (.aload_n 0, 1) := by decide +kernel
theorem dX9_give_83 : decode cX9_give 83 = .ok (.getfield 92, 3) := by decide +kernel
theorem dX9_give_86 : decode cX9_give 86 = .ok (.iload_n 3, 1) := by decide +kernel
theorem dX9_give_87 : decode cX9_give 87 = .ok (.iastore, 1) := by decide +kernel
theorem dX9_give_88 : decode cX9_give 88 = .ok (.aload_n 0, 1) := by decide +kernel
theorem dX9_give_89 : decode cX9_give 89 = .ok (.getfield 25, 3) := by decide +kernel
theorem dX9_give_92 : decode cX9_give 92 = .ok (.aload_n 0, 1) := by decide +kernel
theorem dX9_give_93 : decode cX9_give 93 = .ok (.getfield 92, 3) := by decide +kernel
theorem dX9_give_96 : decode cX9_give 96 = .ok (.iload 4, 2) := by decide +kernel
theorem dX9_give_98 : decode cX9_give 98 = .ok (.iastore, 1) := by decide +kernel
theorem dX9_give_99 : decode cX9_give 99 = .ok (.aload_n 0, 1) := by decide +kernel
theorem dX9_give_100 : decode cX9_give 100 = .ok (.getfield 28, 3) := by decide +kernel
theorem dX9_give_103 : decode cX9_give 103 = .ok (.aload_n 0, 1) := by decide +kernel
theorem dX9_give_104 : decode cX9_give 104 = .ok (.getfield 92, 3) := by decide +kernel
theorem dX9_give_107 : decode cX9_give 107 = .ok (.iconst 0, 1) := by decide +kernel
theorem dX9_give_108 : decode cX9_give 108 = .ok (.iastore, 1) := by decide +kernel
theorem dX9_give_109 : decode cX9_give 109 = .ok (.aload_n 0, 1) := by decide +kernel
theorem dX9_give_110 : decode cX9_give 110 = .ok (.dup, 1) := by decide +kernel
theorem dX9_give_111 : decode cX9_give 111 = .ok (.getfield 92, 3) := by decide +kernel
theorem dX9_give_114 : decode cX9_give 114 = .ok (.iconst 1, 1) := by decide +kernel
theorem dX9_give_115 : decode cX9_give 115 = .ok (.iadd, 1) := by decide +kernel
theorem dX9_give_116 : decode cX9_give 116 = .ok (.putfield 92, 3) := by decide +kernel
theorem dX9_give_119 : decode cX9_give 119 = .ok (.aload_n 0, 1) := by decide +kernel
theorem dX9_give_120 : decode cX9_give 120 = .ok (.getfield 92, 3) := by decide +kernel
theorem dX9_give_123 : decode cX9_give 123 = .ok (.iconst 1, 1) := by decide +kernel
theorem dX9_give_124 : decode cX9_give 124 = .ok (.isub, 1) := by decide +kernel
theorem dX9_give_125 : decode cX9_give 125 = .ok (.ireturn, 1) := by decide +kernel
theorem dX9_keepAll_0 : decode cX9_keepAll 0 = .ok (.aload_n 0, 1) := by decide +kernel
theorem dX9_keepAll_1 : decode cX9_keepAll 1 = .ok (.aload_n 0, 1) := by decide +kernel
theorem dX9_keepAll_2 : decode cX9_keepAll 2 = .ok (.getfield 153, 3) := by decide +kernel
theorem dX9_keepAll_5 : decode cX9_keepAll 5 = .ok (.putfield 200, 3) := by decide +kernel
theorem dX9_keepAll_8 : decode cX9_keepAll 8 = .ok (.aload_n 0, 1) := by decide +kernel
theorem dX9_keepAll_9 : decode cX9_keepAll 9 = .ok (.aload_n 0, 1) := by decide +kernel
theorem dX9_keepAll_10 : decode cX9_keepAll 10 = .ok (.getfield 150, 3) := by decide +kernel
theorem dX9_keepAll_13 : decode cX9_keepAll 13 = .ok (.putfield 203, 3) := by decide +kernel
theorem dX9_keepAll_16 : decode cX9_keepAll 16 = .ok (.iconst 0, 1) := by decide +kernel
theorem dX9_keepAll_17 : decode cX9_keepAll 17 = .ok (.istore_n 1, 1) := by decide +kernel
theorem dX9_keepAll_18 : decode cX9_keepAll 18 = .ok (.iload_n 1, 1) := by decide +kernel
theorem dX9_keepAll_19 : decode cX9_keepAll 19 = .ok (.aload_n 0, 1) := by decide +kernel
theorem dX9_keepAll_20 : decode cX9_keepAll 20 = .ok (.getfield 92, 3) := by decide +kernel
theorem dX9_keepAll_23 : decode cX9_keepAll 23 = .ok (.if_icmp .ge 21, 3) := by decide +kernel
theorem dX9_keepAll_26 : decode cX9_keepAll 26 = .ok (.aload_n 0, 1) := by decide +kernel
theorem dX9_keepAll_27 : decode cX9_keepAll 27 = .ok (.getfield 46, 3) := by decide +kernel
theorem dX9_keepAll_30 : decode cX9_keepAll 30 = .ok (.iload_n 1, 1) := by decide +kernel
theorem dX9_keepAll_31 : decode cX9_keepAll 31 = .ok (.aload_n 0, 1) := by decide +kernel
theorem dX9_keepAll_32 : decode cX9_keepAll 32 = .ok (.getfield 28, 3) := by decide +kernel
theorem dX9_keepAll_35 : decode cX9_keepAll 35 = .ok (.iload_n 1, 1) := by decide +kernel
theorem dX9_keepAll_36 : decode cX9_keepAll 36 = .ok (.iaload, 1) := by decide +kernel
theorem dX9_keepAll_37 : decode cX9_keepAll 37 = .ok (.iastore, 1) := by decide +kernel
theorem dX9_keepAll_38 : decode cX9_keepAll 38 = .ok (.iinc 1 1, 3) := by decide +kernel
theorem dX9_keepAll_41 : decode cX9_keepAll 41 = .ok (.goto (-23), 3) := by decide +kernel
theorem dX9_keepAll_44 : decode cX9_keepAll 44 = .ok (.return_, 1) := by decide +kernel
theorem dX9_bringBack_0 : decode cX9_bringBack 0 = .ok (.aload_n 0, 1) := by decide +kernel
theorem dX9_bringBack_1 : decode cX9_bringBack 1 = .ok (.aload_n 0, 1) := by decide +kernel
theorem dX9_bringBack_2 : decode cX9_bringBack 2 = .ok (.getfield 200, 3) := by decide +kernel
theorem dX9_bringBack_5 : decode cX9_bringBack 5 = .ok (.putfield 153, 3) := by decide +kernel
theorem dX9_bringBack_8 : decode cX9_bringBack 8 = .ok (.aload_n 0, 1) := by decide +kernel
theorem dX9_bringBack_9 : decode cX9_bringBack 9 = .ok (.aload_n 0, 1) := by decide +kernel
theorem dX9_bringBack_10 : decode cX9_bringBack 10 = .ok (.getfield 203, 3) := by decide +kernel
theorem dX9_bringBack_13 : decode cX9_bringBack 13 = .ok (.putfield 150, 3) := by decide +kernel
theorem dX9_bringBack_16 : decode cX9_bringBack 16 = .ok (.iconst 0, 1) := by decide +kernel
theorem dX9_bringBack_17 : decode cX9_bringBack 17 = .ok (.istore_n 1, 1) := by decide +kernel
theorem dX9_bringBack_18 : decode cX9_bringBack 18 = .ok (.iload_n 1, 1) := by decide +kernel
theorem dX9_bringBack_19 : decode cX9_bringBack 19 = .ok (.aload_n 0, 1) := by decide +kernel
theorem dX9_bringBack_20 : decode cX9_bringBack 20 = .ok (.getfield 92, 3) := by decide +kernel
theorem dX9_bringBack_23 : decode cX9_bringBack 23 = .ok (.if_icmp .ge 21, 3) := by decide +kernel
theorem dX9_bringBack_26 : decode cX9_bringBack 26 = .ok (.aload_n 0, 1) := by decide +kernel
theorem dX9_bringBack_27 : decode cX9_bringBack 27 = .ok (.getfield 28, 3) := by decide +kernel
theorem dX9_bringBack_30 : decode cX9_bringBack 30 = .ok (.iload_n 1, 1) := by decide +kernel
theorem dX9_bringBack_31 : decode cX9_bringBack 31 = .ok (.aload_n 0, 1) := by decide +kernel
theorem dX9_bringBack_32 : decode cX9_bringBack 32 = .ok (.getfield 46, 3) := by decide +kernel
theorem dX9_bringBack_35 : decode cX9_bringBack 35 = .ok (.iload_n 1, 1) := by decide +kernel
theorem dX9_bringBack_36 : decode cX9_bringBack 36 = .ok (.iaload, 1) := by decide +kernel
theorem dX9_bringBack_37 : decode cX9_bringBack 37 = .ok (.iastore, 1) := by decide +kernel
theorem dX9_bringBack_38 : decode cX9_bringBack 38 = .ok (.iinc 1 1, 3) := by decide +kernel
theorem dX9_bringBack_41 : decode cX9_bringBack 41 = .ok (.goto (-23), 3) := by decide +kernel
theorem dX9_bringBack_44 : decode cX9_bringBack 44 = .ok (.return_, 1) := by decide +kernel
set_option maxRecDepth 20000 in
theorem ggX9_pairsBarred_X9_in : GoodIn wsX9_pairsBarred wsX9_in := goodIn_r _ [7] (by decide +kernel) (by decide +kernel)
set_option maxRecDepth 20000 in
theorem gX9_pairsBarred_X9_in : GoodIn wsX9_pairsBarred (va_wsS RX9 95 yX9_in wsX9_in) := goodIn_app (goodIn_of _ (by decide +kernel)) ggX9_pairsBarred_X9_in
set_option maxRecDepth 20000 in
theorem ggX9_pairsBarred_X9_noFootman : GoodIn wsX9_pairsBarred wsX9_noFootman := goodIn_r _ [11, 12, 4, 5, 6, 7, 13, 14, 15, 16, 17, 18, 19, 20, 21, 22, 23, 24, 25, 26, 27, 28, 29, 30, 31, 32, 33, 34, 35, 36, 37, 38, 39, 40, 41, 42, 43, 44, 45, 46, 47, 48, 49, 50, 51] (by decide +kernel) (by decide +kernel)
set_option maxRecDepth 20000 in
theorem gX9_pairsBarred_X9_noFootman : GoodIn wsX9_pairsBarred (wsV RX9 165 RX9 yX9_noFootman wsX9_noFootman) := goodIn_app (goodIn_of _ (by decide +kernel)) ggX9_pairsBarred_X9_noFootman
theorem dX9_pairsBarred_0 : decode cX9_pairsBarred 0 = .ok (.iconst 0, 1) := by decide +kernel
theorem dX9_pairsBarred_1 : decode cX9_pairsBarred 1 = .ok (.istore_n 3, 1) := by decide +kernel
theorem dX9_pairsBarred_2 : decode cX9_pairsBarred 2 = .ok (.iload_n 3, 1) := by decide +kernel
theorem dX9_pairsBarred_3 : decode cX9_pairsBarred 3 = .ok (.iload_n 2, 1) := by decide +kernel
theorem dX9_pairsBarred_4 : decode cX9_pairsBarred 4 = .ok (.if_icmp .ge 87, 3) := by decide +kernel
theorem dX9_pairsBarred_7 : decode cX9_pairsBarred 7 = .ok (.aload_n 0, 1) := by decide +kernel
theorem dX9_pairsBarred_8 : decode cX9_pairsBarred 8 = .ok (.getfield 76, 3) := by decide +kernel
theorem dX9_pairsBarred_11 : decode cX9_pairsBarred 11 = .ok (.iload_n 1, 1) := by decide +kernel
theorem dX9_pairsBarred_12 : decode cX9_pairsBarred 12 = .ok (.iconst 2, 1) := by decide +kernel
theorem dX9_pairsBarred_13 : decode cX9_pairsBarred 13 = .ok (.iload_n 3, 1) := by decide +kernel
theorem dX9_pairsBarred_14 : decode cX9_pairsBarred 14 = .ok (.imul, 1) := by decide +kernel
theorem dX9_pairsBarred_15 : decode cX9_pairsBarred 15 = .ok (.iadd, 1) := by decide +kernel
theorem dX9_pairsBarred_16 : decode cX9_pairsBarred 16 = .ok (.iaload, 1) := by decide +kernel
theorem dX9_pairsBarred_17 : decode cX9_pairsBarred 17 = .ok (.istore 4, 2) := by decide +kernel
theorem dX9_pairsBarred_19 : decode cX9_pairsBarred 19 = .ok (.aload_n 0, 1) := by decide +kernel
theorem dX9_pairsBarred_20 : decode cX9_pairsBarred 20 = .ok (.getfield 76, 3) := by decide +kernel
theorem dX9_pairsBarred_23 : decode cX9_pairsBarred 23 = .ok (.iload_n 1, 1) := by decide +kernel
theorem dX9_pairsBarred_24 : decode cX9_pairsBarred 24 = .ok (.iconst 2, 1) := by decide +kernel
theorem dX9_pairsBarred_25 : decode cX9_pairsBarred 25 = .ok (.iload_n 3, 1) := by decide +kernel
theorem dX9_pairsBarred_26 : decode cX9_pairsBarred 26 = .ok (.imul, 1) := by decide +kernel
theorem dX9_pairsBarred_27 : decode cX9_pairsBarred 27 = .ok (.iadd, 1) := by decide +kernel
theorem dX9_pairsBarred_28 : decode cX9_pairsBarred 28 = .ok (.iconst 1, 1) := by decide +kernel
theorem dX9_pairsBarred_29 : decode cX9_pairsBarred 29 = .ok (.iadd, 1) := by decide +kernel
theorem dX9_pairsBarred_30 : decode cX9_pairsBarred 30 = .ok (.iaload, 1) := by decide +kernel
theorem dX9_pairsBarred_31 : decode cX9_pairsBarred 31 = .ok (.istore 5, 2) := by decide +kernel
theorem dX9_pairsBarred_33 : decode cX9_pairsBarred 33 = .ok (.iload 5, 2) := by decide +kernel
theorem dX9_pairsBarred_35 : decode cX9_pairsBarred 35 = .ok (.i2l, 1) := by decide +kernel
theorem dX9_pairsBarred_36 : decode cX9_pairsBarred 36 = .ok (.lconst 0, 1) := by decide +kernel
theorem dX9_pairsBarred_37 : decode cX9_pairsBarred 37 = .ok (.ldc2_w 141, 3) := by decide +kernel
theorem dX9_pairsBarred_40 : decode cX9_pairsBarred 40 = .ok (.invokestatic 95, 3) := by decide +kernel
theorem dX9_pairsBarred_43 : decode cX9_pairsBarred 43 = .ok (.ifCond .eq 22, 3) := by decide +kernel
theorem dX9_pairsBarred_46 : decode cX9_pairsBarred 46 = .ok (.iload 5, 2) := by decide +kernel
theorem dX9_pairsBarred_48 : decode cX9_pairsBarred 48 = .ok (.iconst 2, 1) := by decide +kernel
theorem dX9_pairsBarred_49 : decode cX9_pairsBarred 49 = .ok (.if_icmp .ne 19, 3) := by decide +kernel
theorem dX9_pairsBarred_52 : decode cX9_pairsBarred 52 = .ok (.iload 4, 2) := by decide +kernel
theorem dX9_pairsBarred_54 : decode cX9_pairsBarred 54 = .ok (.i2l, 1) := by decide +kernel
theorem dX9_pairsBarred_55 : decode cX9_pairsBarred 55 = .ok (.lconst 0, 1) := by decide +kernel
theorem dX9_pairsBarred_56 : decode cX9_pairsBarred 56 = .ok (.ldc2_w 177, 3) := by decide +kernel
theorem dX9_pairsBarred_59 : decode cX9_pairsBarred 59 = .ok (.invokestatic 95, 3) := by decide +kernel
theorem dX9_pairsBarred_62 : decode cX9_pairsBarred 62 = .ok (.ifCond .ne 6, 3) := by decide +kernel
theorem dX9_pairsBarred_65 : decode cX9_pairsBarred 65 = .ok (.bipush (-2), 2) := by decide +kernel
theorem dX9_pairsBarred_67 : decode cX9_pairsBarred 67 = .ok (.ireturn, 1) := by decide +kernel
theorem dX9_pairsBarred_68 : decode cX9_pairsBarred 68 = .ok (.iload 5, 2) := by decide +kernel
theorem dX9_pairsBarred_70 : decode cX9_pairsBarred 70 = .ok (.iconst 2, 1) := by decide +kernel
theorem dX9_pairsBarred_71 : decode cX9_pairsBarred 71 = .ok (.if_icmp .ge 14, 3) := by decide +kernel
theorem dX9_pairsBarred_74 : decode cX9_pairsBarred 74 = .ok (.aload_n 0, 1) := by decide +kernel
theorem dX9_pairsBarred_75 : decode cX9_pairsBarred 75 = .ok (.iload 4, 2) := by decide +kernel
theorem dX9_pairsBarred_77 : decode cX9_pairsBarred 77 = .ok (.invokevirtual 165, 3) := by decide +kernel
theorem dX9_pairsBarred_80 : decode cX9_pairsBarred 80 = .ok (.ifCond .eq 5, 3) := by decide +kernel
theorem dX9_pairsBarred_83 : decode cX9_pairsBarred 83 = .ok (.iconst (-1), 1) := by decide +kernel
theorem dX9_pairsBarred_84 : decode cX9_pairsBarred 84 = .ok (.ireturn, 1) := by decide +kernel
theorem dX9_pairsBarred_85 : decode cX9_pairsBarred 85 = .ok (.iinc 3 1, 3) := by decide +kernel
theorem dX9_pairsBarred_88 : decode cX9_pairsBarred 88 = .ok (.goto (-86), 3) := by decide +kernel
theorem dX9_pairsBarred_91 : decode cX9_pairsBarred 91 = .ok (.iconst 0, 1) := by decide +kernel
theorem dX9_pairsBarred_92 : decode cX9_pairsBarred 92 = .ok (.ireturn, 1) := by decide +kernel
set_option maxRecDepth 20000 in
theorem ggX9_looksAround_X9_arrived : GoodIn wsX9_looksAround wsX9_arrived := goodIn_r _ [9, 2, 10, 11, 12, 8, 13, 14, 15, 16, 17, 18, 19, 20, 21, 22, 23, 24, 25, 26, 27, 28, 29, 30, 31, 32, 33, 34, 35, 36, 37, 38, 39, 40, 41, 42, 43, 44, 45, 46, 47, 48, 49, 50, 51, 52, 53, 54, 55, 56, 57, 58, 59, 60] (by decide +kernel) (by decide +kernel)
set_option maxRecDepth 20000 in
theorem gX9_looksAround_X9_arrived : GoodIn wsX9_looksAround (wsV RX9 184 RX9 yX9_arrived wsX9_arrived) := goodIn_app (goodIn_of _ (by decide +kernel)) ggX9_looksAround_X9_arrived
theorem dX9_looksAround_0 : decode cX9_looksAround 0 = .ok (.aload_n 0, 1) := by decide +kernel
theorem dX9_looksAround_1 : decode cX9_looksAround 1 = .ok (.aload_n 0, 1) := by decide +kernel
theorem dX9_looksAround_2 : decode cX9_looksAround 2 = .ok (.getfield 206, 3) := by decide +kernel
theorem dX9_looksAround_5 : decode cX9_looksAround 5 = .ok (.ifCond .ge 26, 3) := by decide +kernel
theorem dX9_looksAround_8 : decode cX9_looksAround 8 = .ok (.aload_n 0, 1) := by decide +kernel
theorem dX9_looksAround_9 : decode cX9_looksAround 9 = .ok (.invokevirtual 184, 3) := by decide +kernel
theorem dX9_looksAround_12 : decode cX9_looksAround 12 = .ok (.aload_n 0, 1) := by decide +kernel
theorem dX9_looksAround_13 : decode cX9_looksAround 13 = .ok (.getfield 92, 3) := by decide +kernel
theorem dX9_looksAround_16 : decode cX9_looksAround 16 = .ok (.if_icmp .ne 15, 3) := by decide +kernel
theorem dX9_looksAround_19 : decode cX9_looksAround 19 = .ok (.aload_n 0, 1) := by decide +kernel
theorem dX9_looksAround_20 : decode cX9_looksAround 20 = .ok (.getfield 150, 3) := by decide +kernel
theorem dX9_looksAround_23 : decode cX9_looksAround 23 = .ok (.aload_n 0, 1) := by decide +kernel
theorem dX9_looksAround_24 : decode cX9_looksAround 24 = .ok (.getfield 203, 3) := by decide +kernel
theorem dX9_looksAround_27 : decode cX9_looksAround 27 = .ok (.isub, 1) := by decide +kernel
theorem dX9_looksAround_28 : decode cX9_looksAround 28 = .ok (.goto 7, 3) := by decide +kernel
theorem dX9_looksAround_31 : decode cX9_looksAround 31 = .ok (.aload_n 0, 1) := by decide +kernel
theorem dX9_looksAround_32 : decode cX9_looksAround 32 = .ok (.getfield 206, 3) := by decide +kernel
theorem dX9_looksAround_35 : decode cX9_looksAround 35 = .ok (.putfield 206, 3) := by decide +kernel
theorem dX9_looksAround_38 : decode cX9_looksAround 38 = .ok (.return_, 1) := by decide +kernel
set_option maxRecDepth 20000 in
theorem ggX9_did_X9_sat : GoodIn wsX9_did wsX9_sat := goodIn_r _ [5, 6, 7, 8, 4, 9, 48, 49, 50, 51, 52, 53, 54, 55, 56, 57, 58, 59, 60, 61, 62, 63, 64, 65, 66, 67, 68, 69, 70, 71, 72, 73, 74, 75, 76, 77, 78, 79, 80, 81, 82, 83, 84, 85, 86] (by decide +kernel) (by decide +kernel)
set_option maxRecDepth 20000 in
theorem gX9_did_X9_sat : GoodIn wsX9_did (wsV RX9 191 RX9 yX9_sat wsX9_sat) := goodIn_app (goodIn_of _ (by decide +kernel)) ggX9_did_X9_sat
set_option maxRecDepth 20000 in
theorem ggX9_did_X9_rose : GoodIn wsX9_did wsX9_rose := goodIn_r _ [13, 6, 7, 8, 4, 9, 48, 49, 50, 51, 52, 53, 54, 55, 56, 57, 58, 59, 60, 61, 62, 63, 64, 65, 66, 67, 68, 69, 70, 71, 72, 73, 74, 75, 76, 77, 78, 79, 80, 81, 82, 83, 84, 85, 86] (by decide +kernel) (by decide +kernel)
set_option maxRecDepth 20000 in
theorem gX9_did_X9_rose : GoodIn wsX9_did (wsV RX9 197 RX9 yX9_rose wsX9_rose) := goodIn_app (goodIn_of _ (by decide +kernel)) ggX9_did_X9_rose
set_option maxRecDepth 20000 in
theorem ggX9_did_X9_passes : GoodIn wsX9_did wsX9_passes := goodIn_r _ [17, 18, 19, 6, 20, 7, 8, 4, 9, 21, 22, 23, 24, 25, 26, 27, 28, 29, 30, 31, 32, 33, 34, 35, 36, 37, 48, 49, 50, 51, 52, 53, 54, 55, 56, 57, 58, 59, 60, 61, 62, 63, 64, 65, 66, 67, 68, 69, 70, 71, 72, 73, 74, 75, 76, 77, 78, 79, 80, 81, 82, 83, 84, 85, 86] (by decide +kernel) (by decide +kernel)
set_option maxRecDepth 20000 in
theorem gX9_did_X9_passes : GoodIn wsX9_did (wsV RX9 188 RX9 yX9_passes wsX9_passes) := goodIn_app (goodIn_of _ (by decide +kernel)) ggX9_did_X9_passes
set_option maxRecDepth 20000 in
theorem ggX9_did_X9_looksAround : GoodIn wsX9_did wsX9_looksAround := goodIn_r _ [41, 42, 18, 20, 43, 44, 45, 46, 4, 47, 21, 22, 23, 24, 25, 26, 19, 27, 28, 29, 30, 31, 48, 49, 50, 51, 52, 53, 54, 55, 56, 57, 58, 59, 60, 61, 62, 63, 64, 65, 66, 67, 68, 69, 70, 71, 72, 73, 74, 75, 76, 77, 78, 79, 80, 81, 82, 83, 84, 85, 86] (by decide +kernel) (by decide +kernel)
set_option maxRecDepth 20000 in
theorem gX9_did_X9_looksAround : GoodIn wsX9_did (wsV RX9 209 RX9 yX9_looksAround wsX9_looksAround) := goodIn_app (goodIn_of _ (by decide +kernel)) ggX9_did_X9_looksAround
theorem dX9_did_0 : decode cX9_did 0 = .ok (.iload_n 2, 1) := by decide +kernel
theorem dX9_did_1 : decode cX9_did 1 = .ok (.ifCond .ne 9, 3) := by decide +kernel
theorem dX9_did_4 : decode cX9_did 4 = .ok (.aload_n 0, 1) := by decide +kernel
theorem dX9_did_5 : decode cX9_did 5 = .ok (.iload_n 1, 1) := by decide +kernel
theorem dX9_did_6 : decode cX9_did 6 = .ok (.invokevirtual 191, 3) := by decide +kernel
theorem dX9_did_9 : decode cX9_did 9 = .ok (.ireturn, 1) := by decide +kernel
theorem dX9_did_10 : decode cX9_did 10 = .ok (.iload_n 2, 1) := by decide +kernel
theorem dX9_did_11 : decode cX9_did 11 = .ok (.iconst 1, 1) := by decide +kernel
theorem dX9_did_12 : decode cX9_did 12 = .ok (.if_icmp .ne 9, 3) := by decide +kernel
theorem dX9_did_15 : decode cX9_did 15 = .ok (.aload_n 0, 1) := by decide +kernel
theorem dX9_did_16 : decode cX9_did 16 = .ok (.iload_n 1, 1) := by decide +kernel
theorem dX9_did_17 : decode cX9_did 17 = .ok (.invokevirtual 197, 3) := by decide +kernel
theorem dX9_did_20 : decode cX9_did 20 = .ok (.ireturn, 1) := by decide +kernel
theorem dX9_did_21 : decode cX9_did 21 = .ok (.iconst 0, 1) := by decide +kernel
theorem dX9_did_22 : decode cX9_did 22 = .ok (.istore_n 3, 1) := by decide +kernel
theorem dX9_did_23 : decode cX9_did 23 = .ok (.iload_n 3, 1) := by decide +kernel
theorem dX9_did_24 : decode cX9_did 24 = .ok (.iload_n 1, 1) := by decide +kernel
theorem dX9_did_25 : decode cX9_did 25 = .ok (.if_icmp .ge 17, 3) := by decide +kernel
theorem dX9_did_28 : decode cX9_did 28 = .ok (.aload_n 0, 1) := by decide +kernel
theorem dX9_did_29 : decode cX9_did 29 = .ok (.invokevirtual 188, 3) := by decide +kernel
theorem dX9_did_32 : decode cX9_did 32 = .ok (.aload_n 0, 1) := by decide +kernel
theorem dX9_did_33 : decode cX9_did 33 = .ok (.invokevirtual 209, 3) := by decide +kernel
theorem dX9_did_36 : decode cX9_did 36 = .ok (.iinc 3 1, 3) := by decide +kernel
theorem dX9_did_39 : decode cX9_did 39 = .ok (.goto (-16), 3) := by decide +kernel
theorem dX9_did_42 : decode cX9_did 42 = .ok (.iconst 1, 1) := by decide +kernel
theorem dX9_did_43 : decode cX9_did 43 = .ok (.ireturn, 1) := by decide +kernel
set_option maxRecDepth 20000 in
theorem ggX9_seasonBy_X9_looksAround : GoodIn wsX9_seasonBy wsX9_looksAround := goodIn_r _ [11, 1, 4, 12, 13, 14, 15, 16, 10, 17, 18, 19, 20, 21, 22, 23, 3, 24, 25, 26, 27, 28, 61, 62, 63, 64, 65, 66, 67, 68, 69, 70, 71, 72, 73, 74, 75, 76, 77, 78, 79, 80, 81, 82, 83, 84, 85, 86, 87, 88, 89, 90, 91, 92, 93, 94, 95, 96, 97, 98, 99] (by decide +kernel) (by decide +kernel)
set_option maxRecDepth 20000 in
theorem gX9_seasonBy_X9_looksAround : GoodIn wsX9_seasonBy (wsV RX9 209 RX9 yX9_looksAround wsX9_looksAround) := goodIn_app (goodIn_of _ (by decide +kernel)) ggX9_seasonBy_X9_looksAround
set_option maxRecDepth 20000 in
theorem ggX9_seasonBy_X9_did : GoodIn wsX9_seasonBy wsX9_did := goodIn_r _ [32, 33, 34, 35, 10, 36, 6, 37, 38, 39, 40, 41, 42, 43, 44, 45, 46, 47, 4, 3, 12, 18, 19, 20, 21, 22, 23, 24, 25, 26, 27, 28, 48, 49, 50, 51, 52, 53, 7, 8, 9, 11, 1, 13, 14, 15, 16, 17, 61, 62, 63, 64, 65, 66, 67, 68, 69, 70, 71, 72, 73, 74, 75, 76, 77, 78, 79, 80, 81, 82, 83, 84, 85, 86, 87, 88, 89, 90, 91, 92, 93, 94, 95, 96, 97, 98, 99] (by decide +kernel) (by decide +kernel)
set_option maxRecDepth 20000 in
theorem gX9_seasonBy_X9_did : GoodIn wsX9_seasonBy (wsV RX9 212 RX9 yX9_did wsX9_did) := goodIn_app (goodIn_of _ (by decide +kernel)) ggX9_seasonBy_X9_did
set_option maxRecDepth 20000 in
theorem ggX9_seasonBy_X9_noFootman : GoodIn wsX9_seasonBy wsX9_noFootman := goodIn_r _ [57, 4, 58, 59, 10, 60, 61, 62, 63, 64, 65, 66, 67, 68, 69, 70, 71, 72, 73, 74, 75, 76, 77, 78, 79, 80, 81, 82, 83, 84, 85, 86, 87, 88, 89, 90, 91, 92, 93, 94, 95, 96, 97, 98, 99] (by decide +kernel) (by decide +kernel)
set_option maxRecDepth 20000 in
theorem gX9_seasonBy_X9_noFootman : GoodIn wsX9_seasonBy (wsV RX9 165 RX9 yX9_noFootman wsX9_noFootman) := goodIn_app (goodIn_of _ (by decide +kernel)) ggX9_seasonBy_X9_noFootman
set_option maxRecDepth 20000 in
theorem ggX9_seasonBy_X9_arrived : GoodIn wsX9_seasonBy wsX9_arrived := goodIn_r _ [17, 4, 18, 19, 20, 10, 21, 22, 23, 3, 24, 25, 26, 27, 28, 61, 62, 63, 64, 65, 66, 67, 68, 69, 70, 71, 72, 73, 74, 75, 76, 77, 78, 79, 80, 81, 82, 83, 84, 85, 86, 87, 88, 89, 90, 91, 92, 93, 94, 95, 96, 97, 98, 99] (by decide +kernel) (by decide +kernel)
set_option maxRecDepth 20000 in
theorem gX9_seasonBy_X9_arrived : GoodIn wsX9_seasonBy (wsV RX9 184 RX9 yX9_arrived wsX9_arrived) := goodIn_app (goodIn_of _ (by decide +kernel)) ggX9_seasonBy_X9_arrived
theorem dX9_seasonBy_0 : decode cX9_seasonBy 0 = .ok (.bipush (-9), 2) := by decide +kernel
theorem dX9_seasonBy_2 : decode cX9_seasonBy 2 = .ok (.istore 4, 2) := by decide +kernel
theorem dX9_seasonBy_4 : decode cX9_seasonBy 4 = .ok (.aload_n 0, 1) := by decide +kernel
theorem dX9_seasonBy_5 : decode cX9_seasonBy 5 = .ok (.bipush (-9), 2) := by decide +kernel
theorem dX9_seasonBy_7 : decode cX9_seasonBy 7 = .ok (.putfield 206, 3) := by decide +kernel
theorem dX9_seasonBy_10 : decode cX9_seasonBy 10 = .ok (.aload_n 0, 1) := by decide +kernel
theorem dX9_seasonBy_11 : decode cX9_seasonBy 11 = .ok (.invokevirtual 209, 3) := by decide +kernel
theorem dX9_seasonBy_14 : decode cX9_seasonBy 14 = .ok (.iconst 0, 1) := by decide +kernel
theorem dX9_seasonBy_15 : decode cX9_seasonBy 15 = .ok (.istore 5, 2) := by decide +kernel
theorem dX9_seasonBy_17 : decode cX9_seasonBy 17 = .ok (.iload 5, 2) := by decide +kernel
theorem dX9_seasonBy_19 : decode cX9_seasonBy 19 = .ok (.iload_n 2, 1) := by decide +kernel
theorem dX9_seasonBy_20 : decode cX9_seasonBy 20 = .ok (.if_icmp .ge 54, 3) := by decide +kernel
theorem dX9_seasonBy_23 : decode cX9_seasonBy 23 = .ok (.iload 4, 2) := by decide +kernel
theorem dX9_seasonBy_25 : decode cX9_seasonBy 25 = .ok (.ifCond .ge 49, 3) := by decide +kernel
theorem dX9_seasonBy_28 : decode cX9_seasonBy 28 = .ok (.aload_n 0, 1) := by decide +kernel
theorem dX9_seasonBy_29 : decode cX9_seasonBy 29 = .ok (.aload_n 0, 1) := by decide +kernel
theorem dX9_seasonBy_30 : decode cX9_seasonBy 30 = .ok (.getfield 76, 3) := by decide +kernel
theorem dX9_seasonBy_33 : decode cX9_seasonBy 33 = .ok (.iload_n 1, 1) := by decide +kernel
theorem dX9_seasonBy_34 : decode cX9_seasonBy 34 = .ok (.iconst 2, 1) := by decide +kernel
theorem dX9_seasonBy_35 : decode cX9_seasonBy 35 = .ok (.iload 5, 2) := by decide +kernel
theorem dX9_seasonBy_37 : decode cX9_seasonBy 37 = .ok (.imul, 1) := by decide +kernel
theorem dX9_seasonBy_38 : decode cX9_seasonBy 38 = .ok (.iadd, 1) := by decide +kernel
theorem dX9_seasonBy_39 : decode cX9_seasonBy 39 = .ok (.iaload, 1) := by decide +kernel
theorem dX9_seasonBy_40 : decode cX9_seasonBy 40 = .ok (.aload_n 0, 1) := by decide +kernel
theorem dX9_seasonBy_41 : decode cX9_seasonBy 41 = .ok (.getfield 76, 3) := by decide +kernel
theorem dX9_seasonBy_44 : decode cX9_seasonBy 44 = .ok (.iload_n 1, 1) := by decide +kernel
theorem dX9_seasonBy_45 : decode cX9_seasonBy 45 = .ok (.iconst 2, 1) := by decide +kernel
theorem dX9_seasonBy_46 : decode cX9_seasonBy 46 = .ok (.iload 5, 2) := by decide +kernel
theorem dX9_seasonBy_48 : decode cX9_seasonBy 48 = .ok (.imul, 1) := by decide +kernel
theorem dX9_seasonBy_49 : decode cX9_seasonBy 49 = .ok (.iadd, 1) := by decide +kernel
theorem dX9_seasonBy_50 : decode cX9_seasonBy 50 = .ok (.iconst 1, 1) := by decide +kernel
theorem dX9_seasonBy_51 : decode cX9_seasonBy 51 = .ok (.iadd, 1) := by decide +kernel
theorem dX9_seasonBy_52 : decode cX9_seasonBy 52 = .ok (.iaload, 1) := by decide +kernel
theorem dX9_seasonBy_53 : decode cX9_seasonBy 53 = .ok (.invokevirtual 212, 3) := by decide +kernel
theorem dX9_seasonBy_56 : decode cX9_seasonBy 56 = .ok (.ifCond .eq 8, 3) := by decide +kernel
theorem dX9_seasonBy_59 : decode cX9_seasonBy 59 = .ok (.bipush (-9), 2) := by decide +kernel
theorem dX9_seasonBy_61 : decode cX9_seasonBy 61 = .ok (.goto 5, 3) := by decide +kernel
theorem dX9_seasonBy_64 : decode cX9_seasonBy 64 = .ok (.iload 5, 2) := by decide +kernel
theorem dX9_seasonBy_66 : decode cX9_seasonBy 66 = .ok (.istore 4, 2) := by decide +kernel
theorem dX9_seasonBy_68 : decode cX9_seasonBy 68 = .ok (.iinc 5 1, 3) := by decide +kernel
theorem dX9_seasonBy_71 : decode cX9_seasonBy 71 = .ok (.goto (-54), 3) := by decide +kernel
theorem dX9_seasonBy_74 : decode cX9_seasonBy 74 = .ok (.iload_n 3, 1) := by decide +kernel
theorem dX9_seasonBy_75 : decode cX9_seasonBy 75 = .ok (.iconst 1, 1) := by decide +kernel
theorem dX9_seasonBy_76 : decode cX9_seasonBy 76 = .ok (.if_icmp .ne 6, 3) := by decide +kernel
theorem dX9_seasonBy_79 : decode cX9_seasonBy 79 = .ok (.iload 4, 2) := by decide +kernel
theorem dX9_seasonBy_81 : decode cX9_seasonBy 81 = .ok (.ireturn, 1) := by decide +kernel
theorem dX9_seasonBy_82 : decode cX9_seasonBy 82 = .ok (.iload 4, 2) := by decide +kernel
theorem dX9_seasonBy_84 : decode cX9_seasonBy 84 = .ok (.ifCond .lt 9, 3) := by decide +kernel
theorem dX9_seasonBy_87 : decode cX9_seasonBy 87 = .ok (.bipush (-100), 2) := by decide +kernel
theorem dX9_seasonBy_89 : decode cX9_seasonBy 89 = .ok (.iload 4, 2) := by decide +kernel
theorem dX9_seasonBy_91 : decode cX9_seasonBy 91 = .ok (.isub, 1) := by decide +kernel
theorem dX9_seasonBy_92 : decode cX9_seasonBy 92 = .ok (.ireturn, 1) := by decide +kernel
theorem dX9_seasonBy_93 : decode cX9_seasonBy 93 = .ok (.iload_n 3, 1) := by decide +kernel
theorem dX9_seasonBy_94 : decode cX9_seasonBy 94 = .ok (.bipush 10, 2) := by decide +kernel
theorem dX9_seasonBy_96 : decode cX9_seasonBy 96 = .ok (.if_icmp .lt 29, 3) := by decide +kernel
theorem dX9_seasonBy_99 : decode cX9_seasonBy 99 = .ok (.aload_n 0, 1) := by decide +kernel
theorem dX9_seasonBy_100 : decode cX9_seasonBy 100 = .ok (.iload_n 3, 1) := by decide +kernel
theorem dX9_seasonBy_101 : decode cX9_seasonBy 101 = .ok (.bipush 10, 2) := by decide +kernel
theorem dX9_seasonBy_103 : decode cX9_seasonBy 103 = .ok (.isub, 1) := by decide +kernel
theorem dX9_seasonBy_104 : decode cX9_seasonBy 104 = .ok (.invokevirtual 165, 3) := by decide +kernel
theorem dX9_seasonBy_107 : decode cX9_seasonBy 107 = .ok (.ifCond .eq 8, 3) := by decide +kernel
theorem dX9_seasonBy_110 : decode cX9_seasonBy 110 = .ok (.bipush (-9), 2) := by decide +kernel
theorem dX9_seasonBy_112 : decode cX9_seasonBy 112 = .ok (.goto 12, 3) := by decide +kernel
theorem dX9_seasonBy_115 : decode cX9_seasonBy 115 = .ok (.aload_n 0, 1) := by decide +kernel
theorem dX9_seasonBy_116 : decode cX9_seasonBy 116 = .ok (.getfield 28, 3) := by decide +kernel
theorem dX9_seasonBy_119 : decode cX9_seasonBy 119 = .ok (.iload_n 3, 1) := by decide +kernel
theorem dX9_seasonBy_120 : decode cX9_seasonBy 120 = .ok (.bipush 10, 2) := by decide +kernel
theorem dX9_seasonBy_122 : decode cX9_seasonBy 122 = .ok (.isub, 1) := by decide +kernel
theorem dX9_seasonBy_123 : decode cX9_seasonBy 123 = .ok (.iaload, 1) := by decide +kernel
theorem dX9_seasonBy_124 : decode cX9_seasonBy 124 = .ok (.ireturn, 1) := by decide +kernel
theorem dX9_seasonBy_125 : decode cX9_seasonBy 125 = .ok (.iconst 0, 1) := by decide +kernel
theorem dX9_seasonBy_126 : decode cX9_seasonBy 126 = .ok (.istore 5, 2) := by decide +kernel
theorem dX9_seasonBy_128 : decode cX9_seasonBy 128 = .ok (.iconst 0, 1) := by decide +kernel
theorem dX9_seasonBy_129 : decode cX9_seasonBy 129 = .ok (.istore 6, 2) := by decide +kernel
theorem dX9_seasonBy_131 : decode cX9_seasonBy 131 = .ok (.iload 6, 2) := by decide +kernel
theorem dX9_seasonBy_133 : decode cX9_seasonBy 133 = .ok (.aload_n 0, 1) := by decide +kernel
theorem dX9_seasonBy_134 : decode cX9_seasonBy 134 = .ok (.getfield 92, 3) := by decide +kernel
theorem dX9_seasonBy_137 : decode cX9_seasonBy 137 = .ok (.if_icmp .ge 29, 3) := by decide +kernel
theorem dX9_seasonBy_140 : decode cX9_seasonBy 140 = .ok (.iload 5, 2) := by decide +kernel
theorem dX9_seasonBy_142 : decode cX9_seasonBy 142 = .ok (.aload_n 0, 1) := by decide +kernel
theorem dX9_seasonBy_143 : decode cX9_seasonBy 143 = .ok (.getfield 28, 3) := by decide +kernel
theorem dX9_seasonBy_146 : decode cX9_seasonBy 146 = .ok (.iload 6, 2) := by decide +kernel
theorem dX9_seasonBy_148 : decode cX9_seasonBy 148 = .ok (.iaload, 1) := by decide +kernel
theorem dX9_seasonBy_149 : decode cX9_seasonBy 149 = .ok (.aload_n 0, 1) := by decide +kernel
theorem dX9_seasonBy_150 : decode cX9_seasonBy 150 = .ok (.getfield 46, 3) := by decide +kernel
theorem dX9_seasonBy_153 : decode cX9_seasonBy 153 = .ok (.iload 6, 2) := by decide +kernel
theorem dX9_seasonBy_155 : decode cX9_seasonBy 155 = .ok (.iaload, 1) := by decide +kernel
theorem dX9_seasonBy_156 : decode cX9_seasonBy 156 = .ok (.isub, 1) := by decide +kernel
theorem dX9_seasonBy_157 : decode cX9_seasonBy 157 = .ok (.iadd, 1) := by decide +kernel
theorem dX9_seasonBy_158 : decode cX9_seasonBy 158 = .ok (.istore 5, 2) := by decide +kernel
theorem dX9_seasonBy_160 : decode cX9_seasonBy 160 = .ok (.iinc 6 1, 3) := by decide +kernel
theorem dX9_seasonBy_163 : decode cX9_seasonBy 163 = .ok (.goto (-32), 3) := by decide +kernel
theorem dX9_seasonBy_166 : decode cX9_seasonBy 166 = .ok (.iload_n 3, 1) := by decide +kernel
theorem dX9_seasonBy_167 : decode cX9_seasonBy 167 = .ok (.ifCond .ne 10, 3) := by decide +kernel
theorem dX9_seasonBy_170 : decode cX9_seasonBy 170 = .ok (.aload_n 0, 1) := by decide +kernel
theorem dX9_seasonBy_171 : decode cX9_seasonBy 171 = .ok (.invokevirtual 184, 3) := by decide +kernel
theorem dX9_seasonBy_174 : decode cX9_seasonBy 174 = .ok (.goto 29, 3) := by decide +kernel
theorem dX9_seasonBy_177 : decode cX9_seasonBy 177 = .ok (.iload_n 3, 1) := by decide +kernel
theorem dX9_seasonBy_178 : decode cX9_seasonBy 178 = .ok (.iconst 2, 1) := by decide +kernel
theorem dX9_seasonBy_179 : decode cX9_seasonBy 179 = .ok (.if_icmp .ne 10, 3) := by decide +kernel
theorem dX9_seasonBy_182 : decode cX9_seasonBy 182 = .ok (.aload_n 0, 1) := by decide +kernel
theorem dX9_seasonBy_183 : decode cX9_seasonBy 183 = .ok (.getfield 153, 3) := by decide +kernel
theorem dX9_seasonBy_186 : decode cX9_seasonBy 186 = .ok (.goto 17, 3) := by decide +kernel
theorem dX9_seasonBy_189 : decode cX9_seasonBy 189 = .ok (.iload_n 3, 1) := by decide +kernel
theorem dX9_seasonBy_190 : decode cX9_seasonBy 190 = .ok (.iconst 3, 1) := by decide +kernel
theorem dX9_seasonBy_191 : decode cX9_seasonBy 191 = .ok (.if_icmp .ne 8, 3) := by decide +kernel
theorem dX9_seasonBy_194 : decode cX9_seasonBy 194 = .ok (.iload 5, 2) := by decide +kernel
theorem dX9_seasonBy_196 : decode cX9_seasonBy 196 = .ok (.goto 7, 3) := by decide +kernel
theorem dX9_seasonBy_199 : decode cX9_seasonBy 199 = .ok (.aload_n 0, 1) := by decide +kernel
theorem dX9_seasonBy_200 : decode cX9_seasonBy 200 = .ok (.getfield 206, 3) := by decide +kernel
theorem dX9_seasonBy_203 : decode cX9_seasonBy 203 = .ok (.ireturn, 1) := by decide +kernel
set_option maxRecDepth 20000 in
theorem ggX9_season_X9_noSheet : GoodIn wsX9_season wsX9_noSheet := goodIn_r _ [10, 11, 12, 13, 9, 14] (by decide +kernel) (by decide +kernel)
set_option maxRecDepth 20000 in
theorem gX9_season_X9_noSheet : GoodIn wsX9_season (va_wsS RX9 134 yX9_noSheet wsX9_noSheet) := goodIn_app (goodIn_of _ (by decide +kernel)) ggX9_season_X9_noSheet
set_option maxRecDepth 20000 in
theorem ggX9_season_X9_refused : GoodIn wsX9_season wsX9_refused := goodIn_r _ [18, 19, 106, 107, 108, 109, 110, 111, 112, 113, 114, 115, 116, 117, 118, 119, 120, 121, 122, 123, 124, 125, 126, 127, 128, 129, 130, 131, 132, 133, 134, 135, 136, 137, 138, 139, 140, 141, 142, 143, 144] (by decide +kernel) (by decide +kernel)
set_option maxRecDepth 20000 in
theorem gX9_season_X9_refused : GoodIn wsX9_season (wsV RX9 138 RX9 yX9_refused wsX9_refused) := goodIn_app (goodIn_of _ (by decide +kernel)) ggX9_season_X9_refused
set_option maxRecDepth 20000 in
theorem ggX9_season_X9_in : GoodIn wsX9_season wsX9_in := goodIn_r _ [14] (by decide +kernel) (by decide +kernel)
set_option maxRecDepth 20000 in
theorem gX9_season_X9_in : GoodIn wsX9_season (va_wsS RX9 95 yX9_in wsX9_in) := goodIn_app (goodIn_of _ (by decide +kernel)) ggX9_season_X9_in
set_option maxRecDepth 20000 in
theorem ggX9_season_X9_cellsBarred : GoodIn wsX9_season wsX9_cellsBarred := goodIn_r _ [23, 24, 25, 26, 27, 28, 9, 29, 19, 30, 31, 32, 106, 107, 108, 109, 110, 111, 112, 113, 114, 115, 116, 117, 118, 119, 120, 121, 122, 123, 124, 125, 126, 127, 128, 129, 130, 131, 132, 133, 134, 135, 136, 137, 138, 139, 140, 141, 142, 143, 144] (by decide +kernel) (by decide +kernel)
set_option maxRecDepth 20000 in
theorem gX9_season_X9_cellsBarred : GoodIn wsX9_season (wsV RX9 143 RX9 yX9_cellsBarred wsX9_cellsBarred) := goodIn_app (goodIn_of _ (by decide +kernel)) ggX9_season_X9_cellsBarred
set_option maxRecDepth 20000 in
theorem ggX9_season_X9_pairsBarred : GoodIn wsX9_season wsX9_pairsBarred := goodIn_r _ [36, 37, 1, 38, 12, 13, 9, 14, 39, 40, 41, 42, 6, 106, 107, 108, 109, 110, 111, 112, 113, 114, 115, 116, 117, 118, 119, 120, 121, 122, 123, 124, 125, 126, 127, 128, 129, 130, 131, 132, 133, 134, 135, 136, 137, 138, 139, 140, 141, 142, 143, 144] (by decide +kernel) (by decide +kernel)
set_option maxRecDepth 20000 in
theorem gX9_season_X9_pairsBarred : GoodIn wsX9_season (wsV RX9 223 RX9 yX9_pairsBarred wsX9_pairsBarred) := goodIn_app (goodIn_of _ (by decide +kernel)) ggX9_season_X9_pairsBarred
set_option maxRecDepth 20000 in
theorem ggX9_season_X9_keepAll : GoodIn wsX9_season wsX9_keepAll := goodIn_r _ [46, 47, 48, 49, 50, 6, 51, 52, 106, 107, 108, 109, 110, 111, 112, 113, 114, 115, 116, 117, 118, 119, 120, 121, 122, 123, 124, 125, 126, 127, 128, 129, 130, 131, 132, 133, 134, 135, 136, 137, 138, 139, 140, 141, 142, 143, 144] (by decide +kernel) (by decide +kernel)
set_option maxRecDepth 20000 in
theorem gX9_season_X9_keepAll : GoodIn wsX9_season (wsV RX9 226 RX9 yX9_keepAll wsX9_keepAll) := goodIn_app (goodIn_of _ (by decide +kernel)) ggX9_season_X9_keepAll
set_option maxRecDepth 20000 in
theorem ggX9_season_X9_seasonBy : GoodIn wsX9_season wsX9_seasonBy := goodIn_r _ [56, 57, 37, 52, 6, 51, 47, 58, 59, 60, 9, 61, 49, 50, 62, 63, 64, 65, 66, 67, 68, 69, 70, 71, 72, 73, 74, 75, 76, 77, 78, 79, 80, 81, 82, 83, 84, 85, 86, 87, 88, 89, 90, 91, 92, 93, 94, 95, 96, 97, 98, 99, 100, 101, 39, 40, 41, 42, 12, 13, 14, 106, 107, 108, 109, 110, 111, 112, 113, 114, 115, 116, 117, 118, 119, 120, 121, 122, 123, 124, 125, 126, 127, 128, 129, 130, 131, 132, 133, 134, 135, 136, 137, 138, 139, 140, 141, 142, 143, 144] (by decide +kernel) (by decide +kernel)
set_option maxRecDepth 20000 in
theorem gX9_season_X9_seasonBy : GoodIn wsX9_season (wsV RX9 229 RX9 yX9_seasonBy wsX9_seasonBy) := goodIn_app (goodIn_of _ (by decide +kernel)) ggX9_season_X9_seasonBy
set_option maxRecDepth 20000 in
theorem ggX9_season_X9_bringBack : GoodIn wsX9_season wsX9_bringBack := goodIn_r _ [105, 48, 47, 50, 49, 6, 52, 51, 106, 107, 108, 109, 110, 111, 112, 113, 114, 115, 116, 117, 118, 119, 120, 121, 122, 123, 124, 125, 126, 127, 128, 129, 130, 131, 132, 133, 134, 135, 136, 137, 138, 139, 140, 141, 142, 143, 144] (by decide +kernel) (by decide +kernel)
set_option maxRecDepth 20000 in
theorem gX9_season_X9_bringBack : GoodIn wsX9_season (wsV RX9 233 RX9 yX9_bringBack wsX9_bringBack) := goodIn_app (goodIn_of _ (by decide +kernel)) ggX9_season_X9_bringBack
theorem dX9_season_0 : decode cX9_season 0 = .ok (.iload_n 1, 1) := by decide +kernel
theorem dX9_season_1 : decode cX9_season 1 = .ok (.invokestatic 134, 3) := by decide +kernel
theorem dX9_season_4 : decode cX9_season 4 = .ok (.ifCond .eq 9, 3) := by decide +kernel
theorem dX9_season_7 : decode cX9_season 7 = .ok (.aload_n 0, 1) := by decide +kernel
theorem dX9_season_8 : decode cX9_season 8 = .ok (.iconst (-1), 1) := by decide +kernel
theorem dX9_season_9 : decode cX9_season 9 = .ok (.invokevirtual 138, 3) := by decide +kernel
theorem dX9_season_12 : decode cX9_season 12 = .ok (.ireturn, 1) := by decide +kernel
theorem dX9_season_13 : decode cX9_season 13 = .ok (.iload_n 2, 1) := by decide +kernel
theorem dX9_season_14 : decode cX9_season 14 = .ok (.i2l, 1) := by decide +kernel
theorem dX9_season_15 : decode cX9_season 15 = .ok (.lconst 0, 1) := by decide +kernel
theorem dX9_season_16 : decode cX9_season 16 = .ok (.ldc2_w 141, 3) := by decide +kernel
theorem dX9_season_19 : decode cX9_season 19 = .ok (.invokestatic 95, 3) := by decide +kernel
theorem dX9_season_22 : decode cX9_season 22 = .ok (.ifCond .eq 44, 3) := by decide +kernel
theorem dX9_season_25 : decode cX9_season 25 = .ok (.iload 4, 2) := by decide +kernel
theorem dX9_season_27 : decode cX9_season 27 = .ok (.i2l, 1) := by decide +kernel
theorem dX9_season_28 : decode cX9_season 28 = .ok (.lconst 0, 1) := by decide +kernel
theorem dX9_season_29 : decode cX9_season 29 = .ok (.ldc2_w 215, 3) := by decide +kernel
theorem dX9_season_32 : decode cX9_season 32 = .ok (.invokestatic 95, 3) := by decide +kernel
theorem dX9_season_35 : decode cX9_season 35 = .ok (.ifCond .eq 31, 3) := by decide +kernel
theorem dX9_season_38 : decode cX9_season 38 = .ok (.iload 5, 2) := by decide +kernel
theorem dX9_season_40 : decode cX9_season 40 = .ok (.i2l, 1) := by decide +kernel
theorem dX9_season_41 : decode cX9_season 41 = .ok (.lconst 0, 1) := by decide +kernel
theorem dX9_season_42 : decode cX9_season 42 = .ok (.ldc2_w 217, 3) := by decide +kernel
theorem dX9_season_45 : decode cX9_season 45 = .ok (.invokestatic 95, 3) := by decide +kernel
theorem dX9_season_48 : decode cX9_season 48 = .ok (.ifCond .ne 25, 3) := by decide +kernel
theorem dX9_season_51 : decode cX9_season 51 = .ok (.iload 5, 2) := by decide +kernel
theorem dX9_season_53 : decode cX9_season 53 = .ok (.i2l, 1) := by decide +kernel
theorem dX9_season_54 : decode cX9_season 54 = .ok (.ldc2_w 219, 3) := by decide +kernel
theorem dX9_season_57 : decode cX9_season 57 = .ok (.ldc2_w 221, 3) := by decide +kernel
theorem dX9_season_60 : decode cX9_season 60 = .ok (.invokestatic 95, 3) := by decide +kernel
theorem dX9_season_63 : decode cX9_season 63 = .ok (.ifCond .ne 10, 3) := by decide +kernel
theorem dX9_season_66 : decode cX9_season 66 = .ok (.aload_n 0, 1) := by decide +kernel
theorem dX9_season_67 : decode cX9_season 67 = .ok (.bipush (-2), 2) := by decide +kernel
theorem dX9_season_69 : decode cX9_season 69 = .ok (.invokevirtual 138, 3) := by decide +kernel
theorem dX9_season_72 : decode cX9_season 72 = .ok (.ireturn, 1) := by decide +kernel
theorem dX9_season_73 : decode cX9_season 73 = .ok (.aload_n 0, 1) := by decide +kernel
theorem dX9_season_74 : decode cX9_season 74 = .ok (.getfield 92, 3) := by decide +kernel
theorem dX9_season_77 : decode cX9_season 77 = .ok (.ifCond .ne 10, 3) := by decide +kernel
theorem dX9_season_80 : decode cX9_season 80 = .ok (.aload_n 0, 1) := by decide +kernel
theorem dX9_season_81 : decode cX9_season 81 = .ok (.bipush (-3), 2) := by decide +kernel
theorem dX9_season_83 : decode cX9_season 83 = .ok (.invokevirtual 138, 3) := by decide +kernel
theorem dX9_season_86 : decode cX9_season 86 = .ok (.ireturn, 1) := by decide +kernel
theorem dX9_season_87 : decode cX9_season 87 = .ok (.aload_n 0, 1) := by decide +kernel
theorem dX9_season_88 : decode cX9_season 88 = .ok (.iload_n 1, 1) := by decide +kernel
theorem dX9_season_89 : decode cX9_season 89 = .ok (.iload_n 2, 1) := by decide +kernel
theorem dX9_season_90 : decode cX9_season 90 = .ok (.iload_n 3, 1) := by decide +kernel
theorem dX9_season_91 : decode cX9_season 91 = .ok (.ldc2_w 141, 3) := by decide +kernel
theorem dX9_season_94 : decode cX9_season 94 = .ok (.iload 4, 2) := by decide +kernel
theorem dX9_season_96 : decode cX9_season 96 = .ok (.i2l, 1) := by decide +kernel
theorem dX9_season_97 : decode cX9_season 97 = .ok (.lmul, 1) := by decide +kernel
theorem dX9_season_98 : decode cX9_season 98 = .ok (.invokevirtual 143, 3) := by decide +kernel
theorem dX9_season_101 : decode cX9_season 101 = .ok (.istore 6, 2) := by decide +kernel
theorem dX9_season_103 : decode cX9_season 103 = .ok (.iload 6, 2) := by decide +kernel
theorem dX9_season_105 : decode cX9_season 105 = .ok (.ifCond .ge 6, 3) := by decide +kernel
theorem dX9_season_108 : decode cX9_season 108 = .ok (.iload 6, 2) := by decide +kernel
theorem dX9_season_110 : decode cX9_season 110 = .ok (.ireturn, 1) := by decide +kernel
theorem dX9_season_111 : decode cX9_season 111 = .ok (.aload_n 0, 1) := by decide +kernel
theorem dX9_season_112 : decode cX9_season 112 = .ok (.bipush 60, 2) := by decide +kernel
theorem dX9_season_114 : decode cX9_season 114 = .ok (.iload_n 1, 1) := by decide +kernel
theorem dX9_season_115 : decode cX9_season 115 = .ok (.imul, 1) := by decide +kernel
theorem dX9_season_116 : decode cX9_season 116 = .ok (.iload_n 3, 1) := by decide +kernel
theorem dX9_season_117 : decode cX9_season 117 = .ok (.iadd, 1) := by decide +kernel
theorem dX9_season_118 : decode cX9_season 118 = .ok (.iload 4, 2) := by decide +kernel
theorem dX9_season_120 : decode cX9_season 120 = .ok (.invokevirtual 223, 3) := by decide +kernel
theorem dX9_season_123 : decode cX9_season 123 = .ok (.istore 6, 2) := by decide +kernel
theorem dX9_season_125 : decode cX9_season 125 = .ok (.iload 6, 2) := by decide +kernel
theorem dX9_season_127 : decode cX9_season 127 = .ok (.ifCond .ge 10, 3) := by decide +kernel
theorem dX9_season_130 : decode cX9_season 130 = .ok (.aload_n 0, 1) := by decide +kernel
theorem dX9_season_131 : decode cX9_season 131 = .ok (.iload 6, 2) := by decide +kernel
theorem dX9_season_133 : decode cX9_season 133 = .ok (.invokevirtual 138, 3) := by decide +kernel
theorem dX9_season_136 : decode cX9_season 136 = .ok (.ireturn, 1) := by decide +kernel
theorem dX9_season_137 : decode cX9_season 137 = .ok (.aload_n 0, 1) := by decide +kernel
theorem dX9_season_138 : decode cX9_season 138 = .ok (.invokevirtual 226, 3) := by decide +kernel
theorem dX9_season_141 : decode cX9_season 141 = .ok (.aload_n 0, 1) := by decide +kernel
theorem dX9_season_142 : decode cX9_season 142 = .ok (.bipush 60, 2) := by decide +kernel
theorem dX9_season_144 : decode cX9_season 144 = .ok (.iload_n 1, 1) := by decide +kernel
theorem dX9_season_145 : decode cX9_season 145 = .ok (.imul, 1) := by decide +kernel
theorem dX9_season_146 : decode cX9_season 146 = .ok (.iload_n 3, 1) := by decide +kernel
theorem dX9_season_147 : decode cX9_season 147 = .ok (.iadd, 1) := by decide +kernel
theorem dX9_season_148 : decode cX9_season 148 = .ok (.iload 4, 2) := by decide +kernel
theorem dX9_season_150 : decode cX9_season 150 = .ok (.iload 5, 2) := by decide +kernel
theorem dX9_season_152 : decode cX9_season 152 = .ok (.invokevirtual 229, 3) := by decide +kernel
theorem dX9_season_155 : decode cX9_season 155 = .ok (.istore 7, 2) := by decide +kernel
theorem dX9_season_157 : decode cX9_season 157 = .ok (.aload_n 0, 1) := by decide +kernel
theorem dX9_season_158 : decode cX9_season 158 = .ok (.invokevirtual 233, 3) := by decide +kernel
theorem dX9_season_161 : decode cX9_season 161 = .ok (.aload_n 0, 1) := by decide +kernel
theorem dX9_season_162 : decode cX9_season 162 = .ok (.iload 7, 2) := by decide +kernel
theorem dX9_season_164 : decode cX9_season 164 = .ok (.invokevirtual 138, 3) := by decide +kernel
theorem dX9_season_167 : decode cX9_season 167 = .ok (.ireturn, 1) := by decide +kernel
set_option maxRecDepth 20000 in
theorem ggX9_nextTo_X9_farFrom : GoodIn wsX9_nextTo wsX9_farFrom := goodIn_r _ [7, 8, 9, 10, 11, 12, 13, 14, 15, 16, 17, 18, 19, 20, 21, 22, 23, 24, 25, 26, 27, 28, 29, 30, 31, 32, 33, 34, 35, 36, 37, 38, 39, 40, 41, 42, 43, 44, 45, 46, 47] (by decide +kernel) (by decide +kernel)
set_option maxRecDepth 20000 in
theorem gX9_nextTo_X9_farFrom : GoodIn wsX9_nextTo (wsV RX9 162 RX9 yX9_farFrom wsX9_farFrom) := goodIn_app (goodIn_of _ (by decide +kernel)) ggX9_nextTo_X9_farFrom
theorem dX9_nextTo_0 : decode cX9_nextTo 0 = .ok (.bipush (-9), 2) := by decide +kernel
theorem dX9_nextTo_2 : decode cX9_nextTo 2 = .ok (.istore_n 3, 1) := by decide +kernel
theorem dX9_nextTo_3 : decode cX9_nextTo 3 = .ok (.aload_n 0, 1) := by decide +kernel
theorem dX9_nextTo_4 : decode cX9_nextTo 4 = .ok (.getfield 99, 3) := by decide +kernel
theorem dX9_nextTo_7 : decode cX9_nextTo 7 = .ok (.iconst 1, 1) := by decide +kernel
theorem dX9_nextTo_8 : decode cX9_nextTo 8 = .ok (.isub, 1) := by decide +kernel
theorem dX9_nextTo_9 : decode cX9_nextTo 9 = .ok (.istore 4, 2) := by decide +kernel
theorem dX9_nextTo_11 : decode cX9_nextTo 11 = .ok (.iload 4, 2) := by decide +kernel
theorem dX9_nextTo_13 : decode cX9_nextTo 13 = .ok (.ifCond .lt 76, 3) := by decide +kernel
theorem dX9_nextTo_16 : decode cX9_nextTo 16 = .ok (.aload_n 0, 1) := by decide +kernel
theorem dX9_nextTo_17 : decode cX9_nextTo 17 = .ok (.getfield 7, 3) := by decide +kernel
theorem dX9_nextTo_20 : decode cX9_nextTo 20 = .ok (.bipush 6, 2) := by decide +kernel
theorem dX9_nextTo_22 : decode cX9_nextTo 22 = .ok (.iload_n 1, 1) := by decide +kernel
theorem dX9_nextTo_23 : decode cX9_nextTo 23 = .ok (.imul, 1) := by decide +kernel
theorem dX9_nextTo_24 : decode cX9_nextTo 24 = .ok (.iload 4, 2) := by decide +kernel
theorem dX9_nextTo_26 : decode cX9_nextTo 26 = .ok (.iadd, 1) := by decide +kernel
theorem dX9_nextTo_27 : decode cX9_nextTo 27 = .ok (.iaload, 1) := by decide +kernel
theorem dX9_nextTo_28 : decode cX9_nextTo 28 = .ok (.istore 5, 2) := by decide +kernel
theorem dX9_nextTo_30 : decode cX9_nextTo 30 = .ok (.iload 5, 2) := by decide +kernel
theorem dX9_nextTo_32 : decode cX9_nextTo 32 = .ok (.ifCond .le 36, 3) := by decide +kernel
theorem dX9_nextTo_35 : decode cX9_nextTo 35 = .ok (.aload_n 0, 1) := by decide +kernel
theorem dX9_nextTo_36 : decode cX9_nextTo 36 = .ok (.iload 4, 2) := by decide +kernel
theorem dX9_nextTo_38 : decode cX9_nextTo 38 = .ok (.iload_n 2, 1) := by decide +kernel
theorem dX9_nextTo_39 : decode cX9_nextTo 39 = .ok (.invokevirtual 162, 3) := by decide +kernel
theorem dX9_nextTo_42 : decode cX9_nextTo 42 = .ok (.ifCond .lt 26, 3) := by decide +kernel
theorem dX9_nextTo_45 : decode cX9_nextTo 45 = .ok (.iload 5, 2) := by decide +kernel
theorem dX9_nextTo_47 : decode cX9_nextTo 47 = .ok (.aload_n 0, 1) := by decide +kernel
theorem dX9_nextTo_48 : decode cX9_nextTo 48 = .ok (.iload 4, 2) := by decide +kernel
theorem dX9_nextTo_50 : decode cX9_nextTo 50 = .ok (.iload_n 2, 1) := by decide +kernel
theorem dX9_nextTo_51 : decode cX9_nextTo 51 = .ok (.invokevirtual 162, 3) := by decide +kernel
theorem dX9_nextTo_54 : decode cX9_nextTo 54 = .ok (.iadd, 1) := by decide +kernel
theorem dX9_nextTo_55 : decode cX9_nextTo 55 = .ok (.aload_n 0, 1) := by decide +kernel
theorem dX9_nextTo_56 : decode cX9_nextTo 56 = .ok (.iload_n 1, 1) := by decide +kernel
theorem dX9_nextTo_57 : decode cX9_nextTo 57 = .ok (.iload_n 2, 1) := by decide +kernel
theorem dX9_nextTo_58 : decode cX9_nextTo 58 = .ok (.invokevirtual 162, 3) := by decide +kernel
theorem dX9_nextTo_61 : decode cX9_nextTo 61 = .ok (.if_icmp .ne 7, 3) := by decide +kernel
theorem dX9_nextTo_64 : decode cX9_nextTo 64 = .ok (.iconst 1, 1) := by decide +kernel
theorem dX9_nextTo_65 : decode cX9_nextTo 65 = .ok (.goto 4, 3) := by decide +kernel
theorem dX9_nextTo_68 : decode cX9_nextTo 68 = .ok (.iconst 0, 1) := by decide +kernel
theorem dX9_nextTo_69 : decode cX9_nextTo 69 = .ok (.istore 6, 2) := by decide +kernel
theorem dX9_nextTo_71 : decode cX9_nextTo 71 = .ok (.iload 6, 2) := by decide +kernel
theorem dX9_nextTo_73 : decode cX9_nextTo 73 = .ok (.ifCond .eq 8, 3) := by decide +kernel
theorem dX9_nextTo_76 : decode cX9_nextTo 76 = .ok (.iload 4, 2) := by decide +kernel
theorem dX9_nextTo_78 : decode cX9_nextTo 78 = .ok (.goto 4, 3) := by decide +kernel
theorem dX9_nextTo_81 : decode cX9_nextTo 81 = .ok (.iload_n 3, 1) := by decide +kernel
theorem dX9_nextTo_82 : decode cX9_nextTo 82 = .ok (.istore_n 3, 1) := by decide +kernel
theorem dX9_nextTo_83 : decode cX9_nextTo 83 = .ok (.iinc 4 (-1), 3) := by decide +kernel
theorem dX9_nextTo_86 : decode cX9_nextTo 86 = .ok (.goto (-75), 3) := by decide +kernel
theorem dX9_nextTo_89 : decode cX9_nextTo 89 = .ok (.iload_n 3, 1) := by decide +kernel
theorem dX9_nextTo_90 : decode cX9_nextTo 90 = .ok (.ireturn, 1) := by decide +kernel
set_option maxRecDepth 20000 in
theorem ggX9_way_X9_noCorner : GoodIn wsX9_way wsX9_noCorner := goodIn_r _ [7, 8, 9, 10, 6, 11, 22, 23, 24, 25, 26, 27, 28, 29, 30, 31, 32, 33, 34, 35, 36, 37, 38, 39, 40, 41, 42, 43, 44, 45, 46, 47, 48, 49, 50, 51, 52, 53, 54, 55, 56, 57, 58, 59, 60] (by decide +kernel) (by decide +kernel)
set_option maxRecDepth 20000 in
theorem gX9_way_X9_noCorner : GoodIn wsX9_way (wsV RX9 174 RX9 yX9_noCorner wsX9_noCorner) := goodIn_app (goodIn_of _ (by decide +kernel)) ggX9_way_X9_noCorner
set_option maxRecDepth 20000 in
theorem ggX9_way_X9_in : GoodIn wsX9_way wsX9_in := goodIn_r _ [11] (by decide +kernel) (by decide +kernel)
set_option maxRecDepth 20000 in
theorem gX9_way_X9_in : GoodIn wsX9_way (va_wsS RX9 95 yX9_in wsX9_in) := goodIn_app (goodIn_of _ (by decide +kernel)) ggX9_way_X9_in
set_option maxRecDepth 20000 in
theorem ggX9_way_X9_farFrom : GoodIn wsX9_way wsX9_farFrom := goodIn_r _ [15, 16, 22, 23, 24, 25, 26, 27, 28, 29, 30, 31, 32, 33, 34, 35, 36, 37, 38, 39, 40, 41, 42, 43, 44, 45, 46, 47, 48, 49, 50, 51, 52, 53, 54, 55, 56, 57, 58, 59, 60] (by decide +kernel) (by decide +kernel)
set_option maxRecDepth 20000 in
theorem gX9_way_X9_farFrom : GoodIn wsX9_way (wsV RX9 162 RX9 yX9_farFrom wsX9_farFrom) := goodIn_app (goodIn_of _ (by decide +kernel)) ggX9_way_X9_farFrom
set_option maxRecDepth 20000 in
theorem ggX9_way_X9_nextTo : GoodIn wsX9_way wsX9_nextTo := goodIn_r _ [20, 8, 21, 12, 13, 14, 6, 15, 16, 22, 23, 24, 25, 26, 27, 28, 29, 30, 31, 32, 33, 34, 35, 36, 37, 38, 39, 40, 41, 42, 43, 44, 45, 46, 47, 48, 49, 50, 51, 52, 53, 54, 55, 56, 57, 58, 59, 60] (by decide +kernel) (by decide +kernel)
set_option maxRecDepth 20000 in
theorem gX9_way_X9_nextTo : GoodIn wsX9_way (wsV RX9 240 RX9 yX9_nextTo wsX9_nextTo) := goodIn_app (goodIn_of _ (by decide +kernel)) ggX9_way_X9_nextTo
theorem dX9_way_0 : decode cX9_way 0 = .ok (.aload_n 0, 1) := by decide +kernel
theorem dX9_way_1 : decode cX9_way 1 = .ok (.iload_n 1, 1) := by decide +kernel
theorem dX9_way_2 : decode cX9_way 2 = .ok (.invokevirtual 174, 3) := by decide +kernel
theorem dX9_way_5 : decode cX9_way 5 = .ok (.ifCond .ne 11, 3) := by decide +kernel
theorem dX9_way_8 : decode cX9_way 8 = .ok (.aload_n 0, 1) := by decide +kernel
theorem dX9_way_9 : decode cX9_way 9 = .ok (.iload_n 2, 1) := by decide +kernel
theorem dX9_way_10 : decode cX9_way 10 = .ok (.invokevirtual 174, 3) := by decide +kernel
theorem dX9_way_13 : decode cX9_way 13 = .ok (.ifCond .eq 5, 3) := by decide +kernel
theorem dX9_way_16 : decode cX9_way 16 = .ok (.iconst (-1), 1) := by decide +kernel
theorem dX9_way_17 : decode cX9_way 17 = .ok (.ireturn, 1) := by decide +kernel
theorem dX9_way_18 : decode cX9_way 18 = .ok (.iload_n 3, 1) := by decide +kernel
theorem dX9_way_19 : decode cX9_way 19 = .ok (.i2l, 1) := by decide +kernel
theorem dX9_way_20 : decode cX9_way 20 = .ok (.ldc2_w 236, 3) := by decide +kernel
theorem dX9_way_23 : decode cX9_way 23 = .ok (.ldc2_w 238, 3) := by decide +kernel
theorem dX9_way_26 : decode cX9_way 26 = .ok (.invokestatic 95, 3) := by decide +kernel
theorem dX9_way_29 : decode cX9_way 29 = .ok (.ifCond .ne 6, 3) := by decide +kernel
theorem dX9_way_32 : decode cX9_way 32 = .ok (.bipush (-2), 2) := by decide +kernel
theorem dX9_way_34 : decode cX9_way 34 = .ok (.ireturn, 1) := by decide +kernel
theorem dX9_way_35 : decode cX9_way 35 = .ok (.aload_n 0, 1) := by decide +kernel
theorem dX9_way_36 : decode cX9_way 36 = .ok (.iload_n 1, 1) := by decide +kernel
theorem dX9_way_37 : decode cX9_way 37 = .ok (.iload_n 2, 1) := by decide +kernel
theorem dX9_way_38 : decode cX9_way 38 = .ok (.invokevirtual 162, 3) := by decide +kernel
theorem dX9_way_41 : decode cX9_way 41 = .ok (.ifCond .ge 6, 3) := by decide +kernel
theorem dX9_way_44 : decode cX9_way 44 = .ok (.bipush (-9), 2) := by decide +kernel
theorem dX9_way_46 : decode cX9_way 46 = .ok (.ireturn, 1) := by decide +kernel
theorem dX9_way_47 : decode cX9_way 47 = .ok (.iload_n 1, 1) := by decide +kernel
theorem dX9_way_48 : decode cX9_way 48 = .ok (.istore 4, 2) := by decide +kernel
theorem dX9_way_50 : decode cX9_way 50 = .ok (.iconst 1, 1) := by decide +kernel
theorem dX9_way_51 : decode cX9_way 51 = .ok (.istore 5, 2) := by decide +kernel
theorem dX9_way_53 : decode cX9_way 53 = .ok (.iload 4, 2) := by decide +kernel
theorem dX9_way_55 : decode cX9_way 55 = .ok (.iload_n 2, 1) := by decide +kernel
theorem dX9_way_56 : decode cX9_way 56 = .ok (.if_icmp .eq 26, 3) := by decide +kernel
theorem dX9_way_59 : decode cX9_way 59 = .ok (.iload 5, 2) := by decide +kernel
theorem dX9_way_61 : decode cX9_way 61 = .ok (.iload_n 3, 1) := by decide +kernel
theorem dX9_way_62 : decode cX9_way 62 = .ok (.iconst 1, 1) := by decide +kernel
theorem dX9_way_63 : decode cX9_way 63 = .ok (.iadd, 1) := by decide +kernel
theorem dX9_way_64 : decode cX9_way 64 = .ok (.if_icmp .eq 18, 3) := by decide +kernel
theorem dX9_way_67 : decode cX9_way 67 = .ok (.aload_n 0, 1) := by decide +kernel
theorem dX9_way_68 : decode cX9_way 68 = .ok (.iload 4, 2) := by decide +kernel
theorem dX9_way_70 : decode cX9_way 70 = .ok (.iload_n 2, 1) := by decide +kernel
theorem dX9_way_71 : decode cX9_way 71 = .ok (.invokevirtual 240, 3) := by decide +kernel
theorem dX9_way_74 : decode cX9_way 74 = .ok (.istore 4, 2) := by decide +kernel
theorem dX9_way_76 : decode cX9_way 76 = .ok (.iinc 5 1, 3) := by decide +kernel
theorem dX9_way_79 : decode cX9_way 79 = .ok (.goto (-26), 3) := by decide +kernel
theorem dX9_way_82 : decode cX9_way 82 = .ok (.iload_n 3, 1) := by decide +kernel
theorem dX9_way_83 : decode cX9_way 83 = .ok (.ifCond .ge 8, 3) := by decide +kernel
theorem dX9_way_86 : decode cX9_way 86 = .ok (.iload 5, 2) := by decide +kernel
theorem dX9_way_88 : decode cX9_way 88 = .ok (.goto 18, 3) := by decide +kernel
theorem dX9_way_91 : decode cX9_way 91 = .ok (.iload 5, 2) := by decide +kernel
theorem dX9_way_93 : decode cX9_way 93 = .ok (.iload_n 3, 1) := by decide +kernel
theorem dX9_way_94 : decode cX9_way 94 = .ok (.iconst 1, 1) := by decide +kernel
theorem dX9_way_95 : decode cX9_way 95 = .ok (.iadd, 1) := by decide +kernel
theorem dX9_way_96 : decode cX9_way 96 = .ok (.if_icmp .ne 8, 3) := by decide +kernel
theorem dX9_way_99 : decode cX9_way 99 = .ok (.iload 4, 2) := by decide +kernel
theorem dX9_way_101 : decode cX9_way 101 = .ok (.goto 5, 3) := by decide +kernel
theorem dX9_way_104 : decode cX9_way 104 = .ok (.bipush (-9), 2) := by decide +kernel
theorem dX9_way_106 : decode cX9_way 106 = .ok (.ireturn, 1) := by decide +kernel
set_option maxRecDepth 20000 in
theorem ggX9_round_X9_noFootman : GoodIn wsX9_round wsX9_noFootman := goodIn_r _ [7, 8, 9, 10, 6, 11, 22, 23, 24, 25, 26, 27, 28, 29, 30, 31, 32, 33, 34, 35, 36, 37, 38, 39, 40, 41, 42, 43, 44, 45, 46, 47, 48, 49, 50, 51, 52, 53, 54, 55, 56, 57, 58, 59, 60] (by decide +kernel) (by decide +kernel)
set_option maxRecDepth 20000 in
theorem gX9_round_X9_noFootman : GoodIn wsX9_round (wsV RX9 165 RX9 yX9_noFootman wsX9_noFootman) := goodIn_app (goodIn_of _ (by decide +kernel)) ggX9_round_X9_noFootman
set_option maxRecDepth 20000 in
theorem ggX9_round_X9_noCorner : GoodIn wsX9_round wsX9_noCorner := goodIn_r _ [15, 16, 9, 10, 6, 11, 22, 23, 24, 25, 26, 27, 28, 29, 30, 31, 32, 33, 34, 35, 36, 37, 38, 39, 40, 41, 42, 43, 44, 45, 46, 47, 48, 49, 50, 51, 52, 53, 54, 55, 56, 57, 58, 59, 60] (by decide +kernel) (by decide +kernel)
set_option maxRecDepth 20000 in
theorem gX9_round_X9_noCorner : GoodIn wsX9_round (wsV RX9 174 RX9 yX9_noCorner wsX9_noCorner) := goodIn_app (goodIn_of _ (by decide +kernel)) ggX9_round_X9_noCorner
set_option maxRecDepth 20000 in
theorem ggX9_round_X9_farFrom : GoodIn wsX9_round wsX9_farFrom := goodIn_r _ [20, 21, 22, 23, 24, 25, 26, 27, 28, 29, 30, 31, 32, 33, 34, 35, 36, 37, 38, 39, 40, 41, 42, 43, 44, 45, 46, 47, 48, 49, 50, 51, 52, 53, 54, 55, 56, 57, 58, 59, 60] (by decide +kernel) (by decide +kernel)
set_option maxRecDepth 20000 in
theorem gX9_round_X9_farFrom : GoodIn wsX9_round (wsV RX9 162 RX9 yX9_farFrom wsX9_farFrom) := goodIn_app (goodIn_of _ (by decide +kernel)) ggX9_round_X9_farFrom
theorem dX9_round_0 : decode cX9_round 0 = .ok (.aload_n 0, 1) := by decide +kernel
theorem dX9_round_1 : decode cX9_round 1 = .ok (.iload_n 1, 1) := by decide +kernel
theorem dX9_round_2 : decode cX9_round 2 = .ok (.invokevirtual 165, 3) := by decide +kernel
theorem dX9_round_5 : decode cX9_round 5 = .ok (.ifCond .ne 11, 3) := by decide +kernel
theorem dX9_round_8 : decode cX9_round 8 = .ok (.aload_n 0, 1) := by decide +kernel
theorem dX9_round_9 : decode cX9_round 9 = .ok (.iload_n 2, 1) := by decide +kernel
theorem dX9_round_10 : decode cX9_round 10 = .ok (.invokevirtual 174, 3) := by decide +kernel
theorem dX9_round_13 : decode cX9_round 13 = .ok (.ifCond .eq 5, 3) := by decide +kernel
theorem dX9_round_16 : decode cX9_round 16 = .ok (.iconst (-1), 1) := by decide +kernel
theorem dX9_round_17 : decode cX9_round 17 = .ok (.ireturn, 1) := by decide +kernel
theorem dX9_round_18 : decode cX9_round 18 = .ok (.aload_n 0, 1) := by decide +kernel
theorem dX9_round_19 : decode cX9_round 19 = .ok (.aload_n 0, 1) := by decide +kernel
theorem dX9_round_20 : decode cX9_round 20 = .ok (.getfield 19, 3) := by decide +kernel
theorem dX9_round_23 : decode cX9_round 23 = .ok (.iload_n 1, 1) := by decide +kernel
theorem dX9_round_24 : decode cX9_round 24 = .ok (.iaload, 1) := by decide +kernel
theorem dX9_round_25 : decode cX9_round 25 = .ok (.iload_n 2, 1) := by decide +kernel
theorem dX9_round_26 : decode cX9_round 26 = .ok (.invokevirtual 162, 3) := by decide +kernel
theorem dX9_round_29 : decode cX9_round 29 = .ok (.istore_n 3, 1) := by decide +kernel
theorem dX9_round_30 : decode cX9_round 30 = .ok (.aload_n 0, 1) := by decide +kernel
theorem dX9_round_31 : decode cX9_round 31 = .ok (.iload_n 2, 1) := by decide +kernel
theorem dX9_round_32 : decode cX9_round 32 = .ok (.aload_n 0, 1) := by decide +kernel
theorem dX9_round_33 : decode cX9_round 33 = .ok (.getfield 22, 3) := by decide +kernel
theorem dX9_round_36 : decode cX9_round 36 = .ok (.iload_n 1, 1) := by decide +kernel
theorem dX9_round_37 : decode cX9_round 37 = .ok (.iaload, 1) := by decide +kernel
theorem dX9_round_38 : decode cX9_round 38 = .ok (.invokevirtual 162, 3) := by decide +kernel
theorem dX9_round_41 : decode cX9_round 41 = .ok (.istore 4, 2) := by decide +kernel
theorem dX9_round_43 : decode cX9_round 43 = .ok (.iload_n 3, 1) := by decide +kernel
theorem dX9_round_44 : decode cX9_round 44 = .ok (.ifCond .lt 8, 3) := by decide +kernel
theorem dX9_round_47 : decode cX9_round 47 = .ok (.iload 4, 2) := by decide +kernel
theorem dX9_round_49 : decode cX9_round 49 = .ok (.ifCond .ge 8, 3) := by decide +kernel
theorem dX9_round_52 : decode cX9_round 52 = .ok (.bipush (-9), 2) := by decide +kernel
theorem dX9_round_54 : decode cX9_round 54 = .ok (.goto 24, 3) := by decide +kernel
theorem dX9_round_57 : decode cX9_round 57 = .ok (.iload_n 3, 1) := by decide +kernel
theorem dX9_round_58 : decode cX9_round 58 = .ok (.iload 4, 2) := by decide +kernel
theorem dX9_round_60 : decode cX9_round 60 = .ok (.iadd, 1) := by decide +kernel
theorem dX9_round_61 : decode cX9_round 61 = .ok (.aload_n 0, 1) := by decide +kernel
theorem dX9_round_62 : decode cX9_round 62 = .ok (.aload_n 0, 1) := by decide +kernel
theorem dX9_round_63 : decode cX9_round 63 = .ok (.getfield 19, 3) := by decide +kernel
theorem dX9_round_66 : decode cX9_round 66 = .ok (.iload_n 1, 1) := by decide +kernel
theorem dX9_round_67 : decode cX9_round 67 = .ok (.iaload, 1) := by decide +kernel
theorem dX9_round_68 : decode cX9_round 68 = .ok (.aload_n 0, 1) := by decide +kernel
theorem dX9_round_69 : decode cX9_round 69 = .ok (.getfield 22, 3) := by decide +kernel
theorem dX9_round_72 : decode cX9_round 72 = .ok (.iload_n 1, 1) := by decide +kernel
theorem dX9_round_73 : decode cX9_round 73 = .ok (.iaload, 1) := by decide +kernel
theorem dX9_round_74 : decode cX9_round 74 = .ok (.invokevirtual 162, 3) := by decide +kernel
theorem dX9_round_77 : decode cX9_round 77 = .ok (.isub, 1) := by decide +kernel
theorem dX9_round_78 : decode cX9_round 78 = .ok (.ireturn, 1) := by decide +kernel
set_option maxRecDepth 20000 in
theorem ggX9_kept_X9_noFootman : GoodIn wsX9_kept wsX9_noFootman := goodIn_r _ [5, 6, 7, 8, 4, 9, 48, 49, 50, 51, 52, 53, 54, 55, 56, 57, 58, 59, 60, 61, 62, 63, 64, 65, 66, 67, 68, 69, 70, 71, 72, 73, 74, 75, 76, 77, 78, 79, 80, 81, 82, 83, 84, 85, 86] (by decide +kernel) (by decide +kernel)
set_option maxRecDepth 20000 in
theorem gX9_kept_X9_noFootman : GoodIn wsX9_kept (wsV RX9 165 RX9 yX9_noFootman wsX9_noFootman) := goodIn_app (goodIn_of _ (by decide +kernel)) ggX9_kept_X9_noFootman
set_option maxRecDepth 20000 in
theorem ggX9_kept_X9_keepAll : GoodIn wsX9_kept wsX9_keepAll := goodIn_r _ [13, 14, 15, 16, 17, 6, 18, 19, 48, 49, 50, 51, 52, 53, 54, 55, 56, 57, 58, 59, 60, 61, 62, 63, 64, 65, 66, 67, 68, 69, 70, 71, 72, 73, 74, 75, 76, 77, 78, 79, 80, 81, 82, 83, 84, 85, 86] (by decide +kernel) (by decide +kernel)
set_option maxRecDepth 20000 in
theorem gX9_kept_X9_keepAll : GoodIn wsX9_kept (wsV RX9 226 RX9 yX9_keepAll wsX9_keepAll) := goodIn_app (goodIn_of _ (by decide +kernel)) ggX9_kept_X9_keepAll
set_option maxRecDepth 20000 in
theorem ggX9_kept_X9_hasArrived : GoodIn wsX9_kept wsX9_hasArrived := goodIn_r _ [23, 24, 25, 19, 26, 27, 28, 4, 29, 30, 48, 49, 50, 51, 52, 53, 54, 55, 56, 57, 58, 59, 60, 61, 62, 63, 64, 65, 66, 67, 68, 69, 70, 71, 72, 73, 74, 75, 76, 77, 78, 79, 80, 81, 82, 83, 84, 85, 86] (by decide +kernel) (by decide +kernel)
set_option maxRecDepth 20000 in
theorem gX9_kept_X9_hasArrived : GoodIn wsX9_kept (wsV RX9 171 RX9 yX9_hasArrived wsX9_hasArrived) := goodIn_app (goodIn_of _ (by decide +kernel)) ggX9_kept_X9_hasArrived
set_option maxRecDepth 20000 in
theorem ggX9_kept_X9_passes : GoodIn wsX9_kept wsX9_passes := goodIn_r _ [34, 6, 19, 14, 16, 35, 36, 4, 37, 20, 21, 22, 23, 24, 25, 26, 27, 28, 29, 30, 38, 39, 40, 41, 42, 43, 48, 49, 50, 51, 52, 53, 54, 55, 56, 57, 58, 59, 60, 61, 62, 63, 64, 65, 66, 67, 68, 69, 70, 71, 72, 73, 74, 75, 76, 77, 78, 79, 80, 81, 82, 83, 84, 85, 86] (by decide +kernel) (by decide +kernel)
set_option maxRecDepth 20000 in
theorem gX9_kept_X9_passes : GoodIn wsX9_kept (wsV RX9 188 RX9 yX9_passes wsX9_passes) := goodIn_app (goodIn_of _ (by decide +kernel)) ggX9_kept_X9_passes
set_option maxRecDepth 20000 in
theorem ggX9_kept_X9_bringBack : GoodIn wsX9_kept wsX9_bringBack := goodIn_r _ [47, 15, 14, 17, 16, 6, 19, 18, 48, 49, 50, 51, 52, 53, 54, 55, 56, 57, 58, 59, 60, 61, 62, 63, 64, 65, 66, 67, 68, 69, 70, 71, 72, 73, 74, 75, 76, 77, 78, 79, 80, 81, 82, 83, 84, 85, 86] (by decide +kernel) (by decide +kernel)
set_option maxRecDepth 20000 in
theorem gX9_kept_X9_bringBack : GoodIn wsX9_kept (wsV RX9 233 RX9 yX9_bringBack wsX9_bringBack) := goodIn_app (goodIn_of _ (by decide +kernel)) ggX9_kept_X9_bringBack
theorem dX9_kept_0 : decode cX9_kept 0 = .ok (.aload_n 0, 1) := by decide +kernel
theorem dX9_kept_1 : decode cX9_kept 1 = .ok (.iload_n 1, 1) := by decide +kernel
theorem dX9_kept_2 : decode cX9_kept 2 = .ok (.invokevirtual 165, 3) := by decide +kernel
theorem dX9_kept_5 : decode cX9_kept 5 = .ok (.ifCond .eq 5, 3) := by decide +kernel
theorem dX9_kept_8 : decode cX9_kept 8 = .ok (.iconst (-1), 1) := by decide +kernel
theorem dX9_kept_9 : decode cX9_kept 9 = .ok (.ireturn, 1) := by decide +kernel
theorem dX9_kept_10 : decode cX9_kept 10 = .ok (.aload_n 0, 1) := by decide +kernel
theorem dX9_kept_11 : decode cX9_kept 11 = .ok (.invokevirtual 226, 3) := by decide +kernel
theorem dX9_kept_14 : decode cX9_kept 14 = .ok (.iconst 0, 1) := by decide +kernel
theorem dX9_kept_15 : decode cX9_kept 15 = .ok (.istore_n 2, 1) := by decide +kernel
theorem dX9_kept_16 : decode cX9_kept 16 = .ok (.iload_n 2, 1) := by decide +kernel
theorem dX9_kept_17 : decode cX9_kept 17 = .ok (.sipush 999, 3) := by decide +kernel
theorem dX9_kept_20 : decode cX9_kept 20 = .ok (.if_icmp .gt 21, 3) := by decide +kernel
theorem dX9_kept_23 : decode cX9_kept 23 = .ok (.aload_n 0, 1) := by decide +kernel
theorem dX9_kept_24 : decode cX9_kept 24 = .ok (.iload_n 1, 1) := by decide +kernel
theorem dX9_kept_25 : decode cX9_kept 25 = .ok (.invokevirtual 171, 3) := by decide +kernel
theorem dX9_kept_28 : decode cX9_kept 28 = .ok (.ifCond .ne 13, 3) := by decide +kernel
theorem dX9_kept_31 : decode cX9_kept 31 = .ok (.aload_n 0, 1) := by decide +kernel
theorem dX9_kept_32 : decode cX9_kept 32 = .ok (.invokevirtual 188, 3) := by decide +kernel
theorem dX9_kept_35 : decode cX9_kept 35 = .ok (.iinc 2 1, 3) := by decide +kernel
theorem dX9_kept_38 : decode cX9_kept 38 = .ok (.goto (-22), 3) := by decide +kernel
theorem dX9_kept_41 : decode cX9_kept 41 = .ok (.aload_n 0, 1) := by decide +kernel
theorem dX9_kept_42 : decode cX9_kept 42 = .ok (.invokevirtual 233, 3) := by decide +kernel
theorem dX9_kept_45 : decode cX9_kept 45 = .ok (.iload_n 2, 1) := by decide +kernel
theorem dX9_kept_46 : decode cX9_kept 46 = .ok (.sipush 999, 3) := by decide +kernel
theorem dX9_kept_49 : decode cX9_kept 49 = .ok (.if_icmp .le 8, 3) := by decide +kernel
theorem dX9_kept_52 : decode cX9_kept 52 = .ok (.bipush (-9), 2) := by decide +kernel
theorem dX9_kept_54 : decode cX9_kept 54 = .ok (.goto 4, 3) := by decide +kernel
theorem dX9_kept_57 : decode cX9_kept 57 = .ok (.iload_n 2, 1) := by decide +kernel
theorem dX9_kept_58 : decode cX9_kept 58 = .ok (.ireturn, 1) := by decide +kernel
set_option maxRecDepth 20000 in
theorem ggX9_farthest_X9_farFrom : GoodIn wsX9_farthest wsX9_farFrom := goodIn_r _ [6, 7, 8, 9, 10, 11, 12, 13, 14, 15, 16, 17, 18, 19, 20, 21, 22, 23, 24, 25, 26, 27, 28, 29, 30, 31, 32, 33, 34, 35, 36, 37, 38, 39, 40, 41, 42, 43, 44, 45, 46] (by decide +kernel) (by decide +kernel)
set_option maxRecDepth 20000 in
theorem gX9_farthest_X9_farFrom : GoodIn wsX9_farthest (wsV RX9 162 RX9 yX9_farFrom wsX9_farFrom) := goodIn_app (goodIn_of _ (by decide +kernel)) ggX9_farthest_X9_farFrom
theorem dX9_farthest_0 : decode cX9_farthest 0 = .ok (.iconst 0, 1) := by decide +kernel
theorem dX9_farthest_1 : decode cX9_farthest 1 = .ok (.istore_n 2, 1) := by decide +kernel
theorem dX9_farthest_2 : decode cX9_farthest 2 = .ok (.iconst 0, 1) := by decide +kernel
theorem dX9_farthest_3 : decode cX9_farthest 3 = .ok (.istore_n 3, 1) := by decide +kernel
theorem dX9_farthest_4 : decode cX9_farthest 4 = .ok (.iload_n 3, 1) := by decide +kernel
theorem dX9_farthest_5 : decode cX9_farthest 5 = .ok (.aload_n 0, 1) := by decide +kernel
theorem dX9_farthest_6 : decode cX9_farthest 6 = .ok (.getfield 99, 3) := by decide +kernel
theorem dX9_farthest_9 : decode cX9_farthest 9 = .ok (.if_icmp .ge 44, 3) := by decide +kernel
theorem dX9_farthest_12 : decode cX9_farthest 12 = .ok (.aload_n 0, 1) := by decide +kernel
theorem dX9_farthest_13 : decode cX9_farthest 13 = .ok (.iload_n 1, 1) := by decide +kernel
theorem dX9_farthest_14 : decode cX9_farthest 14 = .ok (.iload_n 3, 1) := by decide +kernel
theorem dX9_farthest_15 : decode cX9_farthest 15 = .ok (.invokevirtual 162, 3) := by decide +kernel
theorem dX9_farthest_18 : decode cX9_farthest 18 = .ok (.istore 4, 2) := by decide +kernel
theorem dX9_farthest_20 : decode cX9_farthest 20 = .ok (.iload_n 2, 1) := by decide +kernel
theorem dX9_farthest_21 : decode cX9_farthest 21 = .ok (.ifCond .lt 8, 3) := by decide +kernel
theorem dX9_farthest_24 : decode cX9_farthest 24 = .ok (.iload 4, 2) := by decide +kernel
theorem dX9_farthest_26 : decode cX9_farthest 26 = .ok (.ifCond .ge 8, 3) := by decide +kernel
theorem dX9_farthest_29 : decode cX9_farthest 29 = .ok (.bipush (-9), 2) := by decide +kernel
theorem dX9_farthest_31 : decode cX9_farthest 31 = .ok (.goto 15, 3) := by decide +kernel
theorem dX9_farthest_34 : decode cX9_farthest 34 = .ok (.iload 4, 2) := by decide +kernel
theorem dX9_farthest_36 : decode cX9_farthest 36 = .ok (.iload_n 2, 1) := by decide +kernel
theorem dX9_farthest_37 : decode cX9_farthest 37 = .ok (.if_icmp .le 8, 3) := by decide +kernel
theorem dX9_farthest_40 : decode cX9_farthest 40 = .ok (.iload 4, 2) := by decide +kernel
theorem dX9_farthest_42 : decode cX9_farthest 42 = .ok (.goto 4, 3) := by decide +kernel
theorem dX9_farthest_45 : decode cX9_farthest 45 = .ok (.iload_n 2, 1) := by decide +kernel
theorem dX9_farthest_46 : decode cX9_farthest 46 = .ok (.istore_n 2, 1) := by decide +kernel
theorem dX9_farthest_47 : decode cX9_farthest 47 = .ok (.iinc 3 1, 3) := by decide +kernel
theorem dX9_farthest_50 : decode cX9_farthest 50 = .ok (.goto (-46), 3) := by decide +kernel
theorem dX9_farthest_53 : decode cX9_farthest 53 = .ok (.iload_n 2, 1) := by decide +kernel
theorem dX9_farthest_54 : decode cX9_farthest 54 = .ok (.ireturn, 1) := by decide +kernel
set_option maxRecDepth 20000 in
theorem ggX9_middle_X9_in : GoodIn wsX9_middle wsX9_in := goodIn_r _ [6] (by decide +kernel) (by decide +kernel)
set_option maxRecDepth 20000 in
theorem gX9_middle_X9_in : GoodIn wsX9_middle (va_wsS RX9 95 yX9_in wsX9_in) := goodIn_app (goodIn_of _ (by decide +kernel)) ggX9_middle_X9_in
set_option maxRecDepth 20000 in
theorem ggX9_middle_X9_farthest : GoodIn wsX9_middle wsX9_farthest := goodIn_r _ [10, 2, 11, 12, 13, 5, 14, 15, 16, 17, 18, 19, 20, 21, 22, 23, 24, 25, 26, 27, 28, 29, 30, 31, 32, 33, 34, 35, 36, 37, 38, 39, 40, 41, 42, 43, 44, 45, 46, 47, 48, 49, 50, 51, 52, 53, 54] (by decide +kernel) (by decide +kernel)
set_option maxRecDepth 20000 in
theorem gX9_middle_X9_farthest : GoodIn wsX9_middle (wsV RX9 243 RX9 yX9_farthest wsX9_farthest) := goodIn_app (goodIn_of _ (by decide +kernel)) ggX9_middle_X9_farthest
theorem dX9_middle_0 : decode cX9_middle 0 = .ok (.aload_n 0, 1) := by decide +kernel
theorem dX9_middle_1 : decode cX9_middle 1 = .ok (.getfield 92, 3) := by decide +kernel
theorem dX9_middle_4 : decode cX9_middle 4 = .ok (.ifCond .ne 6, 3) := by decide +kernel
theorem dX9_middle_7 : decode cX9_middle 7 = .ok (.bipush (-3), 2) := by decide +kernel
theorem dX9_middle_9 : decode cX9_middle 9 = .ok (.ireturn, 1) := by decide +kernel
theorem dX9_middle_10 : decode cX9_middle 10 = .ok (.iload_n 1, 1) := by decide +kernel
theorem dX9_middle_11 : decode cX9_middle 11 = .ok (.i2l, 1) := by decide +kernel
theorem dX9_middle_12 : decode cX9_middle 12 = .ok (.lconst 0, 1) := by decide +kernel
theorem dX9_middle_13 : decode cX9_middle 13 = .ok (.lconst 1, 1) := by decide +kernel
theorem dX9_middle_14 : decode cX9_middle 14 = .ok (.invokestatic 95, 3) := by decide +kernel
theorem dX9_middle_17 : decode cX9_middle 17 = .ok (.ifCond .ne 6, 3) := by decide +kernel
theorem dX9_middle_20 : decode cX9_middle 20 = .ok (.bipush (-2), 2) := by decide +kernel
theorem dX9_middle_22 : decode cX9_middle 22 = .ok (.ireturn, 1) := by decide +kernel
theorem dX9_middle_23 : decode cX9_middle 23 = .ok (.bipush (-9), 2) := by decide +kernel
theorem dX9_middle_25 : decode cX9_middle 25 = .ok (.istore_n 2, 1) := by decide +kernel
theorem dX9_middle_26 : decode cX9_middle 26 = .ok (.bipush (-9), 2) := by decide +kernel
theorem dX9_middle_28 : decode cX9_middle 28 = .ok (.istore_n 3, 1) := by decide +kernel
theorem dX9_middle_29 : decode cX9_middle 29 = .ok (.iconst 0, 1) := by decide +kernel
theorem dX9_middle_30 : decode cX9_middle 30 = .ok (.istore 4, 2) := by decide +kernel
theorem dX9_middle_32 : decode cX9_middle 32 = .ok (.iload 4, 2) := by decide +kernel
theorem dX9_middle_34 : decode cX9_middle 34 = .ok (.aload_n 0, 1) := by decide +kernel
theorem dX9_middle_35 : decode cX9_middle 35 = .ok (.getfield 99, 3) := by decide +kernel
theorem dX9_middle_38 : decode cX9_middle 38 = .ok (.if_icmp .ge 63, 3) := by decide +kernel
theorem dX9_middle_41 : decode cX9_middle 41 = .ok (.aload_n 0, 1) := by decide +kernel
theorem dX9_middle_42 : decode cX9_middle 42 = .ok (.iload 4, 2) := by decide +kernel
theorem dX9_middle_44 : decode cX9_middle 44 = .ok (.invokevirtual 243, 3) := by decide +kernel
theorem dX9_middle_47 : decode cX9_middle 47 = .ok (.istore 5, 2) := by decide +kernel
theorem dX9_middle_49 : decode cX9_middle 49 = .ok (.iload 5, 2) := by decide +kernel
theorem dX9_middle_51 : decode cX9_middle 51 = .ok (.ifCond .lt 17, 3) := by decide +kernel
theorem dX9_middle_54 : decode cX9_middle 54 = .ok (.iload_n 2, 1) := by decide +kernel
theorem dX9_middle_55 : decode cX9_middle 55 = .ok (.ifCond .lt 9, 3) := by decide +kernel
theorem dX9_middle_58 : decode cX9_middle 58 = .ok (.iload 5, 2) := by decide +kernel
theorem dX9_middle_60 : decode cX9_middle 60 = .ok (.iload_n 3, 1) := by decide +kernel
theorem dX9_middle_61 : decode cX9_middle 61 = .ok (.if_icmp .ge 7, 3) := by decide +kernel
theorem dX9_middle_64 : decode cX9_middle 64 = .ok (.iconst 1, 1) := by decide +kernel
theorem dX9_middle_65 : decode cX9_middle 65 = .ok (.goto 4, 3) := by decide +kernel
theorem dX9_middle_68 : decode cX9_middle 68 = .ok (.iconst 0, 1) := by decide +kernel
theorem dX9_middle_69 : decode cX9_middle 69 = .ok (.istore 6, 2) := by decide +kernel
theorem dX9_middle_71 : decode cX9_middle 71 = .ok (.iload 6, 2) := by decide +kernel
theorem dX9_middle_73 : decode cX9_middle 73 = .ok (.ifCond .eq 8, 3) := by decide +kernel
theorem dX9_middle_76 : decode cX9_middle 76 = .ok (.iload 4, 2) := by decide +kernel
theorem dX9_middle_78 : decode cX9_middle 78 = .ok (.goto 4, 3) := by decide +kernel
theorem dX9_middle_81 : decode cX9_middle 81 = .ok (.iload_n 2, 1) := by decide +kernel
theorem dX9_middle_82 : decode cX9_middle 82 = .ok (.istore_n 2, 1) := by decide +kernel
theorem dX9_middle_83 : decode cX9_middle 83 = .ok (.iload 6, 2) := by decide +kernel
theorem dX9_middle_85 : decode cX9_middle 85 = .ok (.ifCond .eq 8, 3) := by decide +kernel
theorem dX9_middle_88 : decode cX9_middle 88 = .ok (.iload 5, 2) := by decide +kernel
theorem dX9_middle_90 : decode cX9_middle 90 = .ok (.goto 4, 3) := by decide +kernel
theorem dX9_middle_93 : decode cX9_middle 93 = .ok (.iload_n 3, 1) := by decide +kernel
theorem dX9_middle_94 : decode cX9_middle 94 = .ok (.istore_n 3, 1) := by decide +kernel
theorem dX9_middle_95 : decode cX9_middle 95 = .ok (.iinc 4 1, 3) := by decide +kernel
theorem dX9_middle_98 : decode cX9_middle 98 = .ok (.goto (-66), 3) := by decide +kernel
theorem dX9_middle_101 : decode cX9_middle 101 = .ok (.iload_n 1, 1) := by decide +kernel
theorem dX9_middle_102 : decode cX9_middle 102 = .ok (.ifCond .ne 7, 3) := by decide +kernel
theorem dX9_middle_105 : decode cX9_middle 105 = .ok (.iload_n 2, 1) := by decide +kernel
theorem dX9_middle_106 : decode cX9_middle 106 = .ok (.goto 4, 3) := by decide +kernel
theorem dX9_middle_109 : decode cX9_middle 109 = .ok (.iload_n 3, 1) := by decide +kernel
theorem dX9_middle_110 : decode cX9_middle 110 = .ok (.ireturn, 1) := by decide +kernel
theorem dX9_joins_0 : decode cX9_joins 0 = .ok (.aload_n 0, 1) := by decide +kernel
theorem dX9_joins_1 : decode cX9_joins 1 = .ok (.getfield 49, 3) := by decide +kernel
theorem dX9_joins_4 : decode cX9_joins 4 = .ok (.iload_n 2, 1) := by decide +kernel
theorem dX9_joins_5 : decode cX9_joins 5 = .ok (.iaload, 1) := by decide +kernel
theorem dX9_joins_6 : decode cX9_joins 6 = .ok (.istore 4, 2) := by decide +kernel
theorem dX9_joins_8 : decode cX9_joins 8 = .ok (.iconst 0, 1) := by decide +kernel
theorem dX9_joins_9 : decode cX9_joins 9 = .ok (.istore 5, 2) := by decide +kernel
theorem dX9_joins_11 : decode cX9_joins 11 = .ok (.iload 5, 2) := by decide +kernel
theorem dX9_joins_13 : decode cX9_joins 13 = .ok (.aload_n 0, 1) := by decide +kernel
theorem dX9_joins_14 : decode cX9_joins 14 = .ok (.getfield 99, 3) := by decide +kernel
theorem dX9_joins_17 : decode cX9_joins 17 = .ok (.if_icmp .ge 44, 3) := by decide +kernel
theorem dX9_joins_20 : decode cX9_joins 20 = .ok (.aload_n 0, 1) := by decide +kernel
theorem dX9_joins_21 : decode cX9_joins 21 = .ok (.getfield 49, 3) := by decide +kernel
theorem dX9_joins_24 : decode cX9_joins 24 = .ok (.iload 5, 2) := by decide +kernel
theorem dX9_joins_26 : decode cX9_joins 26 = .ok (.aload_n 0, 1) := by decide +kernel
theorem dX9_joins_27 : decode cX9_joins 27 = .ok (.getfield 49, 3) := by decide +kernel
theorem dX9_joins_30 : decode cX9_joins 30 = .ok (.iload 5, 2) := by decide +kernel
theorem dX9_joins_32 : decode cX9_joins 32 = .ok (.iaload, 1) := by decide +kernel
theorem dX9_joins_33 : decode cX9_joins 33 = .ok (.iload 4, 2) := by decide +kernel
theorem dX9_joins_35 : decode cX9_joins 35 = .ok (.if_icmp .ne 12, 3) := by decide +kernel
theorem dX9_joins_38 : decode cX9_joins 38 = .ok (.aload_n 0, 1) := by decide +kernel
theorem dX9_joins_39 : decode cX9_joins 39 = .ok (.getfield 49, 3) := by decide +kernel
theorem dX9_joins_42 : decode cX9_joins 42 = .ok (.iload_n 1, 1) := by decide +kernel
theorem dX9_joins_43 : decode cX9_joins 43 = .ok (.iaload, 1) := by decide +kernel
theorem dX9_joins_44 : decode cX9_joins 44 = .ok (.goto 10, 3) := by decide +kernel
theorem dX9_joins_47 : decode cX9_joins 47 = .ok (.aload_n 0, 1) := by decide +kernel
theorem dX9_joins_48 : decode cX9_joins 48 = .ok (.getfield 49, 3) := by decide +kernel
theorem dX9_joins_51 : decode cX9_joins 51 = .ok (.iload 5, 2) := by decide +kernel
theorem dX9_joins_53 : decode cX9_joins 53 = .ok (.iaload, 1) := by decide +kernel
theorem dX9_joins_54 : decode cX9_joins 54 = .ok (.iastore, 1) := by decide +kernel
theorem dX9_joins_55 : decode cX9_joins 55 = .ok (.iinc 5 1, 3) := by decide +kernel
theorem dX9_joins_58 : decode cX9_joins 58 = .ok (.goto (-47), 3) := by decide +kernel
theorem dX9_joins_61 : decode cX9_joins 61 = .ok (.aload_n 0, 1) := by decide +kernel
theorem dX9_joins_62 : decode cX9_joins 62 = .ok (.dup, 1) := by decide +kernel
theorem dX9_joins_63 : decode cX9_joins 63 = .ok (.getfield 246, 3) := by decide +kernel
theorem dX9_joins_66 : decode cX9_joins 66 = .ok (.iconst 1, 1) := by decide +kernel
theorem dX9_joins_67 : decode cX9_joins 67 = .ok (.iload_n 3, 1) := by decide +kernel
theorem dX9_joins_68 : decode cX9_joins 68 = .ok (.ishl, 1) := by decide +kernel
theorem dX9_joins_69 : decode cX9_joins 69 = .ok (.ior, 1) := by decide +kernel
theorem dX9_joins_70 : decode cX9_joins 70 = .ok (.putfield 246, 3) := by decide +kernel
theorem dX9_joins_73 : decode cX9_joins 73 = .ok (.aload_n 0, 1) := by decide +kernel
theorem dX9_joins_74 : decode cX9_joins 74 = .ok (.dup, 1) := by decide +kernel
theorem dX9_joins_75 : decode cX9_joins 75 = .ok (.getfield 249, 3) := by decide +kernel
theorem dX9_joins_78 : decode cX9_joins 78 = .ok (.aload_n 0, 1) := by decide +kernel
theorem dX9_joins_79 : decode cX9_joins 79 = .ok (.getfield 7, 3) := by decide +kernel
theorem dX9_joins_82 : decode cX9_joins 82 = .ok (.bipush 6, 2) := by decide +kernel
theorem dX9_joins_84 : decode cX9_joins 84 = .ok (.iload_n 1, 1) := by decide +kernel
theorem dX9_joins_85 : decode cX9_joins 85 = .ok (.imul, 1) := by decide +kernel
theorem dX9_joins_86 : decode cX9_joins 86 = .ok (.iload_n 2, 1) := by decide +kernel
theorem dX9_joins_87 : decode cX9_joins 87 = .ok (.iadd, 1) := by decide +kernel
theorem dX9_joins_88 : decode cX9_joins 88 = .ok (.iaload, 1) := by decide +kernel
theorem dX9_joins_89 : decode cX9_joins 89 = .ok (.iadd, 1) := by decide +kernel
theorem dX9_joins_90 : decode cX9_joins 90 = .ok (.putfield 249, 3) := by decide +kernel
theorem dX9_joins_93 : decode cX9_joins 93 = .ok (.return_, 1) := by decide +kernel
set_option maxRecDepth 20000 in
theorem ggX9_joinsAll_X9_joins : GoodIn wsX9_joinsAll wsX9_joins := goodIn_r _ [8, 3, 1, 9, 10, 2, 11, 12, 13, 14, 15, 16, 17, 18, 19, 20, 21, 22, 23, 24, 25, 26, 27, 28, 29, 30, 31, 32, 33, 34, 35, 36, 37, 38, 39, 40, 41, 42, 43, 44, 45, 46, 47, 48, 49] (by decide +kernel) (by decide +kernel)
set_option maxRecDepth 20000 in
theorem gX9_joinsAll_X9_joins : GoodIn wsX9_joinsAll (wsV RX9 252 RX9 yX9_joins wsX9_joins) := goodIn_app (goodIn_of _ (by decide +kernel)) ggX9_joinsAll_X9_joins
theorem dX9_joinsAll_0 : decode cX9_joinsAll 0 = .ok (.iconst 0, 1) := by decide +kernel
theorem dX9_joinsAll_1 : decode cX9_joinsAll 1 = .ok (.istore_n 2, 1) := by decide +kernel
theorem dX9_joinsAll_2 : decode cX9_joinsAll 2 = .ok (.iconst 0, 1) := by decide +kernel
theorem dX9_joinsAll_3 : decode cX9_joinsAll 3 = .ok (.istore_n 3, 1) := by decide +kernel
theorem dX9_joinsAll_4 : decode cX9_joinsAll 4 = .ok (.iload_n 3, 1) := by decide +kernel
theorem dX9_joinsAll_5 : decode cX9_joinsAll 5 = .ok (.aload_n 0, 1) := by decide +kernel
theorem dX9_joinsAll_6 : decode cX9_joinsAll 6 = .ok (.getfield 99, 3) := by decide +kernel
theorem dX9_joinsAll_9 : decode cX9_joinsAll 9 = .ok (.if_icmp .ge 72, 3) := by decide +kernel
theorem dX9_joinsAll_12 : decode cX9_joinsAll 12 = .ok (.iload_n 3, 1) := by decide +kernel
theorem dX9_joinsAll_13 : decode cX9_joinsAll 13 = .ok (.iconst 1, 1) := by decide +kernel
theorem dX9_joinsAll_14 : decode cX9_joinsAll 14 = .ok (.iadd, 1) := by decide +kernel
theorem dX9_joinsAll_15 : decode cX9_joinsAll 15 = .ok (.istore 4, 2) := by decide +kernel
theorem dX9_joinsAll_17 : decode cX9_joinsAll 17 = .ok (.iload 4, 2) := by decide +kernel
theorem dX9_joinsAll_19 : decode cX9_joinsAll 19 = .ok (.aload_n 0, 1) := by decide +kernel
theorem dX9_joinsAll_20 : decode cX9_joinsAll 20 = .ok (.getfield 99, 3) := by decide +kernel
theorem dX9_joinsAll_23 : decode cX9_joinsAll 23 = .ok (.if_icmp .ge 52, 3) := by decide +kernel
theorem dX9_joinsAll_26 : decode cX9_joinsAll 26 = .ok (.aload_n 0, 1) := by decide +kernel
theorem dX9_joinsAll_27 : decode cX9_joinsAll 27 = .ok (.getfield 7, 3) := by decide +kernel
theorem dX9_joinsAll_30 : decode cX9_joinsAll 30 = .ok (.bipush 6, 2) := by decide +kernel
theorem dX9_joinsAll_32 : decode cX9_joinsAll 32 = .ok (.iload_n 3, 1) := by decide +kernel
theorem dX9_joinsAll_33 : decode cX9_joinsAll 33 = .ok (.imul, 1) := by decide +kernel
theorem dX9_joinsAll_34 : decode cX9_joinsAll 34 = .ok (.iload 4, 2) := by decide +kernel
theorem dX9_joinsAll_36 : decode cX9_joinsAll 36 = .ok (.iadd, 1) := by decide +kernel
theorem dX9_joinsAll_37 : decode cX9_joinsAll 37 = .ok (.iaload, 1) := by decide +kernel
theorem dX9_joinsAll_38 : decode cX9_joinsAll 38 = .ok (.iload_n 1, 1) := by decide +kernel
theorem dX9_joinsAll_39 : decode cX9_joinsAll 39 = .ok (.if_icmp .ne 27, 3) := by decide +kernel
theorem dX9_joinsAll_42 : decode cX9_joinsAll 42 = .ok (.aload_n 0, 1) := by decide +kernel
theorem dX9_joinsAll_43 : decode cX9_joinsAll 43 = .ok (.getfield 49, 3) := by decide +kernel
theorem dX9_joinsAll_46 : decode cX9_joinsAll 46 = .ok (.iload_n 3, 1) := by decide +kernel
theorem dX9_joinsAll_47 : decode cX9_joinsAll 47 = .ok (.iaload, 1) := by decide +kernel
theorem dX9_joinsAll_48 : decode cX9_joinsAll 48 = .ok (.aload_n 0, 1) := by decide +kernel
theorem dX9_joinsAll_49 : decode cX9_joinsAll 49 = .ok (.getfield 49, 3) := by decide +kernel
theorem dX9_joinsAll_52 : decode cX9_joinsAll 52 = .ok (.iload 4, 2) := by decide +kernel
theorem dX9_joinsAll_54 : decode cX9_joinsAll 54 = .ok (.iaload, 1) := by decide +kernel
theorem dX9_joinsAll_55 : decode cX9_joinsAll 55 = .ok (.if_icmp .eq 11, 3) := by decide +kernel
theorem dX9_joinsAll_58 : decode cX9_joinsAll 58 = .ok (.aload_n 0, 1) := by decide +kernel
theorem dX9_joinsAll_59 : decode cX9_joinsAll 59 = .ok (.iload_n 3, 1) := by decide +kernel
theorem dX9_joinsAll_60 : decode cX9_joinsAll 60 = .ok (.iload 4, 2) := by decide +kernel
theorem dX9_joinsAll_62 : decode cX9_joinsAll 62 = .ok (.iload_n 2, 1) := by decide +kernel
theorem dX9_joinsAll_63 : decode cX9_joinsAll 63 = .ok (.invokevirtual 252, 3) := by decide +kernel
theorem dX9_joinsAll_66 : decode cX9_joinsAll 66 = .ok (.iinc 2 1, 3) := by decide +kernel
theorem dX9_joinsAll_69 : decode cX9_joinsAll 69 = .ok (.iinc 4 1, 3) := by decide +kernel
theorem dX9_joinsAll_72 : decode cX9_joinsAll 72 = .ok (.goto (-55), 3) := by decide +kernel
theorem dX9_joinsAll_75 : decode cX9_joinsAll 75 = .ok (.iinc 3 1, 3) := by decide +kernel
theorem dX9_joinsAll_78 : decode cX9_joinsAll 78 = .ok (.goto (-74), 3) := by decide +kernel
theorem dX9_joinsAll_81 : decode cX9_joinsAll 81 = .ok (.return_, 1) := by decide +kernel
set_option maxRecDepth 20000 in
theorem ggX9_tree_X9_in : GoodIn wsX9_tree wsX9_in := goodIn_r _ [9] (by decide +kernel) (by decide +kernel)
set_option maxRecDepth 20000 in
theorem gX9_tree_X9_in : GoodIn wsX9_tree (va_wsS RX9 95 yX9_in wsX9_in) := goodIn_app (goodIn_of _ (by decide +kernel)) ggX9_tree_X9_in
set_option maxRecDepth 20000 in
theorem ggX9_tree_X9_joinsAll : GoodIn wsX9_tree wsX9_joinsAll := goodIn_r _ [13, 2, 14, 3, 15, 16, 17, 8, 18, 4, 5, 22, 23, 24, 25, 26, 27, 28, 29, 30, 31, 32, 33, 34, 35, 36, 37, 38, 39, 40, 41, 42, 43, 44, 45, 46, 47, 48, 49, 50, 51, 52, 53, 54, 55, 56, 57, 58, 59, 60] (by decide +kernel) (by decide +kernel)
set_option maxRecDepth 20000 in
theorem gX9_tree_X9_joinsAll : GoodIn wsX9_tree (wsV RX9 256 RX9 yX9_joinsAll wsX9_joinsAll) := goodIn_app (goodIn_of _ (by decide +kernel)) ggX9_tree_X9_joinsAll
set_option maxRecDepth 20000 in
theorem ggX9_tree_X9_bits : GoodIn wsX9_tree wsX9_bits := goodIn_r _ [21] (by decide +kernel) (by decide +kernel)
set_option maxRecDepth 20000 in
theorem gX9_tree_X9_bits : GoodIn wsX9_tree (va_wsS RX9 194 yX9_bits wsX9_bits) := goodIn_app (goodIn_of _ (by decide +kernel)) ggX9_tree_X9_bits
theorem dX9_tree_0 : decode cX9_tree 0 = .ok (.aload_n 0, 1) := by decide +kernel
theorem dX9_tree_1 : decode cX9_tree 1 = .ok (.getfield 92, 3) := by decide +kernel
theorem dX9_tree_4 : decode cX9_tree 4 = .ok (.ifCond .ne 6, 3) := by decide +kernel
theorem dX9_tree_7 : decode cX9_tree 7 = .ok (.bipush (-3), 2) := by decide +kernel
theorem dX9_tree_9 : decode cX9_tree 9 = .ok (.ireturn, 1) := by decide +kernel
theorem dX9_tree_10 : decode cX9_tree 10 = .ok (.iload_n 1, 1) := by decide +kernel
theorem dX9_tree_11 : decode cX9_tree 11 = .ok (.i2l, 1) := by decide +kernel
theorem dX9_tree_12 : decode cX9_tree 12 = .ok (.lconst 0, 1) := by decide +kernel
theorem dX9_tree_13 : decode cX9_tree 13 = .ok (.lconst 1, 1) := by decide +kernel
theorem dX9_tree_14 : decode cX9_tree 14 = .ok (.invokestatic 95, 3) := by decide +kernel
theorem dX9_tree_17 : decode cX9_tree 17 = .ok (.ifCond .ne 6, 3) := by decide +kernel
theorem dX9_tree_20 : decode cX9_tree 20 = .ok (.bipush (-2), 2) := by decide +kernel
theorem dX9_tree_22 : decode cX9_tree 22 = .ok (.ireturn, 1) := by decide +kernel
theorem dX9_tree_23 : decode cX9_tree 23 = .ok (.iconst 0, 1) := by decide +kernel
theorem dX9_tree_24 : decode cX9_tree 24 = .ok (.istore_n 2, 1) := by decide +kernel
theorem dX9_tree_25 : decode cX9_tree 25 = .ok (.iload_n 2, 1) := by decide +kernel
theorem dX9_tree_26 : decode cX9_tree 26 = .ok (.aload_n 0, 1) := by decide +kernel
theorem dX9_tree_27 : decode cX9_tree 27 = .ok (.getfield 99, 3) := by decide +kernel
theorem dX9_tree_30 : decode cX9_tree 30 = .ok (.if_icmp .ge 16, 3) := by decide +kernel
theorem dX9_tree_33 : decode cX9_tree 33 = .ok (.aload_n 0, 1) := by decide +kernel
theorem dX9_tree_34 : decode cX9_tree 34 = .ok (.getfield 49, 3) := by decide +kernel
theorem dX9_tree_37 : decode cX9_tree 37 = .ok (.iload_n 2, 1) := by decide +kernel
theorem dX9_tree_38 : decode cX9_tree 38 = .ok (.iload_n 2, 1) := by decide +kernel
theorem dX9_tree_39 : decode cX9_tree 39 = .ok (.iastore, 1) := by decide +kernel
theorem dX9_tree_40 : decode cX9_tree 40 = .ok (.iinc 2 1, 3) := by decide +kernel
theorem dX9_tree_43 : decode cX9_tree 43 = .ok (.goto (-18), 3) := by decide +kernel
theorem dX9_tree_46 : decode cX9_tree 46 = .ok (.aload_n 0, 1) := by decide +kernel
theorem dX9_tree_47 : decode cX9_tree 47 = .ok (.iconst 0, 1) := by decide +kernel
theorem dX9_tree_48 : decode cX9_tree 48 = .ok (.putfield 246, 3) := by decide +kernel
theorem dX9_tree_51 : decode cX9_tree 51 = .ok (.aload_n 0, 1) := by decide +kernel
theorem dX9_tree_52 : decode cX9_tree 52 = .ok (.iconst 0, 1) := by decide +kernel
theorem dX9_tree_53 : decode cX9_tree 53 = .ok (.putfield 249, 3) := by decide +kernel
theorem dX9_tree_56 : decode cX9_tree 56 = .ok (.iconst 1, 1) := by decide +kernel
theorem dX9_tree_57 : decode cX9_tree 57 = .ok (.istore_n 2, 1) := by decide +kernel
theorem dX9_tree_58 : decode cX9_tree 58 = .ok (.iload_n 2, 1) := by decide +kernel
theorem dX9_tree_59 : decode cX9_tree 59 = .ok (.bipush 10, 2) := by decide +kernel
theorem dX9_tree_61 : decode cX9_tree 61 = .ok (.if_icmp .ge 14, 3) := by decide +kernel
theorem dX9_tree_64 : decode cX9_tree 64 = .ok (.aload_n 0, 1) := by decide +kernel
theorem dX9_tree_65 : decode cX9_tree 65 = .ok (.iload_n 2, 1) := by decide +kernel
theorem dX9_tree_66 : decode cX9_tree 66 = .ok (.invokevirtual 256, 3) := by decide +kernel
theorem dX9_tree_69 : decode cX9_tree 69 = .ok (.iinc 2 1, 3) := by decide +kernel
theorem dX9_tree_72 : decode cX9_tree 72 = .ok (.goto (-14), 3) := by decide +kernel
theorem dX9_tree_75 : decode cX9_tree 75 = .ok (.aload_n 0, 1) := by decide +kernel
theorem dX9_tree_76 : decode cX9_tree 76 = .ok (.getfield 246, 3) := by decide +kernel
theorem dX9_tree_79 : decode cX9_tree 79 = .ok (.invokestatic 194, 3) := by decide +kernel
theorem dX9_tree_82 : decode cX9_tree 82 = .ok (.aload_n 0, 1) := by decide +kernel
theorem dX9_tree_83 : decode cX9_tree 83 = .ok (.getfield 99, 3) := by decide +kernel
theorem dX9_tree_86 : decode cX9_tree 86 = .ok (.iconst 1, 1) := by decide +kernel
theorem dX9_tree_87 : decode cX9_tree 87 = .ok (.isub, 1) := by decide +kernel
theorem dX9_tree_88 : decode cX9_tree 88 = .ok (.if_icmp .ge 8, 3) := by decide +kernel
theorem dX9_tree_91 : decode cX9_tree 91 = .ok (.bipush (-9), 2) := by decide +kernel
theorem dX9_tree_93 : decode cX9_tree 93 = .ok (.goto 18, 3) := by decide +kernel
theorem dX9_tree_96 : decode cX9_tree 96 = .ok (.iload_n 1, 1) := by decide +kernel
theorem dX9_tree_97 : decode cX9_tree 97 = .ok (.ifCond .ne 10, 3) := by decide +kernel
theorem dX9_tree_100 : decode cX9_tree 100 = .ok (.aload_n 0, 1) := by decide +kernel
theorem dX9_tree_101 : decode cX9_tree 101 = .ok (.getfield 249, 3) := by decide +kernel
theorem dX9_tree_104 : decode cX9_tree 104 = .ok (.goto 7, 3) := by decide +kernel
theorem dX9_tree_107 : decode cX9_tree 107 = .ok (.aload_n 0, 1) := by decide +kernel
theorem dX9_tree_108 : decode cX9_tree 108 = .ok (.getfield 246, 3) := by decide +kernel
theorem dX9_tree_111 : decode cX9_tree 111 = .ok (.ireturn, 1) := by decide +kernel
theorem dX9_sortsCorners_0 : decode cX9_sortsCorners 0 = .ok (.iconst 0, 1) := by decide +kernel
theorem dX9_sortsCorners_1 : decode cX9_sortsCorners 1 = .ok (.istore_n 1, 1) := by decide +kernel
theorem dX9_sortsCorners_2 : decode cX9_sortsCorners 2 = .ok (.iconst 0, 1) := by decide +kernel
theorem dX9_sortsCorners_3 : decode cX9_sortsCorners 3 = .ok (.istore_n 2, 1) := by decide +kernel
theorem dX9_sortsCorners_4 : decode cX9_sortsCorners 4 = .ok (.iload_n 2, 1) := by decide +kernel
theorem dX9_sortsCorners_5 : decode cX9_sortsCorners 5 = .ok (.aload_n 0, 1) := by decide +kernel
theorem dX9_sortsCorners_6 : decode cX9_sortsCorners 6 = .ok (.getfield 99, 3) := by decide +kernel
theorem dX9_sortsCorners_9 : decode cX9_sortsCorners 9 = .ok (.if_icmp .ge 52, 3) := by decide +kernel
theorem dX9_sortsCorners_12 : decode cX9_sortsCorners 12 = .ok (.iconst 0, 1) := by decide +kernel
theorem dX9_sortsCorners_13 : decode cX9_sortsCorners 13 = .ok (.istore_n 3, 1) := by decide +kernel
theorem dX9_sortsCorners_14 : decode cX9_sortsCorners 14 = .ok (.iload_n 3, 1) := by decide +kernel
theorem dX9_sortsCorners_15 : decode cX9_sortsCorners 15 = .ok (.aload_n 0, 1) := by decide +kernel
theorem dX9_sortsCorners_16 : decode cX9_sortsCorners 16 = .ok (.getfield 92, 3) := by decide +kernel
theorem dX9_sortsCorners_19 : decode cX9_sortsCorners 19 = .ok (.if_icmp .ge 36, 3) := by decide +kernel
theorem dX9_sortsCorners_22 : decode cX9_sortsCorners 22 = .ok (.aload_n 0, 1) := by decide +kernel
theorem dX9_sortsCorners_23 : decode cX9_sortsCorners 23 = .ok (.getfield 22, 3) := by decide +kernel
theorem dX9_sortsCorners_26 : decode cX9_sortsCorners 26 = .ok (.iload_n 3, 1) := by decide +kernel
theorem dX9_sortsCorners_27 : decode cX9_sortsCorners 27 = .ok (.iaload, 1) := by decide +kernel
theorem dX9_sortsCorners_28 : decode cX9_sortsCorners 28 = .ok (.iload_n 2, 1) := by decide +kernel
theorem dX9_sortsCorners_29 : decode cX9_sortsCorners 29 = .ok (.if_icmp .ne 20, 3) := by decide +kernel
theorem dX9_sortsCorners_32 : decode cX9_sortsCorners 32 = .ok (.aload_n 0, 1) := by decide +kernel
theorem dX9_sortsCorners_33 : decode cX9_sortsCorners 33 = .ok (.getfield 52, 3) := by decide +kernel
theorem dX9_sortsCorners_36 : decode cX9_sortsCorners 36 = .ok (.iload_n 1, 1) := by decide +kernel
theorem dX9_sortsCorners_37 : decode cX9_sortsCorners 37 = .ok (.iload_n 2, 1) := by decide +kernel
theorem dX9_sortsCorners_38 : decode cX9_sortsCorners 38 = .ok (.iastore, 1) := by decide +kernel
theorem dX9_sortsCorners_39 : decode cX9_sortsCorners 39 = .ok (.aload_n 0, 1) := by decide +kernel
theorem dX9_sortsCorners_40 : decode cX9_sortsCorners 40 = .ok (.getfield 55, 3) := by decide +kernel
theorem dX9_sortsCorners_43 : decode cX9_sortsCorners 43 = .ok (.iload_n 1, 1) := by decide +kernel
theorem dX9_sortsCorners_44 : decode cX9_sortsCorners 44 = .ok (.iload_n 1, 1) := by decide +kernel
theorem dX9_sortsCorners_45 : decode cX9_sortsCorners 45 = .ok (.iastore, 1) := by decide +kernel
theorem dX9_sortsCorners_46 : decode cX9_sortsCorners 46 = .ok (.iinc 1 1, 3) := by decide +kernel
theorem dX9_sortsCorners_49 : decode cX9_sortsCorners 49 = .ok (.iinc 3 1, 3) := by decide +kernel
theorem dX9_sortsCorners_52 : decode cX9_sortsCorners 52 = .ok (.goto (-38), 3) := by decide +kernel
theorem dX9_sortsCorners_55 : decode cX9_sortsCorners 55 = .ok (.iinc 2 1, 3) := by decide +kernel
theorem dX9_sortsCorners_58 : decode cX9_sortsCorners 58 = .ok (.goto (-54), 3) := by decide +kernel
theorem dX9_sortsCorners_61 : decode cX9_sortsCorners 61 = .ok (.return_, 1) := by decide +kernel
theorem dX9_exchange_0 : decode cX9_exchange 0 = .ok (.aload_n 0, 1) := by decide +kernel
theorem dX9_exchange_1 : decode cX9_exchange 1 = .ok (.getfield 55, 3) := by decide +kernel
theorem dX9_exchange_4 : decode cX9_exchange 4 = .ok (.iload_n 1, 1) := by decide +kernel
theorem dX9_exchange_5 : decode cX9_exchange 5 = .ok (.iaload, 1) := by decide +kernel
theorem dX9_exchange_6 : decode cX9_exchange 6 = .ok (.istore_n 3, 1) := by decide +kernel
theorem dX9_exchange_7 : decode cX9_exchange 7 = .ok (.aload_n 0, 1) := by decide +kernel
theorem dX9_exchange_8 : decode cX9_exchange 8 = .ok (.getfield 55, 3) := by decide +kernel
theorem dX9_exchange_11 : decode cX9_exchange 11 = .ok (.iload_n 1, 1) := by decide +kernel
theorem dX9_exchange_12 : decode cX9_exchange 12 = .ok (.aload_n 0, 1) := by decide +kernel
theorem dX9_exchange_13 : decode cX9_exchange 13 = .ok (.getfield 55, 3) := by decide +kernel
theorem dX9_exchange_16 : decode cX9_exchange 16 = .ok (.iload_n 2, 1) := by decide +kernel
theorem dX9_exchange_17 : decode cX9_exchange 17 = .ok (.iaload, 1) := by decide +kernel
theorem dX9_exchange_18 : decode cX9_exchange 18 = .ok (.iastore, 1) := by decide +kernel
theorem dX9_exchange_19 : decode cX9_exchange 19 = .ok (.aload_n 0, 1) := by decide +kernel
theorem dX9_exchange_20 : decode cX9_exchange 20 = .ok (.getfield 55, 3) := by decide +kernel
theorem dX9_exchange_23 : decode cX9_exchange 23 = .ok (.iload_n 2, 1) := by decide +kernel
theorem dX9_exchange_24 : decode cX9_exchange 24 = .ok (.iload_n 3, 1) := by decide +kernel
theorem dX9_exchange_25 : decode cX9_exchange 25 = .ok (.iastore, 1) := by decide +kernel
theorem dX9_exchange_26 : decode cX9_exchange 26 = .ok (.return_, 1) := by decide +kernel
set_option maxRecDepth 20000 in
theorem ggX9_nextRow_X9_exchange : GoodIn wsX9_nextRow wsX9_exchange := goodIn_r _ [7, 2, 8, 9, 10, 11, 12, 13, 14, 15, 16, 17, 18, 19, 20, 21, 22, 23, 24, 25, 26, 27, 28, 29, 30, 31, 32, 33, 34, 35, 36, 37, 38, 39, 40, 41, 42, 43, 44, 45, 46] (by decide +kernel) (by decide +kernel)
set_option maxRecDepth 20000 in
theorem gX9_nextRow_X9_exchange : GoodIn wsX9_nextRow (wsV RX9 260 RX9 yX9_exchange wsX9_exchange) := goodIn_app (goodIn_of _ (by decide +kernel)) ggX9_nextRow_X9_exchange
theorem dX9_nextRow_0 : decode cX9_nextRow 0 = .ok (.aload_n 0, 1) := by decide +kernel
theorem dX9_nextRow_1 : decode cX9_nextRow 1 = .ok (.getfield 92, 3) := by decide +kernel
theorem dX9_nextRow_4 : decode cX9_nextRow 4 = .ok (.iconst 2, 1) := by decide +kernel
theorem dX9_nextRow_5 : decode cX9_nextRow 5 = .ok (.isub, 1) := by decide +kernel
theorem dX9_nextRow_6 : decode cX9_nextRow 6 = .ok (.istore_n 1, 1) := by decide +kernel
theorem dX9_nextRow_7 : decode cX9_nextRow 7 = .ok (.iload_n 1, 1) := by decide +kernel
theorem dX9_nextRow_8 : decode cX9_nextRow 8 = .ok (.ifCond .lt 26, 3) := by decide +kernel
theorem dX9_nextRow_11 : decode cX9_nextRow 11 = .ok (.aload_n 0, 1) := by decide +kernel
theorem dX9_nextRow_12 : decode cX9_nextRow 12 = .ok (.getfield 55, 3) := by decide +kernel
theorem dX9_nextRow_15 : decode cX9_nextRow 15 = .ok (.iload_n 1, 1) := by decide +kernel
theorem dX9_nextRow_16 : decode cX9_nextRow 16 = .ok (.iaload, 1) := by decide +kernel
theorem dX9_nextRow_17 : decode cX9_nextRow 17 = .ok (.aload_n 0, 1) := by decide +kernel
theorem dX9_nextRow_18 : decode cX9_nextRow 18 = .ok (.getfield 55, 3) := by decide +kernel
theorem dX9_nextRow_21 : decode cX9_nextRow 21 = .ok (.iload_n 1, 1) := by decide +kernel
theorem dX9_nextRow_22 : decode cX9_nextRow 22 = .ok (.iconst 1, 1) := by decide +kernel
theorem dX9_nextRow_23 : decode cX9_nextRow 23 = .ok (.iadd, 1) := by decide +kernel
theorem dX9_nextRow_24 : decode cX9_nextRow 24 = .ok (.iaload, 1) := by decide +kernel
theorem dX9_nextRow_25 : decode cX9_nextRow 25 = .ok (.if_icmp .le 9, 3) := by decide +kernel
theorem dX9_nextRow_28 : decode cX9_nextRow 28 = .ok (.iinc 1 (-1), 3) := by decide +kernel
theorem dX9_nextRow_31 : decode cX9_nextRow 31 = .ok (.goto (-24), 3) := by decide +kernel
theorem dX9_nextRow_34 : decode cX9_nextRow 34 = .ok (.iload_n 1, 1) := by decide +kernel
theorem dX9_nextRow_35 : decode cX9_nextRow 35 = .ok (.ifCond .ge 5, 3) := by decide +kernel
theorem dX9_nextRow_38 : decode cX9_nextRow 38 = .ok (.iconst 0, 1) := by decide +kernel
theorem dX9_nextRow_39 : decode cX9_nextRow 39 = .ok (.ireturn, 1) := by decide +kernel
theorem dX9_nextRow_40 : decode cX9_nextRow 40 = .ok (.aload_n 0, 1) := by decide +kernel
theorem dX9_nextRow_41 : decode cX9_nextRow 41 = .ok (.getfield 92, 3) := by decide +kernel
theorem dX9_nextRow_44 : decode cX9_nextRow 44 = .ok (.iconst 1, 1) := by decide +kernel
theorem dX9_nextRow_45 : decode cX9_nextRow 45 = .ok (.isub, 1) := by decide +kernel
theorem dX9_nextRow_46 : decode cX9_nextRow 46 = .ok (.istore_n 2, 1) := by decide +kernel
theorem dX9_nextRow_47 : decode cX9_nextRow 47 = .ok (.aload_n 0, 1) := by decide +kernel
theorem dX9_nextRow_48 : decode cX9_nextRow 48 = .ok (.getfield 55, 3) := by decide +kernel
theorem dX9_nextRow_51 : decode cX9_nextRow 51 = .ok (.iload_n 2, 1) := by decide +kernel
theorem dX9_nextRow_52 : decode cX9_nextRow 52 = .ok (.iaload, 1) := by decide +kernel
theorem dX9_nextRow_53 : decode cX9_nextRow 53 = .ok (.aload_n 0, 1) := by decide +kernel
theorem dX9_nextRow_54 : decode cX9_nextRow 54 = .ok (.getfield 55, 3) := by decide +kernel
theorem dX9_nextRow_57 : decode cX9_nextRow 57 = .ok (.iload_n 1, 1) := by decide +kernel
theorem dX9_nextRow_58 : decode cX9_nextRow 58 = .ok (.iaload, 1) := by decide +kernel
theorem dX9_nextRow_59 : decode cX9_nextRow 59 = .ok (.if_icmp .ge 9, 3) := by decide +kernel
theorem dX9_nextRow_62 : decode cX9_nextRow 62 = .ok (.iinc 2 (-1), 3) := by decide +kernel
theorem dX9_nextRow_65 : decode cX9_nextRow 65 = .ok (.goto (-18), 3) := by decide +kernel
theorem dX9_nextRow_68 : decode cX9_nextRow 68 = .ok (.aload_n 0, 1) := by decide +kernel
theorem dX9_nextRow_69 : decode cX9_nextRow 69 = .ok (.iload_n 1, 1) := by decide +kernel
theorem dX9_nextRow_70 : decode cX9_nextRow 70 = .ok (.iload_n 2, 1) := by decide +kernel
theorem dX9_nextRow_71 : decode cX9_nextRow 71 = .ok (.invokevirtual 260, 3) := by decide +kernel
theorem dX9_nextRow_74 : decode cX9_nextRow 74 = .ok (.iload_n 1, 1) := by decide +kernel
theorem dX9_nextRow_75 : decode cX9_nextRow 75 = .ok (.iconst 1, 1) := by decide +kernel
theorem dX9_nextRow_76 : decode cX9_nextRow 76 = .ok (.iadd, 1) := by decide +kernel
theorem dX9_nextRow_77 : decode cX9_nextRow 77 = .ok (.istore_n 3, 1) := by decide +kernel
theorem dX9_nextRow_78 : decode cX9_nextRow 78 = .ok (.aload_n 0, 1) := by decide +kernel
theorem dX9_nextRow_79 : decode cX9_nextRow 79 = .ok (.getfield 92, 3) := by decide +kernel
theorem dX9_nextRow_82 : decode cX9_nextRow 82 = .ok (.iconst 1, 1) := by decide +kernel
theorem dX9_nextRow_83 : decode cX9_nextRow 83 = .ok (.isub, 1) := by decide +kernel
theorem dX9_nextRow_84 : decode cX9_nextRow 84 = .ok (.istore 4, 2) := by decide +kernel
theorem dX9_nextRow_86 : decode cX9_nextRow 86 = .ok (.iload 4, 2) := by decide +kernel
theorem dX9_nextRow_88 : decode cX9_nextRow 88 = .ok (.iload_n 3, 1) := by decide +kernel
theorem dX9_nextRow_89 : decode cX9_nextRow 89 = .ok (.if_icmp .le 19, 3) := by decide +kernel
theorem dX9_nextRow_92 : decode cX9_nextRow 92 = .ok (.aload_n 0, 1) := by decide +kernel
theorem dX9_nextRow_93 : decode cX9_nextRow 93 = .ok (.iload_n 3, 1) := by decide +kernel
theorem dX9_nextRow_94 : decode cX9_nextRow 94 = .ok (.iload 4, 2) := by decide +kernel
theorem dX9_nextRow_96 : decode cX9_nextRow 96 = .ok (.invokevirtual 260, 3) := by decide +kernel
theorem dX9_nextRow_99 : decode cX9_nextRow 99 = .ok (.iinc 3 1, 3) := by decide +kernel
theorem dX9_nextRow_102 : decode cX9_nextRow 102 = .ok (.iinc 4 (-1), 3) := by decide +kernel
theorem dX9_nextRow_105 : decode cX9_nextRow 105 = .ok (.goto (-19), 3) := by decide +kernel
theorem dX9_nextRow_108 : decode cX9_nextRow 108 = .ok (.iconst 1, 1) := by decide +kernel
theorem dX9_nextRow_109 : decode cX9_nextRow 109 = .ok (.ireturn, 1) := by decide +kernel
set_option maxRecDepth 20000 in
theorem ggX9_lastOne_X9_farFrom : GoodIn wsX9_lastOne wsX9_farFrom := goodIn_r _ [9, 10, 17, 18, 19, 20, 21, 22, 23, 24, 25, 26, 27, 28, 29, 30, 31, 32, 33, 34, 35, 36, 37, 38, 39, 40, 41, 42, 43, 44, 45, 46, 47, 48, 49, 50, 51, 52, 53, 54, 55] (by decide +kernel) (by decide +kernel)
set_option maxRecDepth 20000 in
theorem gX9_lastOne_X9_farFrom : GoodIn wsX9_lastOne (wsV RX9 162 RX9 yX9_farFrom wsX9_farFrom) := goodIn_app (goodIn_of _ (by decide +kernel)) ggX9_lastOne_X9_farFrom
set_option maxRecDepth 20000 in
theorem ggX9_lastOne_X9_paceOf : GoodIn wsX9_lastOne wsX9_paceOf := goodIn_r _ [14, 15, 16, 17, 18, 19, 20, 21, 22, 23, 24, 25, 26, 27, 28, 29, 30, 31, 32, 33, 34, 35, 36, 37, 38, 39, 40, 41, 42, 43, 44, 45, 46, 47, 48, 49, 50, 51, 52, 53, 54, 55] (by decide +kernel) (by decide +kernel)
set_option maxRecDepth 20000 in
theorem gX9_lastOne_X9_paceOf : GoodIn wsX9_lastOne (wsV RX9 168 RX9 yX9_paceOf wsX9_paceOf) := goodIn_app (goodIn_of _ (by decide +kernel)) ggX9_lastOne_X9_paceOf
theorem dX9_lastOne_0 : decode cX9_lastOne 0 = .ok (.iconst 0, 1) := by decide +kernel
theorem dX9_lastOne_1 : decode cX9_lastOne 1 = .ok (.istore_n 1, 1) := by decide +kernel
theorem dX9_lastOne_2 : decode cX9_lastOne 2 = .ok (.iconst 0, 1) := by decide +kernel
theorem dX9_lastOne_3 : decode cX9_lastOne 3 = .ok (.istore_n 2, 1) := by decide +kernel
theorem dX9_lastOne_4 : decode cX9_lastOne 4 = .ok (.iload_n 2, 1) := by decide +kernel
theorem dX9_lastOne_5 : decode cX9_lastOne 5 = .ok (.aload_n 0, 1) := by decide +kernel
theorem dX9_lastOne_6 : decode cX9_lastOne 6 = .ok (.getfield 92, 3) := by decide +kernel
theorem dX9_lastOne_9 : decode cX9_lastOne 9 = .ok (.if_icmp .ge 84, 3) := by decide +kernel
theorem dX9_lastOne_12 : decode cX9_lastOne 12 = .ok (.aload_n 0, 1) := by decide +kernel
theorem dX9_lastOne_13 : decode cX9_lastOne 13 = .ok (.aload_n 0, 1) := by decide +kernel
theorem dX9_lastOne_14 : decode cX9_lastOne 14 = .ok (.getfield 19, 3) := by decide +kernel
theorem dX9_lastOne_17 : decode cX9_lastOne 17 = .ok (.iload_n 2, 1) := by decide +kernel
theorem dX9_lastOne_18 : decode cX9_lastOne 18 = .ok (.iaload, 1) := by decide +kernel
theorem dX9_lastOne_19 : decode cX9_lastOne 19 = .ok (.aload_n 0, 1) := by decide +kernel
theorem dX9_lastOne_20 : decode cX9_lastOne 20 = .ok (.getfield 52, 3) := by decide +kernel
theorem dX9_lastOne_23 : decode cX9_lastOne 23 = .ok (.aload_n 0, 1) := by decide +kernel
theorem dX9_lastOne_24 : decode cX9_lastOne 24 = .ok (.getfield 55, 3) := by decide +kernel
theorem dX9_lastOne_27 : decode cX9_lastOne 27 = .ok (.iload_n 2, 1) := by decide +kernel
theorem dX9_lastOne_28 : decode cX9_lastOne 28 = .ok (.iaload, 1) := by decide +kernel
theorem dX9_lastOne_29 : decode cX9_lastOne 29 = .ok (.iaload, 1) := by decide +kernel
theorem dX9_lastOne_30 : decode cX9_lastOne 30 = .ok (.invokevirtual 162, 3) := by decide +kernel
theorem dX9_lastOne_33 : decode cX9_lastOne 33 = .ok (.istore_n 3, 1) := by decide +kernel
theorem dX9_lastOne_34 : decode cX9_lastOne 34 = .ok (.iload_n 3, 1) := by decide +kernel
theorem dX9_lastOne_35 : decode cX9_lastOne 35 = .ok (.ifCond .ge 8, 3) := by decide +kernel
theorem dX9_lastOne_38 : decode cX9_lastOne 38 = .ok (.bipush (-9), 2) := by decide +kernel
theorem dX9_lastOne_40 : decode cX9_lastOne 40 = .ok (.goto 18, 3) := by decide +kernel
theorem dX9_lastOne_43 : decode cX9_lastOne 43 = .ok (.iload_n 3, 1) := by decide +kernel
theorem dX9_lastOne_44 : decode cX9_lastOne 44 = .ok (.aload_n 0, 1) := by decide +kernel
theorem dX9_lastOne_45 : decode cX9_lastOne 45 = .ok (.iload_n 2, 1) := by decide +kernel
theorem dX9_lastOne_46 : decode cX9_lastOne 46 = .ok (.invokevirtual 168, 3) := by decide +kernel
theorem dX9_lastOne_49 : decode cX9_lastOne 49 = .ok (.iadd, 1) := by decide +kernel
theorem dX9_lastOne_50 : decode cX9_lastOne 50 = .ok (.iconst 1, 1) := by decide +kernel
theorem dX9_lastOne_51 : decode cX9_lastOne 51 = .ok (.isub, 1) := by decide +kernel
theorem dX9_lastOne_52 : decode cX9_lastOne 52 = .ok (.aload_n 0, 1) := by decide +kernel
theorem dX9_lastOne_53 : decode cX9_lastOne 53 = .ok (.iload_n 2, 1) := by decide +kernel
theorem dX9_lastOne_54 : decode cX9_lastOne 54 = .ok (.invokevirtual 168, 3) := by decide +kernel
theorem dX9_lastOne_57 : decode cX9_lastOne 57 = .ok (.idiv, 1) := by decide +kernel
theorem dX9_lastOne_58 : decode cX9_lastOne 58 = .ok (.istore 4, 2) := by decide +kernel
theorem dX9_lastOne_60 : decode cX9_lastOne 60 = .ok (.iload_n 1, 1) := by decide +kernel
theorem dX9_lastOne_61 : decode cX9_lastOne 61 = .ok (.ifCond .lt 8, 3) := by decide +kernel
theorem dX9_lastOne_64 : decode cX9_lastOne 64 = .ok (.iload 4, 2) := by decide +kernel
theorem dX9_lastOne_66 : decode cX9_lastOne 66 = .ok (.ifCond .ge 8, 3) := by decide +kernel
theorem dX9_lastOne_69 : decode cX9_lastOne 69 = .ok (.bipush (-9), 2) := by decide +kernel
theorem dX9_lastOne_71 : decode cX9_lastOne 71 = .ok (.goto 15, 3) := by decide +kernel
theorem dX9_lastOne_74 : decode cX9_lastOne 74 = .ok (.iload 4, 2) := by decide +kernel
theorem dX9_lastOne_76 : decode cX9_lastOne 76 = .ok (.iload_n 1, 1) := by decide +kernel
theorem dX9_lastOne_77 : decode cX9_lastOne 77 = .ok (.if_icmp .le 8, 3) := by decide +kernel
theorem dX9_lastOne_80 : decode cX9_lastOne 80 = .ok (.iload 4, 2) := by decide +kernel
theorem dX9_lastOne_82 : decode cX9_lastOne 82 = .ok (.goto 4, 3) := by decide +kernel
theorem dX9_lastOne_85 : decode cX9_lastOne 85 = .ok (.iload_n 1, 1) := by decide +kernel
theorem dX9_lastOne_86 : decode cX9_lastOne 86 = .ok (.istore_n 1, 1) := by decide +kernel
theorem dX9_lastOne_87 : decode cX9_lastOne 87 = .ok (.iinc 2 1, 3) := by decide +kernel
theorem dX9_lastOne_90 : decode cX9_lastOne 90 = .ok (.goto (-86), 3) := by decide +kernel
theorem dX9_lastOne_93 : decode cX9_lastOne 93 = .ok (.iload_n 1, 1) := by decide +kernel
theorem dX9_lastOne_94 : decode cX9_lastOne 94 = .ok (.ireturn, 1) := by decide +kernel
set_option maxRecDepth 20000 in
theorem ggX9_bestErrands_X9_sortsCorners : GoodIn wsX9_bestErrands wsX9_sortsCorners := goodIn_r _ [9, 10, 1, 11, 3, 4, 36, 37, 38, 39, 40, 41, 42, 43, 44, 45, 46, 47, 48, 49, 50, 51, 52, 53, 54, 55, 56, 57, 58, 59, 60, 61, 62, 63, 64, 65, 66, 67, 68, 69, 70, 71, 72, 73, 74] (by decide +kernel) (by decide +kernel)
set_option maxRecDepth 20000 in
theorem gX9_bestErrands_X9_sortsCorners : GoodIn wsX9_bestErrands (wsV RX9 264 RX9 yX9_sortsCorners wsX9_sortsCorners) := goodIn_app (goodIn_of _ (by decide +kernel)) ggX9_bestErrands_X9_sortsCorners
set_option maxRecDepth 20000 in
theorem ggX9_bestErrands_X9_lastOne : GoodIn wsX9_bestErrands wsX9_lastOne := goodIn_r _ [15, 1, 16, 3, 4, 17, 18, 19, 8, 20, 21, 22, 23, 24, 25, 26, 27, 36, 37, 38, 39, 40, 41, 42, 43, 44, 45, 46, 47, 48, 49, 50, 51, 52, 53, 54, 55, 56, 57, 58, 59, 60, 61, 62, 63, 64, 65, 66, 67, 68, 69, 70, 71, 72, 73, 74] (by decide +kernel) (by decide +kernel)
set_option maxRecDepth 20000 in
theorem gX9_bestErrands_X9_lastOne : GoodIn wsX9_bestErrands (wsV RX9 267 RX9 yX9_lastOne wsX9_lastOne) := goodIn_app (goodIn_of _ (by decide +kernel)) ggX9_bestErrands_X9_lastOne
set_option maxRecDepth 20000 in
theorem ggX9_bestErrands_X9_nextRow : GoodIn wsX9_bestErrands wsX9_nextRow := goodIn_r _ [31, 1, 4, 32, 33, 34, 8, 35, 36, 37, 38, 39, 40, 41, 42, 43, 44, 45, 46, 47, 48, 49, 50, 51, 52, 53, 54, 55, 56, 57, 58, 59, 60, 61, 62, 63, 64, 65, 66, 67, 68, 69, 70, 71, 72, 73, 74] (by decide +kernel) (by decide +kernel)
set_option maxRecDepth 20000 in
theorem gX9_bestErrands_X9_nextRow : GoodIn wsX9_bestErrands (wsV RX9 270 RX9 yX9_nextRow wsX9_nextRow) := goodIn_app (goodIn_of _ (by decide +kernel)) ggX9_bestErrands_X9_nextRow
theorem dX9_bestErrands_0 : decode cX9_bestErrands 0 = .ok (.aload_n 0, 1) := by decide +kernel
theorem dX9_bestErrands_1 : decode cX9_bestErrands 1 = .ok (.invokevirtual 264, 3) := by decide +kernel
theorem dX9_bestErrands_4 : decode cX9_bestErrands 4 = .ok (.bipush (-9), 2) := by decide +kernel
theorem dX9_bestErrands_6 : decode cX9_bestErrands 6 = .ok (.istore_n 1, 1) := by decide +kernel
theorem dX9_bestErrands_7 : decode cX9_bestErrands 7 = .ok (.iconst 1, 1) := by decide +kernel
theorem dX9_bestErrands_8 : decode cX9_bestErrands 8 = .ok (.istore_n 2, 1) := by decide +kernel
theorem dX9_bestErrands_9 : decode cX9_bestErrands 9 = .ok (.iload_n 2, 1) := by decide +kernel
theorem dX9_bestErrands_10 : decode cX9_bestErrands 10 = .ok (.ifCond .eq 99, 3) := by decide +kernel
theorem dX9_bestErrands_13 : decode cX9_bestErrands 13 = .ok (.aload_n 0, 1) := by decide +kernel
theorem dX9_bestErrands_14 : decode cX9_bestErrands 14 = .ok (.invokevirtual 267, 3) := by decide +kernel
theorem dX9_bestErrands_17 : decode cX9_bestErrands 17 = .ok (.istore_n 3, 1) := by decide +kernel
theorem dX9_bestErrands_18 : decode cX9_bestErrands 18 = .ok (.iload_n 3, 1) := by decide +kernel
theorem dX9_bestErrands_19 : decode cX9_bestErrands 19 = .ok (.ifCond .lt 16, 3) := by decide +kernel
theorem dX9_bestErrands_22 : decode cX9_bestErrands 22 = .ok (.iload_n 1, 1) := by decide +kernel
theorem dX9_bestErrands_23 : decode cX9_bestErrands 23 = .ok (.ifCond .lt 8, 3) := by decide +kernel
theorem dX9_bestErrands_26 : decode cX9_bestErrands 26 = .ok (.iload_n 3, 1) := by decide +kernel
theorem dX9_bestErrands_27 : decode cX9_bestErrands 27 = .ok (.iload_n 1, 1) := by decide +kernel
theorem dX9_bestErrands_28 : decode cX9_bestErrands 28 = .ok (.if_icmp .ge 7, 3) := by decide +kernel
theorem dX9_bestErrands_31 : decode cX9_bestErrands 31 = .ok (.iconst 1, 1) := by decide +kernel
theorem dX9_bestErrands_32 : decode cX9_bestErrands 32 = .ok (.goto 4, 3) := by decide +kernel
theorem dX9_bestErrands_35 : decode cX9_bestErrands 35 = .ok (.iconst 0, 1) := by decide +kernel
theorem dX9_bestErrands_36 : decode cX9_bestErrands 36 = .ok (.istore 4, 2) := by decide +kernel
theorem dX9_bestErrands_38 : decode cX9_bestErrands 38 = .ok (.iconst 0, 1) := by decide +kernel
theorem dX9_bestErrands_39 : decode cX9_bestErrands 39 = .ok (.istore 5, 2) := by decide +kernel
theorem dX9_bestErrands_41 : decode cX9_bestErrands 41 = .ok (.iload 5, 2) := by decide +kernel
theorem dX9_bestErrands_43 : decode cX9_bestErrands 43 = .ok (.aload_n 0, 1) := by decide +kernel
theorem dX9_bestErrands_44 : decode cX9_bestErrands 44 = .ok (.getfield 92, 3) := by decide +kernel
theorem dX9_bestErrands_47 : decode cX9_bestErrands 47 = .ok (.if_icmp .ge 43, 3) := by decide +kernel
theorem dX9_bestErrands_50 : decode cX9_bestErrands 50 = .ok (.aload_n 0, 1) := by decide +kernel
theorem dX9_bestErrands_51 : decode cX9_bestErrands 51 = .ok (.getfield 58, 3) := by decide +kernel
theorem dX9_bestErrands_54 : decode cX9_bestErrands 54 = .ok (.iload 5, 2) := by decide +kernel
theorem dX9_bestErrands_56 : decode cX9_bestErrands 56 = .ok (.iload 4, 2) := by decide +kernel
theorem dX9_bestErrands_58 : decode cX9_bestErrands 58 = .ok (.ifCond .eq 18, 3) := by decide +kernel
theorem dX9_bestErrands_61 : decode cX9_bestErrands 61 = .ok (.aload_n 0, 1) := by decide +kernel
theorem dX9_bestErrands_62 : decode cX9_bestErrands 62 = .ok (.getfield 52, 3) := by decide +kernel
theorem dX9_bestErrands_65 : decode cX9_bestErrands 65 = .ok (.aload_n 0, 1) := by decide +kernel
theorem dX9_bestErrands_66 : decode cX9_bestErrands 66 = .ok (.getfield 55, 3) := by decide +kernel
theorem dX9_bestErrands_69 : decode cX9_bestErrands 69 = .ok (.iload 5, 2) := by decide +kernel
theorem dX9_bestErrands_71 : decode cX9_bestErrands 71 = .ok (.iaload, 1) := by decide +kernel
theorem dX9_bestErrands_72 : decode cX9_bestErrands 72 = .ok (.iaload, 1) := by decide +kernel
theorem dX9_bestErrands_73 : decode cX9_bestErrands 73 = .ok (.goto 10, 3) := by decide +kernel
theorem dX9_bestErrands_76 : decode cX9_bestErrands 76 = .ok (.aload_n 0, 1) := by decide +kernel
theorem dX9_bestErrands_77 : decode cX9_bestErrands 77 = .ok (.getfield 58, 3) := by decide +kernel
theorem dX9_bestErrands_80 : decode cX9_bestErrands 80 = .ok (.iload 5, 2) := by decide +kernel
theorem dX9_bestErrands_82 : decode cX9_bestErrands 82 = .ok (.iaload, 1) := by decide +kernel
theorem dX9_bestErrands_83 : decode cX9_bestErrands 83 = .ok (.iastore, 1) := by decide +kernel
theorem dX9_bestErrands_84 : decode cX9_bestErrands 84 = .ok (.iinc 5 1, 3) := by decide +kernel
theorem dX9_bestErrands_87 : decode cX9_bestErrands 87 = .ok (.goto (-46), 3) := by decide +kernel
theorem dX9_bestErrands_90 : decode cX9_bestErrands 90 = .ok (.iload 4, 2) := by decide +kernel
theorem dX9_bestErrands_92 : decode cX9_bestErrands 92 = .ok (.ifCond .eq 7, 3) := by decide +kernel
theorem dX9_bestErrands_95 : decode cX9_bestErrands 95 = .ok (.iload_n 3, 1) := by decide +kernel
theorem dX9_bestErrands_96 : decode cX9_bestErrands 96 = .ok (.goto 4, 3) := by decide +kernel
theorem dX9_bestErrands_99 : decode cX9_bestErrands 99 = .ok (.iload_n 1, 1) := by decide +kernel
theorem dX9_bestErrands_100 : decode cX9_bestErrands 100 = .ok (.istore_n 1, 1) := by decide +kernel
theorem dX9_bestErrands_101 : decode cX9_bestErrands 101 = .ok (.aload_n 0, 1) := by decide +kernel
theorem dX9_bestErrands_102 : decode cX9_bestErrands 102 = .ok (.invokevirtual 270, 3) := by decide +kernel
theorem dX9_bestErrands_105 : decode cX9_bestErrands 105 = .ok (.istore_n 2, 1) := by decide +kernel
theorem dX9_bestErrands_106 : decode cX9_bestErrands 106 = .ok (.goto (-97), 3) := by decide +kernel
theorem dX9_bestErrands_109 : decode cX9_bestErrands 109 = .ok (.iload_n 1, 1) := by decide +kernel
theorem dX9_bestErrands_110 : decode cX9_bestErrands 110 = .ok (.ireturn, 1) := by decide +kernel
set_option maxRecDepth 20000 in
theorem ggX9_errands_X9_in : GoodIn wsX9_errands wsX9_in := goodIn_r _ [8] (by decide +kernel) (by decide +kernel)
set_option maxRecDepth 20000 in
theorem gX9_errands_X9_in : GoodIn wsX9_errands (va_wsS RX9 95 yX9_in wsX9_in) := goodIn_app (goodIn_of _ (by decide +kernel)) ggX9_errands_X9_in
set_option maxRecDepth 20000 in
theorem ggX9_errands_X9_bestErrands : GoodIn wsX9_errands wsX9_bestErrands := goodIn_r _ [12, 1, 4, 13, 14, 15, 16, 17, 7, 18, 19, 20, 21, 22, 23, 24, 25, 26, 27, 28, 29, 30, 31, 32, 33, 34, 35, 36, 37, 38, 39, 40, 41, 42, 43, 44, 45, 46, 47, 48, 49, 50, 51, 52, 53, 54, 55, 56, 57, 58, 59, 60, 61, 62, 63, 64, 65, 66, 67, 68, 69, 70, 71, 72, 73, 74, 75, 76, 77, 78, 79, 80, 81, 82, 83] (by decide +kernel) (by decide +kernel)
set_option maxRecDepth 20000 in
theorem gX9_errands_X9_bestErrands : GoodIn wsX9_errands (wsV RX9 274 RX9 yX9_bestErrands wsX9_bestErrands) := goodIn_app (goodIn_of _ (by decide +kernel)) ggX9_errands_X9_bestErrands
theorem dX9_errands_0 : decode cX9_errands 0 = .ok (.aload_n 0, 1) := by decide +kernel
theorem dX9_errands_1 : decode cX9_errands 1 = .ok (.getfield 92, 3) := by decide +kernel
theorem dX9_errands_4 : decode cX9_errands 4 = .ok (.ifCond .ne 6, 3) := by decide +kernel
theorem dX9_errands_7 : decode cX9_errands 7 = .ok (.bipush (-3), 2) := by decide +kernel
theorem dX9_errands_9 : decode cX9_errands 9 = .ok (.ireturn, 1) := by decide +kernel
theorem dX9_errands_10 : decode cX9_errands 10 = .ok (.iload_n 1, 1) := by decide +kernel
theorem dX9_errands_11 : decode cX9_errands 11 = .ok (.i2l, 1) := by decide +kernel
theorem dX9_errands_12 : decode cX9_errands 12 = .ok (.ldc2_w 236, 3) := by decide +kernel
theorem dX9_errands_15 : decode cX9_errands 15 = .ok (.ldc2_w 238, 3) := by decide +kernel
theorem dX9_errands_18 : decode cX9_errands 18 = .ok (.invokestatic 95, 3) := by decide +kernel
theorem dX9_errands_21 : decode cX9_errands 21 = .ok (.ifCond .ne 6, 3) := by decide +kernel
theorem dX9_errands_24 : decode cX9_errands 24 = .ok (.bipush (-2), 2) := by decide +kernel
theorem dX9_errands_26 : decode cX9_errands 26 = .ok (.ireturn, 1) := by decide +kernel
theorem dX9_errands_27 : decode cX9_errands 27 = .ok (.aload_n 0, 1) := by decide +kernel
theorem dX9_errands_28 : decode cX9_errands 28 = .ok (.invokevirtual 274, 3) := by decide +kernel
theorem dX9_errands_31 : decode cX9_errands 31 = .ok (.istore_n 2, 1) := by decide +kernel
theorem dX9_errands_32 : decode cX9_errands 32 = .ok (.iload_n 2, 1) := by decide +kernel
theorem dX9_errands_33 : decode cX9_errands 33 = .ok (.ifCond .lt 7, 3) := by decide +kernel
theorem dX9_errands_36 : decode cX9_errands 36 = .ok (.iload_n 1, 1) := by decide +kernel
theorem dX9_errands_37 : decode cX9_errands 37 = .ok (.ifCond .ge 7, 3) := by decide +kernel
theorem dX9_errands_40 : decode cX9_errands 40 = .ok (.iload_n 2, 1) := by decide +kernel
theorem dX9_errands_41 : decode cX9_errands 41 = .ok (.goto 22, 3) := by decide +kernel
theorem dX9_errands_44 : decode cX9_errands 44 = .ok (.iload_n 1, 1) := by decide +kernel
theorem dX9_errands_45 : decode cX9_errands 45 = .ok (.aload_n 0, 1) := by decide +kernel
theorem dX9_errands_46 : decode cX9_errands 46 = .ok (.getfield 92, 3) := by decide +kernel
theorem dX9_errands_49 : decode cX9_errands 49 = .ok (.if_icmp .ge 12, 3) := by decide +kernel
theorem dX9_errands_52 : decode cX9_errands 52 = .ok (.aload_n 0, 1) := by decide +kernel
theorem dX9_errands_53 : decode cX9_errands 53 = .ok (.getfield 58, 3) := by decide +kernel
theorem dX9_errands_56 : decode cX9_errands 56 = .ok (.iload_n 1, 1) := by decide +kernel
theorem dX9_errands_57 : decode cX9_errands 57 = .ok (.iaload, 1) := by decide +kernel
theorem dX9_errands_58 : decode cX9_errands 58 = .ok (.goto 5, 3) := by decide +kernel
theorem dX9_errands_61 : decode cX9_errands 61 = .ok (.bipush (-9), 2) := by decide +kernel
theorem dX9_errands_63 : decode cX9_errands 63 = .ok (.ireturn, 1) := by decide +kernel
set_option maxRecDepth 20000 in
theorem ggX9_reading_X9_noFootman : GoodIn wsX9_reading wsX9_noFootman := goodIn_r _ [11, 12, 13, 14, 10, 15, 16, 17, 18, 19, 20, 21, 22, 23, 24, 25, 26, 27, 28, 29, 30, 31, 32, 33, 34, 35, 36, 37, 38, 39, 40, 41, 42, 43, 44, 45, 46, 47, 48, 49, 50, 51, 52, 53, 54] (by decide +kernel) (by decide +kernel)
set_option maxRecDepth 20000 in
theorem gX9_reading_X9_noFootman : GoodIn wsX9_reading (wsV RX9 165 RX9 yX9_noFootman wsX9_noFootman) := goodIn_app (goodIn_of _ (by decide +kernel)) ggX9_reading_X9_noFootman
set_option maxRecDepth 20000 in
theorem ggX9_reading_X9_in : GoodIn wsX9_reading wsX9_in := goodIn_r _ [15] (by decide +kernel) (by decide +kernel)
set_option maxRecDepth 20000 in
theorem gX9_reading_X9_in : GoodIn wsX9_reading (va_wsS RX9 95 yX9_in wsX9_in) := goodIn_app (goodIn_of _ (by decide +kernel)) ggX9_reading_X9_in
theorem dX9_reading_0 : decode cX9_reading 0 = .ok (.aload_n 0, 1) := by decide +kernel
theorem dX9_reading_1 : decode cX9_reading 1 = .ok (.iload_n 1, 1) := by decide +kernel
theorem dX9_reading_2 : decode cX9_reading 2 = .ok (.invokevirtual 165, 3) := by decide +kernel
theorem dX9_reading_5 : decode cX9_reading 5 = .ok (.ifCond .eq 5, 3) := by decide +kernel
theorem dX9_reading_8 : decode cX9_reading 8 = .ok (.iconst (-1), 1) := by decide +kernel
theorem dX9_reading_9 : decode cX9_reading 9 = .ok (.ireturn, 1) := by decide +kernel
theorem dX9_reading_10 : decode cX9_reading 10 = .ok (.iload_n 2, 1) := by decide +kernel
theorem dX9_reading_11 : decode cX9_reading 11 = .ok (.i2l, 1) := by decide +kernel
theorem dX9_reading_12 : decode cX9_reading 12 = .ok (.lconst 0, 1) := by decide +kernel
theorem dX9_reading_13 : decode cX9_reading 13 = .ok (.ldc2_w 182, 3) := by decide +kernel
theorem dX9_reading_16 : decode cX9_reading 16 = .ok (.invokestatic 95, 3) := by decide +kernel
theorem dX9_reading_19 : decode cX9_reading 19 = .ok (.ifCond .eq 15, 3) := by decide +kernel
theorem dX9_reading_22 : decode cX9_reading 22 = .ok (.iload_n 3, 1) := by decide +kernel
theorem dX9_reading_23 : decode cX9_reading 23 = .ok (.i2l, 1) := by decide +kernel
theorem dX9_reading_24 : decode cX9_reading 24 = .ok (.lconst 0, 1) := by decide +kernel
theorem dX9_reading_25 : decode cX9_reading 25 = .ok (.ldc2_w 277, 3) := by decide +kernel
theorem dX9_reading_28 : decode cX9_reading 28 = .ok (.invokestatic 95, 3) := by decide +kernel
theorem dX9_reading_31 : decode cX9_reading 31 = .ok (.ifCond .ne 6, 3) := by decide +kernel
theorem dX9_reading_34 : decode cX9_reading 34 = .ok (.bipush (-2), 2) := by decide +kernel
theorem dX9_reading_36 : decode cX9_reading 36 = .ok (.ireturn, 1) := by decide +kernel
theorem dX9_reading_37 : decode cX9_reading 37 = .ok (.aload_n 0, 1) := by decide +kernel
theorem dX9_reading_38 : decode cX9_reading 38 = .ok (.getfield 156, 3) := by decide +kernel
theorem dX9_reading_41 : decode cX9_reading 41 = .ok (.bipush 8, 2) := by decide +kernel
theorem dX9_reading_43 : decode cX9_reading 43 = .ok (.if_icmp .ne 6, 3) := by decide +kernel
theorem dX9_reading_46 : decode cX9_reading 46 = .ok (.bipush (-4), 2) := by decide +kernel
theorem dX9_reading_48 : decode cX9_reading 48 = .ok (.ireturn, 1) := by decide +kernel
theorem dX9_reading_49 : decode cX9_reading 49 = .ok (.aload_n 0, 1) := by decide +kernel
theorem dX9_reading_50 : decode cX9_reading 50 = .ok (.getfield 61, 3) := by decide +kernel
theorem dX9_reading_53 : decode cX9_reading 53 = .ok (.aload_n 0, 1) := by decide +kernel
theorem dX9_reading_54 : decode cX9_reading 54 = .ok (.getfield 156, 3) := by decide +kernel
theorem dX9_reading_57 : decode cX9_reading 57 = .ok (.iload_n 1, 1) := by decide +kernel
theorem dX9_reading_58 : decode cX9_reading 58 = .ok (.iastore, 1) := by decide +kernel
theorem dX9_reading_59 : decode cX9_reading 59 = .ok (.aload_n 0, 1) := by decide +kernel
theorem dX9_reading_60 : decode cX9_reading 60 = .ok (.getfield 64, 3) := by decide +kernel
theorem dX9_reading_63 : decode cX9_reading 63 = .ok (.aload_n 0, 1) := by decide +kernel
theorem dX9_reading_64 : decode cX9_reading 64 = .ok (.getfield 156, 3) := by decide +kernel
theorem dX9_reading_67 : decode cX9_reading 67 = .ok (.iload_n 2, 1) := by decide +kernel
theorem dX9_reading_68 : decode cX9_reading 68 = .ok (.iastore, 1) := by decide +kernel
theorem dX9_reading_69 : decode cX9_reading 69 = .ok (.aload_n 0, 1) := by decide +kernel
theorem dX9_reading_70 : decode cX9_reading 70 = .ok (.getfield 67, 3) := by decide +kernel
theorem dX9_reading_73 : decode cX9_reading 73 = .ok (.aload_n 0, 1) := by decide +kernel
theorem dX9_reading_74 : decode cX9_reading 74 = .ok (.getfield 156, 3) := by decide +kernel
theorem dX9_reading_77 : decode cX9_reading 77 = .ok (.iload_n 3, 1) := by decide +kernel
theorem dX9_reading_78 : decode cX9_reading 78 = .ok (.iastore, 1) := by decide +kernel
theorem dX9_reading_79 : decode cX9_reading 79 = .ok (.aload_n 0, 1) := by decide +kernel
theorem dX9_reading_80 : decode cX9_reading 80 = .ok (.dup, 1) := by decide +kernel
theorem dX9_reading_81 : decode cX9_reading 81 = .ok (.getfield 156, 3) := by decide +kernel
theorem dX9_reading_84 : decode cX9_reading 84 = .ok (.iconst 1, 1) := by decide +kernel
theorem dX9_reading_85 : decode cX9_reading 85 = .ok (.iadd, 1) := by decide +kernel
theorem dX9_reading_86 : decode cX9_reading 86 = .ok (.putfield 156, 3) := by decide +kernel
theorem dX9_reading_89 : decode cX9_reading 89 = .ok (.aload_n 0, 1) := by decide +kernel
theorem dX9_reading_90 : decode cX9_reading 90 = .ok (.getfield 156, 3) := by decide +kernel
theorem dX9_reading_93 : decode cX9_reading 93 = .ok (.iconst 1, 1) := by decide +kernel
theorem dX9_reading_94 : decode cX9_reading 94 = .ok (.isub, 1) := by decide +kernel
theorem dX9_reading_95 : decode cX9_reading 95 = .ok (.ireturn, 1) := by decide +kernel
set_option maxRecDepth 20000 in
theorem ggX9_back_X9_in : GoodIn wsX9_back wsX9_in := goodIn_r _ [5] (by decide +kernel) (by decide +kernel)
set_option maxRecDepth 20000 in
theorem gX9_back_X9_in : GoodIn wsX9_back (va_wsS RX9 95 yX9_in wsX9_in) := goodIn_app (goodIn_of _ (by decide +kernel)) ggX9_back_X9_in
theorem dX9_back_0 : decode cX9_back 0 = .ok (.iload_n 1, 1) := by decide +kernel
theorem dX9_back_1 : decode cX9_back 1 = .ok (.i2l, 1) := by decide +kernel
theorem dX9_back_2 : decode cX9_back 2 = .ok (.lconst 0, 1) := by decide +kernel
theorem dX9_back_3 : decode cX9_back 3 = .ok (.aload_n 0, 1) := by decide +kernel
theorem dX9_back_4 : decode cX9_back 4 = .ok (.getfield 156, 3) := by decide +kernel
theorem dX9_back_7 : decode cX9_back 7 = .ok (.i2l, 1) := by decide +kernel
theorem dX9_back_8 : decode cX9_back 8 = .ok (.invokestatic 95, 3) := by decide +kernel
theorem dX9_back_11 : decode cX9_back 11 = .ok (.ifCond .ne 6, 3) := by decide +kernel
theorem dX9_back_14 : decode cX9_back 14 = .ok (.bipush (-2), 2) := by decide +kernel
theorem dX9_back_16 : decode cX9_back 16 = .ok (.ireturn, 1) := by decide +kernel
theorem dX9_back_17 : decode cX9_back 17 = .ok (.aload_n 0, 1) := by decide +kernel
theorem dX9_back_18 : decode cX9_back 18 = .ok (.dup, 1) := by decide +kernel
theorem dX9_back_19 : decode cX9_back 19 = .ok (.getfield 156, 3) := by decide +kernel
theorem dX9_back_22 : decode cX9_back 22 = .ok (.iload_n 1, 1) := by decide +kernel
theorem dX9_back_23 : decode cX9_back 23 = .ok (.isub, 1) := by decide +kernel
theorem dX9_back_24 : decode cX9_back 24 = .ok (.putfield 156, 3) := by decide +kernel
theorem dX9_back_27 : decode cX9_back 27 = .ok (.aload_n 0, 1) := by decide +kernel
theorem dX9_back_28 : decode cX9_back 28 = .ok (.getfield 156, 3) := by decide +kernel
theorem dX9_back_31 : decode cX9_back 31 = .ok (.ireturn, 1) := by decide +kernel
set_option maxRecDepth 20000 in
theorem ggX9_areSo_X9_paceOf : GoodIn wsX9_areSo wsX9_paceOf := goodIn_r _ [9, 10, 11, 12, 13, 14, 15, 16, 17, 18, 19, 20, 21, 22, 23, 24, 25, 26, 27, 28, 29, 30, 31, 32, 33, 34, 35, 36, 37, 38, 39, 40, 41, 42, 43, 44, 45, 46, 47, 48, 49, 50] (by decide +kernel) (by decide +kernel)
set_option maxRecDepth 20000 in
theorem gX9_areSo_X9_paceOf : GoodIn wsX9_areSo (wsV RX9 168 RX9 yX9_paceOf wsX9_paceOf) := goodIn_app (goodIn_of _ (by decide +kernel)) ggX9_areSo_X9_paceOf
theorem dX9_areSo_0 : decode cX9_areSo 0 = .ok (.iconst 1, 1) := by decide +kernel
theorem dX9_areSo_1 : decode cX9_areSo 1 = .ok (.istore_n 1, 1) := by decide +kernel
theorem dX9_areSo_2 : decode cX9_areSo 2 = .ok (.iconst 0, 1) := by decide +kernel
theorem dX9_areSo_3 : decode cX9_areSo 3 = .ok (.istore_n 2, 1) := by decide +kernel
theorem dX9_areSo_4 : decode cX9_areSo 4 = .ok (.iload_n 2, 1) := by decide +kernel
theorem dX9_areSo_5 : decode cX9_areSo 5 = .ok (.aload_n 0, 1) := by decide +kernel
theorem dX9_areSo_6 : decode cX9_areSo 6 = .ok (.getfield 156, 3) := by decide +kernel
theorem dX9_areSo_9 : decode cX9_areSo 9 = .ok (.if_icmp .ge 45, 3) := by decide +kernel
theorem dX9_areSo_12 : decode cX9_areSo 12 = .ok (.iload_n 1, 1) := by decide +kernel
theorem dX9_areSo_13 : decode cX9_areSo 13 = .ok (.ifCond .eq 33, 3) := by decide +kernel
theorem dX9_areSo_16 : decode cX9_areSo 16 = .ok (.aload_n 0, 1) := by decide +kernel
theorem dX9_areSo_17 : decode cX9_areSo 17 = .ok (.getfield 64, 3) := by decide +kernel
theorem dX9_areSo_20 : decode cX9_areSo 20 = .ok (.iload_n 2, 1) := by decide +kernel
theorem dX9_areSo_21 : decode cX9_areSo 21 = .ok (.iaload, 1) := by decide +kernel
theorem dX9_areSo_22 : decode cX9_areSo 22 = .ok (.aload_n 0, 1) := by decide +kernel
theorem dX9_areSo_23 : decode cX9_areSo 23 = .ok (.aload_n 0, 1) := by decide +kernel
theorem dX9_areSo_24 : decode cX9_areSo 24 = .ok (.getfield 61, 3) := by decide +kernel
theorem dX9_areSo_27 : decode cX9_areSo 27 = .ok (.iload_n 2, 1) := by decide +kernel
theorem dX9_areSo_28 : decode cX9_areSo 28 = .ok (.iaload, 1) := by decide +kernel
theorem dX9_areSo_29 : decode cX9_areSo 29 = .ok (.invokevirtual 168, 3) := by decide +kernel
theorem dX9_areSo_32 : decode cX9_areSo 32 = .ok (.imul, 1) := by decide +kernel
theorem dX9_areSo_33 : decode cX9_areSo 33 = .ok (.aload_n 0, 1) := by decide +kernel
theorem dX9_areSo_34 : decode cX9_areSo 34 = .ok (.getfield 67, 3) := by decide +kernel
theorem dX9_areSo_37 : decode cX9_areSo 37 = .ok (.iload_n 2, 1) := by decide +kernel
theorem dX9_areSo_38 : decode cX9_areSo 38 = .ok (.iaload, 1) := by decide +kernel
theorem dX9_areSo_39 : decode cX9_areSo 39 = .ok (.if_icmp .ne 7, 3) := by decide +kernel
theorem dX9_areSo_42 : decode cX9_areSo 42 = .ok (.iconst 1, 1) := by decide +kernel
theorem dX9_areSo_43 : decode cX9_areSo 43 = .ok (.goto 4, 3) := by decide +kernel
theorem dX9_areSo_46 : decode cX9_areSo 46 = .ok (.iconst 0, 1) := by decide +kernel
theorem dX9_areSo_47 : decode cX9_areSo 47 = .ok (.istore_n 1, 1) := by decide +kernel
theorem dX9_areSo_48 : decode cX9_areSo 48 = .ok (.iinc 2 1, 3) := by decide +kernel
theorem dX9_areSo_51 : decode cX9_areSo 51 = .ok (.goto (-47), 3) := by decide +kernel
theorem dX9_areSo_54 : decode cX9_areSo 54 = .ok (.iload_n 1, 1) := by decide +kernel
theorem dX9_areSo_55 : decode cX9_areSo 55 = .ok (.ireturn, 1) := by decide +kernel
set_option maxRecDepth 20000 in
theorem ggX9_calves_X9_noFootman : GoodIn wsX9_calves wsX9_noFootman := goodIn_r _ [6, 7, 8, 9, 5, 10, 24, 25, 26, 27, 28, 29, 30, 31, 32, 33, 34, 35, 36, 37, 38, 39, 40, 41, 42, 43, 44, 45, 46, 47, 48, 49, 50, 51, 52, 53, 54, 55, 56, 57, 58, 59, 60, 61, 62] (by decide +kernel) (by decide +kernel)
set_option maxRecDepth 20000 in
theorem gX9_calves_X9_noFootman : GoodIn wsX9_calves (wsV RX9 165 RX9 yX9_noFootman wsX9_noFootman) := goodIn_app (goodIn_of _ (by decide +kernel)) ggX9_calves_X9_noFootman
set_option maxRecDepth 20000 in
theorem ggX9_calves_X9_areSo : GoodIn wsX9_calves wsX9_areSo := goodIn_r _ [14, 15, 16, 17, 18, 19, 20, 21, 5, 22, 1, 23, 24, 25, 26, 27, 28, 29, 30, 31, 32, 33, 34, 35, 36, 37, 38, 39, 40, 41, 42, 43, 44, 45, 46, 47, 48, 49, 50, 51, 52, 53, 54, 55, 56, 57, 58, 59, 60, 61, 62] (by decide +kernel) (by decide +kernel)
set_option maxRecDepth 20000 in
theorem gX9_calves_X9_areSo : GoodIn wsX9_calves (wsV RX9 279 RX9 yX9_areSo wsX9_areSo) := goodIn_app (goodIn_of _ (by decide +kernel)) ggX9_calves_X9_areSo
theorem dX9_calves_0 : decode cX9_calves 0 = .ok (.aload_n 0, 1) := by decide +kernel
theorem dX9_calves_1 : decode cX9_calves 1 = .ok (.iload_n 1, 1) := by decide +kernel
theorem dX9_calves_2 : decode cX9_calves 2 = .ok (.invokevirtual 165, 3) := by decide +kernel
theorem dX9_calves_5 : decode cX9_calves 5 = .ok (.ifCond .eq 5, 3) := by decide +kernel
theorem dX9_calves_8 : decode cX9_calves 8 = .ok (.iconst (-1), 1) := by decide +kernel
theorem dX9_calves_9 : decode cX9_calves 9 = .ok (.ireturn, 1) := by decide +kernel
theorem dX9_calves_10 : decode cX9_calves 10 = .ok (.aload_n 0, 1) := by decide +kernel
theorem dX9_calves_11 : decode cX9_calves 11 = .ok (.getfield 25, 3) := by decide +kernel
theorem dX9_calves_14 : decode cX9_calves 14 = .ok (.iload_n 1, 1) := by decide +kernel
theorem dX9_calves_15 : decode cX9_calves 15 = .ok (.iaload, 1) := by decide +kernel
theorem dX9_calves_16 : decode cX9_calves 16 = .ok (.istore_n 2, 1) := by decide +kernel
theorem dX9_calves_17 : decode cX9_calves 17 = .ok (.iconst 0, 1) := by decide +kernel
theorem dX9_calves_18 : decode cX9_calves 18 = .ok (.istore_n 3, 1) := by decide +kernel
theorem dX9_calves_19 : decode cX9_calves 19 = .ok (.iconst 1, 1) := by decide +kernel
theorem dX9_calves_20 : decode cX9_calves 20 = .ok (.istore 4, 2) := by decide +kernel
theorem dX9_calves_22 : decode cX9_calves 22 = .ok (.iload 4, 2) := by decide +kernel
theorem dX9_calves_24 : decode cX9_calves 24 = .ok (.bipush 10, 2) := by decide +kernel
theorem dX9_calves_26 : decode cX9_calves 26 = .ok (.if_icmp .ge 35, 3) := by decide +kernel
theorem dX9_calves_29 : decode cX9_calves 29 = .ok (.aload_n 0, 1) := by decide +kernel
theorem dX9_calves_30 : decode cX9_calves 30 = .ok (.getfield 25, 3) := by decide +kernel
theorem dX9_calves_33 : decode cX9_calves 33 = .ok (.iload_n 1, 1) := by decide +kernel
theorem dX9_calves_34 : decode cX9_calves 34 = .ok (.iload 4, 2) := by decide +kernel
theorem dX9_calves_36 : decode cX9_calves 36 = .ok (.iastore, 1) := by decide +kernel
theorem dX9_calves_37 : decode cX9_calves 37 = .ok (.iload_n 3, 1) := by decide +kernel
theorem dX9_calves_38 : decode cX9_calves 38 = .ok (.aload_n 0, 1) := by decide +kernel
theorem dX9_calves_39 : decode cX9_calves 39 = .ok (.invokevirtual 279, 3) := by decide +kernel
theorem dX9_calves_42 : decode cX9_calves 42 = .ok (.ifCond .eq 10, 3) := by decide +kernel
theorem dX9_calves_45 : decode cX9_calves 45 = .ok (.iconst 1, 1) := by decide +kernel
theorem dX9_calves_46 : decode cX9_calves 46 = .ok (.iload 4, 2) := by decide +kernel
theorem dX9_calves_48 : decode cX9_calves 48 = .ok (.ishl, 1) := by decide +kernel
theorem dX9_calves_49 : decode cX9_calves 49 = .ok (.goto 4, 3) := by decide +kernel
theorem dX9_calves_52 : decode cX9_calves 52 = .ok (.iconst 0, 1) := by decide +kernel
theorem dX9_calves_53 : decode cX9_calves 53 = .ok (.ior, 1) := by decide +kernel
theorem dX9_calves_54 : decode cX9_calves 54 = .ok (.istore_n 3, 1) := by decide +kernel
theorem dX9_calves_55 : decode cX9_calves 55 = .ok (.iinc 4 1, 3) := by decide +kernel
theorem dX9_calves_58 : decode cX9_calves 58 = .ok (.goto (-36), 3) := by decide +kernel
theorem dX9_calves_61 : decode cX9_calves 61 = .ok (.aload_n 0, 1) := by decide +kernel
theorem dX9_calves_62 : decode cX9_calves 62 = .ok (.getfield 25, 3) := by decide +kernel
theorem dX9_calves_65 : decode cX9_calves 65 = .ok (.iload_n 1, 1) := by decide +kernel
theorem dX9_calves_66 : decode cX9_calves 66 = .ok (.iload_n 2, 1) := by decide +kernel
theorem dX9_calves_67 : decode cX9_calves 67 = .ok (.iastore, 1) := by decide +kernel
theorem dX9_calves_68 : decode cX9_calves 68 = .ok (.iload_n 3, 1) := by decide +kernel
theorem dX9_calves_69 : decode cX9_calves 69 = .ok (.ireturn, 1) := by decide +kernel
set_option maxRecDepth 20000 in
theorem ggX9_kinds_X9_noFootman : GoodIn wsX9_kinds wsX9_noFootman := goodIn_r _ [6, 7, 8, 9, 5, 10, 24, 25, 26, 27, 28, 29, 30, 31, 32, 33, 34, 35, 36, 37, 38, 39, 40, 41, 42, 43, 44, 45, 46, 47, 48, 49, 50, 51, 52, 53, 54, 55, 56, 57, 58, 59, 60, 61, 62] (by decide +kernel) (by decide +kernel)
set_option maxRecDepth 20000 in
theorem gX9_kinds_X9_noFootman : GoodIn wsX9_kinds (wsV RX9 165 RX9 yX9_noFootman wsX9_noFootman) := goodIn_app (goodIn_of _ (by decide +kernel)) ggX9_kinds_X9_noFootman
set_option maxRecDepth 20000 in
theorem ggX9_kinds_X9_areSo : GoodIn wsX9_kinds wsX9_areSo := goodIn_r _ [14, 15, 16, 17, 18, 19, 20, 21, 5, 22, 23, 1, 24, 25, 26, 27, 28, 29, 30, 31, 32, 33, 34, 35, 36, 37, 38, 39, 40, 41, 42, 43, 44, 45, 46, 47, 48, 49, 50, 51, 52, 53, 54, 55, 56, 57, 58, 59, 60, 61, 62] (by decide +kernel) (by decide +kernel)
set_option maxRecDepth 20000 in
theorem gX9_kinds_X9_areSo : GoodIn wsX9_kinds (wsV RX9 279 RX9 yX9_areSo wsX9_areSo) := goodIn_app (goodIn_of _ (by decide +kernel)) ggX9_kinds_X9_areSo
theorem dX9_kinds_0 : decode cX9_kinds 0 = .ok (.aload_n 0, 1) := by decide +kernel
theorem dX9_kinds_1 : decode cX9_kinds 1 = .ok (.iload_n 1, 1) := by decide +kernel
theorem dX9_kinds_2 : decode cX9_kinds 2 = .ok (.invokevirtual 165, 3) := by decide +kernel
theorem dX9_kinds_5 : decode cX9_kinds 5 = .ok (.ifCond .eq 5, 3) := by decide +kernel
theorem dX9_kinds_8 : decode cX9_kinds 8 = .ok (.iconst (-1), 1) := by decide +kernel
theorem dX9_kinds_9 : decode cX9_kinds 9 = .ok (.ireturn, 1) := by decide +kernel
theorem dX9_kinds_10 : decode cX9_kinds 10 = .ok (.aload_n 0, 1) := by decide +kernel
theorem dX9_kinds_11 : decode cX9_kinds 11 = .ok (.getfield 16, 3) := by decide +kernel
theorem dX9_kinds_14 : decode cX9_kinds 14 = .ok (.iload_n 1, 1) := by decide +kernel
theorem dX9_kinds_15 : decode cX9_kinds 15 = .ok (.iaload, 1) := by decide +kernel
theorem dX9_kinds_16 : decode cX9_kinds 16 = .ok (.istore_n 2, 1) := by decide +kernel
theorem dX9_kinds_17 : decode cX9_kinds 17 = .ok (.iconst 0, 1) := by decide +kernel
theorem dX9_kinds_18 : decode cX9_kinds 18 = .ok (.istore_n 3, 1) := by decide +kernel
theorem dX9_kinds_19 : decode cX9_kinds 19 = .ok (.iconst 0, 1) := by decide +kernel
theorem dX9_kinds_20 : decode cX9_kinds 20 = .ok (.istore 4, 2) := by decide +kernel
theorem dX9_kinds_22 : decode cX9_kinds 22 = .ok (.iload 4, 2) := by decide +kernel
theorem dX9_kinds_24 : decode cX9_kinds 24 = .ok (.iconst 3, 1) := by decide +kernel
theorem dX9_kinds_25 : decode cX9_kinds 25 = .ok (.if_icmp .ge 35, 3) := by decide +kernel
theorem dX9_kinds_28 : decode cX9_kinds 28 = .ok (.aload_n 0, 1) := by decide +kernel
theorem dX9_kinds_29 : decode cX9_kinds 29 = .ok (.getfield 16, 3) := by decide +kernel
theorem dX9_kinds_32 : decode cX9_kinds 32 = .ok (.iload_n 1, 1) := by decide +kernel
theorem dX9_kinds_33 : decode cX9_kinds 33 = .ok (.iload 4, 2) := by decide +kernel
theorem dX9_kinds_35 : decode cX9_kinds 35 = .ok (.iastore, 1) := by decide +kernel
theorem dX9_kinds_36 : decode cX9_kinds 36 = .ok (.iload_n 3, 1) := by decide +kernel
theorem dX9_kinds_37 : decode cX9_kinds 37 = .ok (.aload_n 0, 1) := by decide +kernel
theorem dX9_kinds_38 : decode cX9_kinds 38 = .ok (.invokevirtual 279, 3) := by decide +kernel
theorem dX9_kinds_41 : decode cX9_kinds 41 = .ok (.ifCond .eq 10, 3) := by decide +kernel
theorem dX9_kinds_44 : decode cX9_kinds 44 = .ok (.iconst 1, 1) := by decide +kernel
theorem dX9_kinds_45 : decode cX9_kinds 45 = .ok (.iload 4, 2) := by decide +kernel
theorem dX9_kinds_47 : decode cX9_kinds 47 = .ok (.ishl, 1) := by decide +kernel
theorem dX9_kinds_48 : decode cX9_kinds 48 = .ok (.goto 4, 3) := by decide +kernel
theorem dX9_kinds_51 : decode cX9_kinds 51 = .ok (.iconst 0, 1) := by decide +kernel
theorem dX9_kinds_52 : decode cX9_kinds 52 = .ok (.ior, 1) := by decide +kernel
theorem dX9_kinds_53 : decode cX9_kinds 53 = .ok (.istore_n 3, 1) := by decide +kernel
theorem dX9_kinds_54 : decode cX9_kinds 54 = .ok (.iinc 4 1, 3) := by decide +kernel
theorem dX9_kinds_57 : decode cX9_kinds 57 = .ok (.goto (-35), 3) := by decide +kernel
theorem dX9_kinds_60 : decode cX9_kinds 60 = .ok (.aload_n 0, 1) := by decide +kernel
theorem dX9_kinds_61 : decode cX9_kinds 61 = .ok (.getfield 16, 3) := by decide +kernel
theorem dX9_kinds_64 : decode cX9_kinds 64 = .ok (.iload_n 1, 1) := by decide +kernel
theorem dX9_kinds_65 : decode cX9_kinds 65 = .ok (.iload_n 2, 1) := by decide +kernel
theorem dX9_kinds_66 : decode cX9_kinds 66 = .ok (.iastore, 1) := by decide +kernel
theorem dX9_kinds_67 : decode cX9_kinds 67 = .ok (.iload_n 3, 1) := by decide +kernel
theorem dX9_kinds_68 : decode cX9_kinds 68 = .ok (.ireturn, 1) := by decide +kernel
set_option maxRecDepth 20000 in
theorem ggX9_odds_X9_noFootman : GoodIn wsX9_odds wsX9_noFootman := goodIn_r _ [8, 9, 10, 11, 7, 12, 31, 32, 33, 34, 35, 36, 37, 38, 39, 40, 41, 42, 43, 44, 45, 46, 47, 48, 49, 50, 51, 52, 53, 54, 55, 56, 57, 58, 59, 60, 61, 62, 63, 64, 65, 66, 67, 68, 69] (by decide +kernel) (by decide +kernel)
set_option maxRecDepth 20000 in
theorem gX9_odds_X9_noFootman : GoodIn wsX9_odds (wsV RX9 165 RX9 yX9_noFootman wsX9_noFootman) := goodIn_app (goodIn_of _ (by decide +kernel)) ggX9_odds_X9_noFootman
set_option maxRecDepth 20000 in
theorem ggX9_odds_X9_in : GoodIn wsX9_odds wsX9_in := goodIn_r _ [12] (by decide +kernel) (by decide +kernel)
set_option maxRecDepth 20000 in
theorem gX9_odds_X9_in : GoodIn wsX9_odds (va_wsS RX9 95 yX9_in wsX9_in) := goodIn_app (goodIn_of _ (by decide +kernel)) ggX9_odds_X9_in
set_option maxRecDepth 20000 in
theorem ggX9_odds_X9_lost : GoodIn wsX9_odds wsX9_lost := goodIn_r _ [15, 16] (by decide +kernel) (by decide +kernel)
set_option maxRecDepth 20000 in
theorem gX9_odds_X9_lost : GoodIn wsX9_odds (va_wsS RX9 88 yX9_lost wsX9_lost) := goodIn_app (goodIn_of _ (by decide +kernel)) ggX9_odds_X9_lost
set_option maxRecDepth 20000 in
theorem ggX9_odds_X9_farFrom : GoodIn wsX9_odds wsX9_farFrom := goodIn_r _ [20, 21, 31, 32, 33, 34, 35, 36, 37, 38, 39, 40, 41, 42, 43, 44, 45, 46, 47, 48, 49, 50, 51, 52, 53, 54, 55, 56, 57, 58, 59, 60, 61, 62, 63, 64, 65, 66, 67, 68, 69] (by decide +kernel) (by decide +kernel)
set_option maxRecDepth 20000 in
theorem gX9_odds_X9_farFrom : GoodIn wsX9_odds (wsV RX9 162 RX9 yX9_farFrom wsX9_farFrom) := goodIn_app (goodIn_of _ (by decide +kernel)) ggX9_odds_X9_farFrom
set_option maxRecDepth 20000 in
theorem ggX9_odds_X9_paceOf : GoodIn wsX9_odds wsX9_paceOf := goodIn_r _ [25, 26, 27, 31, 32, 33, 34, 35, 36, 37, 38, 39, 40, 41, 42, 43, 44, 45, 46, 47, 48, 49, 50, 51, 52, 53, 54, 55, 56, 57, 58, 59, 60, 61, 62, 63, 64, 65, 66, 67, 68, 69] (by decide +kernel) (by decide +kernel)
set_option maxRecDepth 20000 in
theorem gX9_odds_X9_paceOf : GoodIn wsX9_odds (wsV RX9 168 RX9 yX9_paceOf wsX9_paceOf) := goodIn_app (goodIn_of _ (by decide +kernel)) ggX9_odds_X9_paceOf
set_option maxRecDepth 20000 in
theorem ggX9_odds_X9_share : GoodIn wsX9_odds wsX9_share := goodIn_r _ [30] (by decide +kernel) (by decide +kernel)
set_option maxRecDepth 20000 in
theorem gX9_odds_X9_share : GoodIn wsX9_odds (va_wsS RX9 282 yX9_share wsX9_share) := goodIn_app (goodIn_of _ (by decide +kernel)) ggX9_odds_X9_share
theorem dX9_odds_0 : decode cX9_odds 0 = .ok (.aload_n 0, 1) := by decide +kernel
theorem dX9_odds_1 : decode cX9_odds 1 = .ok (.iload_n 1, 1) := by decide +kernel
theorem dX9_odds_2 : decode cX9_odds 2 = .ok (.invokevirtual 165, 3) := by decide +kernel
theorem dX9_odds_5 : decode cX9_odds 5 = .ok (.ifCond .ne 25, 3) := by decide +kernel
theorem dX9_odds_8 : decode cX9_odds 8 = .ok (.iload_n 2, 1) := by decide +kernel
theorem dX9_odds_9 : decode cX9_odds 9 = .ok (.i2l, 1) := by decide +kernel
theorem dX9_odds_10 : decode cX9_odds 10 = .ok (.lconst 0, 1) := by decide +kernel
theorem dX9_odds_11 : decode cX9_odds 11 = .ok (.ldc2_w 182, 3) := by decide +kernel
theorem dX9_odds_14 : decode cX9_odds 14 = .ok (.invokestatic 95, 3) := by decide +kernel
theorem dX9_odds_17 : decode cX9_odds 17 = .ok (.ifCond .eq 13, 3) := by decide +kernel
theorem dX9_odds_20 : decode cX9_odds 20 = .ok (.iload_n 3, 1) := by decide +kernel
theorem dX9_odds_21 : decode cX9_odds 21 = .ok (.i2l, 1) := by decide +kernel
theorem dX9_odds_22 : decode cX9_odds 22 = .ok (.lconst 0, 1) := by decide +kernel
theorem dX9_odds_23 : decode cX9_odds 23 = .ok (.lconst 1, 1) := by decide +kernel
theorem dX9_odds_24 : decode cX9_odds 24 = .ok (.invokestatic 95, 3) := by decide +kernel
theorem dX9_odds_27 : decode cX9_odds 27 = .ok (.ifCond .ne 7, 3) := by decide +kernel
theorem dX9_odds_30 : decode cX9_odds 30 = .ok (.invokestatic 88, 3) := by decide +kernel
theorem dX9_odds_33 : decode cX9_odds 33 = .ok (.lreturn, 1) := by decide +kernel
theorem dX9_odds_34 : decode cX9_odds 34 = .ok (.lconst 0, 1) := by decide +kernel
theorem dX9_odds_35 : decode cX9_odds 35 = .ok (.lstore 4, 2) := by decide +kernel
theorem dX9_odds_37 : decode cX9_odds 37 = .ok (.iconst 0, 1) := by decide +kernel
theorem dX9_odds_38 : decode cX9_odds 38 = .ok (.istore 6, 2) := by decide +kernel
theorem dX9_odds_40 : decode cX9_odds 40 = .ok (.iload 6, 2) := by decide +kernel
theorem dX9_odds_42 : decode cX9_odds 42 = .ok (.aload_n 0, 1) := by decide +kernel
theorem dX9_odds_43 : decode cX9_odds 43 = .ok (.getfield 99, 3) := by decide +kernel
theorem dX9_odds_46 : decode cX9_odds 46 = .ok (.if_icmp .ge 61, 3) := by decide +kernel
theorem dX9_odds_49 : decode cX9_odds 49 = .ok (.aload_n 0, 1) := by decide +kernel
theorem dX9_odds_50 : decode cX9_odds 50 = .ok (.aload_n 0, 1) := by decide +kernel
theorem dX9_odds_51 : decode cX9_odds 51 = .ok (.getfield 19, 3) := by decide +kernel
theorem dX9_odds_54 : decode cX9_odds 54 = .ok (.iload_n 1, 1) := by decide +kernel
theorem dX9_odds_55 : decode cX9_odds 55 = .ok (.iaload, 1) := by decide +kernel
theorem dX9_odds_56 : decode cX9_odds 56 = .ok (.iload 6, 2) := by decide +kernel
theorem dX9_odds_58 : decode cX9_odds 58 = .ok (.invokevirtual 162, 3) := by decide +kernel
theorem dX9_odds_61 : decode cX9_odds 61 = .ok (.istore 7, 2) := by decide +kernel
theorem dX9_odds_63 : decode cX9_odds 63 = .ok (.lload 4, 2) := by decide +kernel
theorem dX9_odds_65 : decode cX9_odds 65 = .ok (.iload 6, 2) := by decide +kernel
theorem dX9_odds_67 : decode cX9_odds 67 = .ok (.aload_n 0, 1) := by decide +kernel
theorem dX9_odds_68 : decode cX9_odds 68 = .ok (.getfield 19, 3) := by decide +kernel
theorem dX9_odds_71 : decode cX9_odds 71 = .ok (.iload_n 1, 1) := by decide +kernel
theorem dX9_odds_72 : decode cX9_odds 72 = .ok (.iaload, 1) := by decide +kernel
theorem dX9_odds_73 : decode cX9_odds 73 = .ok (.if_icmp .eq 24, 3) := by decide +kernel
theorem dX9_odds_76 : decode cX9_odds 76 = .ok (.iload 7, 2) := by decide +kernel
theorem dX9_odds_78 : decode cX9_odds 78 = .ok (.ifCond .lt 19, 3) := by decide +kernel
theorem dX9_odds_81 : decode cX9_odds 81 = .ok (.iload 7, 2) := by decide +kernel
theorem dX9_odds_83 : decode cX9_odds 83 = .ok (.iload_n 2, 1) := by decide +kernel
theorem dX9_odds_84 : decode cX9_odds 84 = .ok (.aload_n 0, 1) := by decide +kernel
theorem dX9_odds_85 : decode cX9_odds 85 = .ok (.iload_n 1, 1) := by decide +kernel
theorem dX9_odds_86 : decode cX9_odds 86 = .ok (.invokevirtual 168, 3) := by decide +kernel
theorem dX9_odds_89 : decode cX9_odds 89 = .ok (.imul, 1) := by decide +kernel
theorem dX9_odds_90 : decode cX9_odds 90 = .ok (.if_icmp .gt 7, 3) := by decide +kernel
theorem dX9_odds_93 : decode cX9_odds 93 = .ok (.lconst 1, 1) := by decide +kernel
theorem dX9_odds_94 : decode cX9_odds 94 = .ok (.goto 4, 3) := by decide +kernel
theorem dX9_odds_97 : decode cX9_odds 97 = .ok (.lconst 0, 1) := by decide +kernel
theorem dX9_odds_98 : decode cX9_odds 98 = .ok (.ladd, 1) := by decide +kernel
theorem dX9_odds_99 : decode cX9_odds 99 = .ok (.lstore 4, 2) := by decide +kernel
theorem dX9_odds_101 : decode cX9_odds 101 = .ok (.iinc 6 1, 3) := by decide +kernel
theorem dX9_odds_104 : decode cX9_odds 104 = .ok (.goto (-64), 3) := by decide +kernel
theorem dX9_odds_107 : decode cX9_odds 107 = .ok (.lload 4, 2) := by decide +kernel
theorem dX9_odds_109 : decode cX9_odds 109 = .ok (.aload_n 0, 1) := by decide +kernel
theorem dX9_odds_110 : decode cX9_odds 110 = .ok (.getfield 99, 3) := by decide +kernel
theorem dX9_odds_113 : decode cX9_odds 113 = .ok (.i2l, 1) := by decide +kernel
theorem dX9_odds_114 : decode cX9_odds 114 = .ok (.lconst 1, 1) := by decide +kernel
theorem dX9_odds_115 : decode cX9_odds 115 = .ok (.lsub, 1) := by decide +kernel
theorem dX9_odds_116 : decode cX9_odds 116 = .ok (.iload_n 3, 1) := by decide +kernel
theorem dX9_odds_117 : decode cX9_odds 117 = .ok (.invokestatic 282, 3) := by decide +kernel
theorem dX9_odds_120 : decode cX9_odds 120 = .ok (.lreturn, 1) := by decide +kernel
set_option maxRecDepth 20000 in
theorem ggX9_noSheet_X9_in : GoodIn wsX9_noSheet wsX9_in := goodIn_r _ [5] (by decide +kernel) (by decide +kernel)
set_option maxRecDepth 20000 in
theorem gX9_noSheet_X9_in : GoodIn wsX9_noSheet (va_wsS RX9 95 yX9_in wsX9_in) := goodIn_app (goodIn_of _ (by decide +kernel)) ggX9_noSheet_X9_in
theorem dX9_noSheet_0 : decode cX9_noSheet 0 = .ok (.iload_n 0, 1) := by decide +kernel
theorem dX9_noSheet_1 : decode cX9_noSheet 1 = .ok (.i2l, 1) := by decide +kernel
theorem dX9_noSheet_2 : decode cX9_noSheet 2 = .ok (.lconst 0, 1) := by decide +kernel
theorem dX9_noSheet_3 : decode cX9_noSheet 3 = .ok (.ldc2_w 286, 3) := by decide +kernel
theorem dX9_noSheet_6 : decode cX9_noSheet 6 = .ok (.invokestatic 95, 3) := by decide +kernel
theorem dX9_noSheet_9 : decode cX9_noSheet 9 = .ok (.ifCond .ne 7, 3) := by decide +kernel
theorem dX9_noSheet_12 : decode cX9_noSheet 12 = .ok (.iconst 1, 1) := by decide +kernel
theorem dX9_noSheet_13 : decode cX9_noSheet 13 = .ok (.goto 4, 3) := by decide +kernel
theorem dX9_noSheet_16 : decode cX9_noSheet 16 = .ok (.iconst 0, 1) := by decide +kernel
theorem dX9_noSheet_17 : decode cX9_noSheet 17 = .ok (.ireturn, 1) := by decide +kernel
set_option maxRecDepth 20000 in
theorem ggX9_sheet_X9_noSheet : GoodIn wsX9_sheet wsX9_noSheet := goodIn_r _ [8, 9, 10, 11, 7, 12] (by decide +kernel) (by decide +kernel)
set_option maxRecDepth 20000 in
theorem gX9_sheet_X9_noSheet : GoodIn wsX9_sheet (va_wsS RX9 134 yX9_noSheet wsX9_noSheet) := goodIn_app (goodIn_of _ (by decide +kernel)) ggX9_sheet_X9_noSheet
set_option maxRecDepth 20000 in
theorem ggX9_sheet_X9_refused : GoodIn wsX9_sheet wsX9_refused := goodIn_r _ [16, 17, 22, 23, 24, 25, 26, 27, 28, 29, 30, 31, 32, 33, 34, 35, 36, 37, 38, 39, 40, 41, 42, 43, 44, 45, 46, 47, 48, 49, 50, 51, 52, 53, 54, 55, 56, 57, 58, 59, 60] (by decide +kernel) (by decide +kernel)
set_option maxRecDepth 20000 in
theorem gX9_sheet_X9_refused : GoodIn wsX9_sheet (wsV RX9 138 RX9 yX9_refused wsX9_refused) := goodIn_app (goodIn_of _ (by decide +kernel)) ggX9_sheet_X9_refused
set_option maxRecDepth 20000 in
theorem ggX9_sheet_X9_in : GoodIn wsX9_sheet wsX9_in := goodIn_r _ [12] (by decide +kernel) (by decide +kernel)
set_option maxRecDepth 20000 in
theorem gX9_sheet_X9_in : GoodIn wsX9_sheet (va_wsS RX9 95 yX9_in wsX9_in) := goodIn_app (goodIn_of _ (by decide +kernel)) ggX9_sheet_X9_in
set_option maxRecDepth 20000 in
theorem ggX9_sheet_X9_failed : GoodIn wsX9_sheet wsX9_failed := goodIn_r _ [21, 17, 22, 23, 24, 25, 26, 27, 28, 29, 30, 31, 32, 33, 34, 35, 36, 37, 38, 39, 40, 41, 42, 43, 44, 45, 46, 47, 48, 49, 50, 51, 52, 53, 54, 55, 56, 57, 58, 59, 60] (by decide +kernel) (by decide +kernel)
set_option maxRecDepth 20000 in
theorem gX9_sheet_X9_failed : GoodIn wsX9_sheet (wsV RX9 126 RX9 yX9_failed wsX9_failed) := goodIn_app (goodIn_of _ (by decide +kernel)) ggX9_sheet_X9_failed
theorem dX9_sheet_0 : decode cX9_sheet 0 = .ok (.iload_n 1, 1) := by decide +kernel
theorem dX9_sheet_1 : decode cX9_sheet 1 = .ok (.invokestatic 134, 3) := by decide +kernel
theorem dX9_sheet_4 : decode cX9_sheet 4 = .ok (.ifCond .eq 9, 3) := by decide +kernel
theorem dX9_sheet_7 : decode cX9_sheet 7 = .ok (.aload_n 0, 1) := by decide +kernel
theorem dX9_sheet_8 : decode cX9_sheet 8 = .ok (.iconst (-1), 1) := by decide +kernel
theorem dX9_sheet_9 : decode cX9_sheet 9 = .ok (.invokevirtual 138, 3) := by decide +kernel
theorem dX9_sheet_12 : decode cX9_sheet 12 = .ok (.ireturn, 1) := by decide +kernel
theorem dX9_sheet_13 : decode cX9_sheet 13 = .ok (.iload_n 2, 1) := by decide +kernel
theorem dX9_sheet_14 : decode cX9_sheet 14 = .ok (.i2l, 1) := by decide +kernel
theorem dX9_sheet_15 : decode cX9_sheet 15 = .ok (.lconst 0, 1) := by decide +kernel
theorem dX9_sheet_16 : decode cX9_sheet 16 = .ok (.ldc2_w 141, 3) := by decide +kernel
theorem dX9_sheet_19 : decode cX9_sheet 19 = .ok (.invokestatic 95, 3) := by decide +kernel
theorem dX9_sheet_22 : decode cX9_sheet 22 = .ok (.ifCond .eq 9, 3) := by decide +kernel
theorem dX9_sheet_25 : decode cX9_sheet 25 = .ok (.iload_n 3, 1) := by decide +kernel
theorem dX9_sheet_26 : decode cX9_sheet 26 = .ok (.bipush 60, 2) := by decide +kernel
theorem dX9_sheet_28 : decode cX9_sheet 28 = .ok (.if_icmp .le 10, 3) := by decide +kernel
theorem dX9_sheet_31 : decode cX9_sheet 31 = .ok (.aload_n 0, 1) := by decide +kernel
theorem dX9_sheet_32 : decode cX9_sheet 32 = .ok (.bipush (-2), 2) := by decide +kernel
theorem dX9_sheet_34 : decode cX9_sheet 34 = .ok (.invokevirtual 138, 3) := by decide +kernel
theorem dX9_sheet_37 : decode cX9_sheet 37 = .ok (.ireturn, 1) := by decide +kernel
theorem dX9_sheet_38 : decode cX9_sheet 38 = .ok (.iload_n 3, 1) := by decide +kernel
theorem dX9_sheet_39 : decode cX9_sheet 39 = .ok (.ifCond .ge 9, 3) := by decide +kernel
theorem dX9_sheet_42 : decode cX9_sheet 42 = .ok (.aload_n 0, 1) := by decide +kernel
theorem dX9_sheet_43 : decode cX9_sheet 43 = .ok (.iconst 4, 1) := by decide +kernel
theorem dX9_sheet_44 : decode cX9_sheet 44 = .ok (.invokevirtual 126, 3) := by decide +kernel
theorem dX9_sheet_47 : decode cX9_sheet 47 = .ok (.ireturn, 1) := by decide +kernel
theorem dX9_sheet_48 : decode cX9_sheet 48 = .ok (.aload_n 0, 1) := by decide +kernel
theorem dX9_sheet_49 : decode cX9_sheet 49 = .ok (.getfield 70, 3) := by decide +kernel
theorem dX9_sheet_52 : decode cX9_sheet 52 = .ok (.iload_n 1, 1) := by decide +kernel
theorem dX9_sheet_53 : decode cX9_sheet 53 = .ok (.iload_n 3, 1) := by decide +kernel
theorem dX9_sheet_54 : decode cX9_sheet 54 = .ok (.iastore, 1) := by decide +kernel
theorem dX9_sheet_55 : decode cX9_sheet 55 = .ok (.aload_n 0, 1) := by decide +kernel
theorem dX9_sheet_56 : decode cX9_sheet 56 = .ok (.getfield 73, 3) := by decide +kernel
theorem dX9_sheet_59 : decode cX9_sheet 59 = .ok (.iload_n 1, 1) := by decide +kernel
theorem dX9_sheet_60 : decode cX9_sheet 60 = .ok (.iload_n 2, 1) := by decide +kernel
theorem dX9_sheet_61 : decode cX9_sheet 61 = .ok (.iastore, 1) := by decide +kernel
theorem dX9_sheet_62 : decode cX9_sheet 62 = .ok (.iconst 0, 1) := by decide +kernel
theorem dX9_sheet_63 : decode cX9_sheet 63 = .ok (.istore 4, 2) := by decide +kernel
theorem dX9_sheet_65 : decode cX9_sheet 65 = .ok (.iload 4, 2) := by decide +kernel
theorem dX9_sheet_67 : decode cX9_sheet 67 = .ok (.iload_n 3, 1) := by decide +kernel
theorem dX9_sheet_68 : decode cX9_sheet 68 = .ok (.if_icmp .ge 22, 3) := by decide +kernel
theorem dX9_sheet_71 : decode cX9_sheet 71 = .ok (.aload_n 0, 1) := by decide +kernel
theorem dX9_sheet_72 : decode cX9_sheet 72 = .ok (.getfield 76, 3) := by decide +kernel
theorem dX9_sheet_75 : decode cX9_sheet 75 = .ok (.bipush 60, 2) := by decide +kernel
theorem dX9_sheet_77 : decode cX9_sheet 77 = .ok (.iload_n 1, 1) := by decide +kernel
theorem dX9_sheet_78 : decode cX9_sheet 78 = .ok (.imul, 1) := by decide +kernel
theorem dX9_sheet_79 : decode cX9_sheet 79 = .ok (.iload 4, 2) := by decide +kernel
theorem dX9_sheet_81 : decode cX9_sheet 81 = .ok (.iadd, 1) := by decide +kernel
theorem dX9_sheet_82 : decode cX9_sheet 82 = .ok (.iconst 0, 1) := by decide +kernel
theorem dX9_sheet_83 : decode cX9_sheet 83 = .ok (.iastore, 1) := by decide +kernel
theorem dX9_sheet_84 : decode cX9_sheet 84 = .ok (.iinc 4 1, 3) := by decide +kernel
theorem dX9_sheet_87 : decode cX9_sheet 87 = .ok (.goto (-22), 3) := by decide +kernel
theorem dX9_sheet_90 : decode cX9_sheet 90 = .ok (.aload_n 0, 1) := by decide +kernel
theorem dX9_sheet_91 : decode cX9_sheet 91 = .ok (.iconst 1, 1) := by decide +kernel
theorem dX9_sheet_92 : decode cX9_sheet 92 = .ok (.invokevirtual 138, 3) := by decide +kernel
theorem dX9_sheet_95 : decode cX9_sheet 95 = .ok (.ireturn, 1) := by decide +kernel
set_option maxRecDepth 20000 in
theorem ggX9_lose_X9_noSheet : GoodIn wsX9_lose wsX9_noSheet := goodIn_r _ [5, 6, 7, 8, 4, 9] (by decide +kernel) (by decide +kernel)
set_option maxRecDepth 20000 in
theorem gX9_lose_X9_noSheet : GoodIn wsX9_lose (va_wsS RX9 134 yX9_noSheet wsX9_noSheet) := goodIn_app (goodIn_of _ (by decide +kernel)) ggX9_lose_X9_noSheet
theorem dX9_lose_0 : decode cX9_lose 0 = .ok (.iload_n 1, 1) := by decide +kernel
theorem dX9_lose_1 : decode cX9_lose 1 = .ok (.invokestatic 134, 3) := by decide +kernel
theorem dX9_lose_4 : decode cX9_lose 4 = .ok (.ifCond .eq 5, 3) := by decide +kernel
theorem dX9_lose_7 : decode cX9_lose 7 = .ok (.iconst (-1), 1) := by decide +kernel
theorem dX9_lose_8 : decode cX9_lose 8 = .ok (.ireturn, 1) := by decide +kernel
theorem dX9_lose_9 : decode cX9_lose 9 = .ok (.aload_n 0, 1) := by decide +kernel
theorem dX9_lose_10 : decode cX9_lose 10 = .ok (.getfield 70, 3) := by decide +kernel
theorem dX9_lose_13 : decode cX9_lose 13 = .ok (.iload_n 1, 1) := by decide +kernel
theorem dX9_lose_14 : decode cX9_lose 14 = .ok (.iaload, 1) := by decide +kernel
theorem dX9_lose_15 : decode cX9_lose 15 = .ok (.ifCond .ge 7, 3) := by decide +kernel
theorem dX9_lose_18 : decode cX9_lose 18 = .ok (.iconst 0, 1) := by decide +kernel
theorem dX9_lose_19 : decode cX9_lose 19 = .ok (.goto 4, 3) := by decide +kernel
theorem dX9_lose_22 : decode cX9_lose 22 = .ok (.iconst 1, 1) := by decide +kernel
theorem dX9_lose_23 : decode cX9_lose 23 = .ok (.istore_n 2, 1) := by decide +kernel
theorem dX9_lose_24 : decode cX9_lose 24 = .ok (.aload_n 0, 1) := by decide +kernel
theorem dX9_lose_25 : decode cX9_lose 25 = .ok (.getfield 70, 3) := by decide +kernel
theorem dX9_lose_28 : decode cX9_lose 28 = .ok (.iload_n 1, 1) := by decide +kernel
theorem dX9_lose_29 : decode cX9_lose 29 = .ok (.iconst (-1), 1) := by decide +kernel
theorem dX9_lose_30 : decode cX9_lose 30 = .ok (.iastore, 1) := by decide +kernel
theorem dX9_lose_31 : decode cX9_lose 31 = .ok (.iload_n 2, 1) := by decide +kernel
theorem dX9_lose_32 : decode cX9_lose 32 = .ok (.ireturn, 1) := by decide +kernel
set_option maxRecDepth 20000 in
theorem ggX9_noCell_X9_in : GoodIn wsX9_noCell wsX9_in := goodIn_r _ [5] (by decide +kernel) (by decide +kernel)
set_option maxRecDepth 20000 in
theorem gX9_noCell_X9_in : GoodIn wsX9_noCell (va_wsS RX9 95 yX9_in wsX9_in) := goodIn_app (goodIn_of _ (by decide +kernel)) ggX9_noCell_X9_in
theorem dX9_noCell_0 : decode cX9_noCell 0 = .ok (.aload_n 0, 1) := by decide +kernel
theorem dX9_noCell_1 : decode cX9_noCell 1 = .ok (.getfield 70, 3) := by decide +kernel
theorem dX9_noCell_4 : decode cX9_noCell 4 = .ok (.iload_n 1, 1) := by decide +kernel
theorem dX9_noCell_5 : decode cX9_noCell 5 = .ok (.iaload, 1) := by decide +kernel
theorem dX9_noCell_6 : decode cX9_noCell 6 = .ok (.ifCond .ge 7, 3) := by decide +kernel
theorem dX9_noCell_9 : decode cX9_noCell 9 = .ok (.iconst 1, 1) := by decide +kernel
theorem dX9_noCell_10 : decode cX9_noCell 10 = .ok (.goto 26, 3) := by decide +kernel
theorem dX9_noCell_13 : decode cX9_noCell 13 = .ok (.iload_n 2, 1) := by decide +kernel
theorem dX9_noCell_14 : decode cX9_noCell 14 = .ok (.i2l, 1) := by decide +kernel
theorem dX9_noCell_15 : decode cX9_noCell 15 = .ok (.lconst 0, 1) := by decide +kernel
theorem dX9_noCell_16 : decode cX9_noCell 16 = .ok (.aload_n 0, 1) := by decide +kernel
theorem dX9_noCell_17 : decode cX9_noCell 17 = .ok (.getfield 70, 3) := by decide +kernel
theorem dX9_noCell_20 : decode cX9_noCell 20 = .ok (.iload_n 1, 1) := by decide +kernel
theorem dX9_noCell_21 : decode cX9_noCell 21 = .ok (.iaload, 1) := by decide +kernel
theorem dX9_noCell_22 : decode cX9_noCell 22 = .ok (.i2l, 1) := by decide +kernel
theorem dX9_noCell_23 : decode cX9_noCell 23 = .ok (.lconst 1, 1) := by decide +kernel
theorem dX9_noCell_24 : decode cX9_noCell 24 = .ok (.lsub, 1) := by decide +kernel
theorem dX9_noCell_25 : decode cX9_noCell 25 = .ok (.invokestatic 95, 3) := by decide +kernel
theorem dX9_noCell_28 : decode cX9_noCell 28 = .ok (.ifCond .eq 7, 3) := by decide +kernel
theorem dX9_noCell_31 : decode cX9_noCell 31 = .ok (.iconst 0, 1) := by decide +kernel
theorem dX9_noCell_32 : decode cX9_noCell 32 = .ok (.goto 4, 3) := by decide +kernel
theorem dX9_noCell_35 : decode cX9_noCell 35 = .ok (.iconst 3, 1) := by decide +kernel
theorem dX9_noCell_36 : decode cX9_noCell 36 = .ok (.ireturn, 1) := by decide +kernel
set_option maxRecDepth 20000 in
theorem ggX9_put_X9_noSheet : GoodIn wsX9_put wsX9_noSheet := goodIn_r _ [6, 7, 8, 9, 5, 10] (by decide +kernel) (by decide +kernel)
set_option maxRecDepth 20000 in
theorem gX9_put_X9_noSheet : GoodIn wsX9_put (va_wsS RX9 134 yX9_noSheet wsX9_noSheet) := goodIn_app (goodIn_of _ (by decide +kernel)) ggX9_put_X9_noSheet
set_option maxRecDepth 20000 in
theorem ggX9_put_X9_refused : GoodIn wsX9_put wsX9_refused := goodIn_r _ [14, 15, 25, 26, 27, 28, 29, 30, 31, 32, 33, 34, 35, 36, 37, 38, 39, 40, 41, 42, 43, 44, 45, 46, 47, 48, 49, 50, 51, 52, 53, 54, 55, 56, 57, 58, 59, 60, 61, 62, 63] (by decide +kernel) (by decide +kernel)
set_option maxRecDepth 20000 in
theorem gX9_put_X9_refused : GoodIn wsX9_put (wsV RX9 138 RX9 yX9_refused wsX9_refused) := goodIn_app (goodIn_of _ (by decide +kernel)) ggX9_put_X9_refused
set_option maxRecDepth 20000 in
theorem ggX9_put_X9_noCell : GoodIn wsX9_put wsX9_noCell := goodIn_r _ [19, 20, 8, 9, 5, 10, 25, 26, 27, 28, 29, 30, 31, 32, 33, 34, 35, 36, 37, 38, 39, 40, 41, 42, 43, 44, 45, 46, 47, 48, 49, 50, 51, 52, 53, 54, 55, 56, 57, 58, 59, 60, 61, 62, 63] (by decide +kernel) (by decide +kernel)
set_option maxRecDepth 20000 in
theorem gX9_put_X9_noCell : GoodIn wsX9_put (wsV RX9 288 RX9 yX9_noCell wsX9_noCell) := goodIn_app (goodIn_of _ (by decide +kernel)) ggX9_put_X9_noCell
set_option maxRecDepth 20000 in
theorem ggX9_put_X9_failed : GoodIn wsX9_put wsX9_failed := goodIn_r _ [24, 15, 25, 26, 27, 28, 29, 30, 31, 32, 33, 34, 35, 36, 37, 38, 39, 40, 41, 42, 43, 44, 45, 46, 47, 48, 49, 50, 51, 52, 53, 54, 55, 56, 57, 58, 59, 60, 61, 62, 63] (by decide +kernel) (by decide +kernel)
set_option maxRecDepth 20000 in
theorem gX9_put_X9_failed : GoodIn wsX9_put (wsV RX9 126 RX9 yX9_failed wsX9_failed) := goodIn_app (goodIn_of _ (by decide +kernel)) ggX9_put_X9_failed
theorem dX9_put_0 : decode cX9_put 0 = .ok (.iload_n 1, 1) := by decide +kernel
theorem dX9_put_1 : decode cX9_put 1 = .ok (.invokestatic 134, 3) := by decide +kernel
theorem dX9_put_4 : decode cX9_put 4 = .ok (.ifCond .eq 9, 3) := by decide +kernel
theorem dX9_put_7 : decode cX9_put 7 = .ok (.aload_n 0, 1) := by decide +kernel
theorem dX9_put_8 : decode cX9_put 8 = .ok (.iconst (-1), 1) := by decide +kernel
theorem dX9_put_9 : decode cX9_put 9 = .ok (.invokevirtual 138, 3) := by decide +kernel
theorem dX9_put_12 : decode cX9_put 12 = .ok (.ireturn, 1) := by decide +kernel
theorem dX9_put_13 : decode cX9_put 13 = .ok (.aload_n 0, 1) := by decide +kernel
theorem dX9_put_14 : decode cX9_put 14 = .ok (.iload_n 1, 1) := by decide +kernel
theorem dX9_put_15 : decode cX9_put 15 = .ok (.iload_n 2, 1) := by decide +kernel
theorem dX9_put_16 : decode cX9_put 16 = .ok (.invokevirtual 288, 3) := by decide +kernel
theorem dX9_put_19 : decode cX9_put 19 = .ok (.ifCond .le 14, 3) := by decide +kernel
theorem dX9_put_22 : decode cX9_put 22 = .ok (.aload_n 0, 1) := by decide +kernel
theorem dX9_put_23 : decode cX9_put 23 = .ok (.aload_n 0, 1) := by decide +kernel
theorem dX9_put_24 : decode cX9_put 24 = .ok (.iload_n 1, 1) := by decide +kernel
theorem dX9_put_25 : decode cX9_put 25 = .ok (.iload_n 2, 1) := by decide +kernel
theorem dX9_put_26 : decode cX9_put 26 = .ok (.invokevirtual 288, 3) := by decide +kernel
theorem dX9_put_29 : decode cX9_put 29 = .ok (.invokevirtual 126, 3) := by decide +kernel
theorem dX9_put_32 : decode cX9_put 32 = .ok (.ireturn, 1) := by decide +kernel
theorem dX9_put_33 : decode cX9_put 33 = .ok (.aload_n 0, 1) := by decide +kernel
