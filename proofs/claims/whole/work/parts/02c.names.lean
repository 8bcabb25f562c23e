theorem dX8_rise_0 : decode cX8_rise 0 = .ok (.aload_n 0, 1) := by decide +kernel
theorem dX8_rise_1 : decode cX8_rise 1 = .ok (.getfield 27, 3) := by decide +kernel
theorem dX8_rise_4 : decode cX8_rise 4 = .ok (.iload_n 1, 1) := by decide +kernel
theorem dX8_rise_5 : decode cX8_rise 5 = .ok (.invokevirtual 92, 3) := by decide +kernel
theorem dX8_rise_8 : decode cX8_rise 8 = .ok (.ifCond .ne 5, 3) := by decide +kernel
theorem dX8_rise_11 : decode cX8_rise 11 = .ok (.iconst (-1), 1) := by decide +kernel
theorem dX8_rise_12 : decode cX8_rise 12 = .ok (.ireturn, 1) := by decide +kernel
theorem dX8_rise_13 : decode cX8_rise 13 = .ok (.aload_n 0, 1) := by decide +kernel
theorem dX8_rise_14 : decode cX8_rise 14 = .ok (.getfield 27, 3) := by decide +kernel
theorem dX8_rise_17 : decode cX8_rise 17 = .ok (.iload_n 1, 1) := by decide +kernel
theorem dX8_rise_18 : decode cX8_rise 18 = .ok (.iconst 0, 1) := by decide +kernel
theorem dX8_rise_19 : decode cX8_rise 19 = .ok (.invokevirtual 159, 3) := by decide +kernel
theorem dX8_rise_22 : decode cX8_rise 22 = .ok (.ifCond .eq 16, 3) := by decide +kernel
theorem dX8_rise_25 : decode cX8_rise 25 = .ok (.aload_n 0, 1) := by decide +kernel
theorem dX8_rise_26 : decode cX8_rise 26 = .ok (.getfield 27, 3) := by decide +kernel
theorem dX8_rise_29 : decode cX8_rise 29 = .ok (.invokevirtual 163, 3) := by decide +kernel
theorem dX8_rise_32 : decode cX8_rise 32 = .ok (.invokestatic 166, 3) := by decide +kernel
theorem dX8_rise_35 : decode cX8_rise 35 = .ok (.goto 5, 3) := by decide +kernel
theorem dX8_rise_38 : decode cX8_rise 38 = .ok (.bipush (-3), 2) := by decide +kernel
theorem dX8_rise_40 : decode cX8_rise 40 = .ok (.ireturn, 1) := by decide +kernel
set_option maxRecDepth 20000 in
theorem ggX8_give_X8_isKind : GoodIn wsX8_give wsX8_isKind := goodIn_r _ [6] (by decide +kernel) (by decide +kernel)
set_option maxRecDepth 20000 in
theorem gX8_give_X8_isKind : GoodIn wsX8_give (va_wsS RX8 171 yX8_isKind wsX8_isKind) := goodIn_app (goodIn_of _ (by decide +kernel)) ggX8_give_X8_isKind
set_option maxRecDepth 20000 in
theorem ggX8_give_X6_has : GoodIn wsX8_give wsX6_has := goodIn_r _ [11, 12, 31, 32, 33, 34] (by decide +kernel) (by decide +kernel)
set_option maxRecDepth 20000 in
theorem gX8_give_X6_has : GoodIn wsX8_give (wsV RX8 143 RX6 yX6_has wsX6_has) := goodIn_app (goodIn_of _ (by decide +kernel)) ggX8_give_X6_has
set_option maxRecDepth 20000 in
theorem ggX8_give_X0_add : GoodIn wsX8_give wsX0_add := goodIn_r _ [17, 18, 19, 29, 30, 35, 36, 37, 38, 39, 40] (by decide +kernel) (by decide +kernel)
set_option maxRecDepth 20000 in
theorem gX8_give_X0_add : GoodIn wsX8_give (wsV RX8 174 RX0 yX0_add wsX0_add) := goodIn_app (goodIn_of _ (by decide +kernel)) ggX8_give_X0_add
theorem dX8_give_0 : decode cX8_give 0 = .ok (.iload_n 1, 1) := by decide +kernel
theorem dX8_give_1 : decode cX8_give 1 = .ok (.invokestatic 171, 3) := by decide +kernel
theorem dX8_give_4 : decode cX8_give 4 = .ok (.ifCond .eq 16, 3) := by decide +kernel
theorem dX8_give_7 : decode cX8_give 7 = .ok (.iload 4, 2) := by decide +kernel
theorem dX8_give_9 : decode cX8_give 9 = .ok (.iconst 1, 1) := by decide +kernel
theorem dX8_give_10 : decode cX8_give 10 = .ok (.if_icmp .lt 10, 3) := by decide +kernel
theorem dX8_give_13 : decode cX8_give 13 = .ok (.iload 4, 2) := by decide +kernel
theorem dX8_give_15 : decode cX8_give 15 = .ok (.bipush 9, 2) := by decide +kernel
theorem dX8_give_17 : decode cX8_give 17 = .ok (.if_icmp .le 6, 3) := by decide +kernel
theorem dX8_give_20 : decode cX8_give 20 = .ok (.bipush (-2), 2) := by decide +kernel
theorem dX8_give_22 : decode cX8_give 22 = .ok (.ireturn, 1) := by decide +kernel
theorem dX8_give_23 : decode cX8_give 23 = .ok (.aload_n 0, 1) := by decide +kernel
theorem dX8_give_24 : decode cX8_give 24 = .ok (.getfield 20, 3) := by decide +kernel
theorem dX8_give_27 : decode cX8_give 27 = .ok (.iload_n 2, 1) := by decide +kernel
theorem dX8_give_28 : decode cX8_give 28 = .ok (.invokevirtual 143, 3) := by decide +kernel
theorem dX8_give_31 : decode cX8_give 31 = .ok (.ifCond .eq 14, 3) := by decide +kernel
theorem dX8_give_34 : decode cX8_give 34 = .ok (.aload_n 0, 1) := by decide +kernel
theorem dX8_give_35 : decode cX8_give 35 = .ok (.getfield 20, 3) := by decide +kernel
theorem dX8_give_38 : decode cX8_give 38 = .ok (.iload_n 3, 1) := by decide +kernel
theorem dX8_give_39 : decode cX8_give 39 = .ok (.invokevirtual 143, 3) := by decide +kernel
theorem dX8_give_42 : decode cX8_give 42 = .ok (.ifCond .ne 5, 3) := by decide +kernel
theorem dX8_give_45 : decode cX8_give 45 = .ok (.iconst (-1), 1) := by decide +kernel
theorem dX8_give_46 : decode cX8_give 46 = .ok (.ireturn, 1) := by decide +kernel
theorem dX8_give_47 : decode cX8_give 47 = .ok (.aload_n 0, 1) := by decide +kernel
theorem dX8_give_48 : decode cX8_give 48 = .ok (.getfield 27, 3) := by decide +kernel
theorem dX8_give_51 : decode cX8_give 51 = .ok (.getfield 91, 3) := by decide +kernel
theorem dX8_give_54 : decode cX8_give 54 = .ok (.bipush 6, 2) := by decide +kernel
theorem dX8_give_56 : decode cX8_give 56 = .ok (.if_icmp .lt 6, 3) := by decide +kernel
theorem dX8_give_59 : decode cX8_give 59 = .ok (.bipush (-4), 2) := by decide +kernel
theorem dX8_give_61 : decode cX8_give 61 = .ok (.ireturn, 1) := by decide +kernel
theorem dX8_give_62 : decode cX8_give 62 = .ok (.aload_n 0, 1) := by decide +kernel
theorem dX8_give_63 : decode cX8_give 63 = .ok (.getfield 27, 3) := by decide +kernel
theorem dX8_give_66 : decode cX8_give 66 = .ok (.iload_n 1, 1) := by decide +kernel
theorem dX8_give_67 : decode cX8_give 67 = .ok (.iload_n 2, 1) := by decide +kernel
theorem dX8_give_68 : decode cX8_give 68 = .ok (.iload_n 3, 1) := by decide +kernel
theorem dX8_give_69 : decode cX8_give 69 = .ok (.iload 4, 2) := by decide +kernel
theorem dX8_give_71 : decode cX8_give 71 = .ok (.invokevirtual 174, 3) := by decide +kernel
theorem dX8_give_74 : decode cX8_give 74 = .ok (.aload_n 0, 1) := by decide +kernel
theorem dX8_give_75 : decode cX8_give 75 = .ok (.getfield 27, 3) := by decide +kernel
theorem dX8_give_78 : decode cX8_give 78 = .ok (.getfield 91, 3) := by decide +kernel
theorem dX8_give_81 : decode cX8_give 81 = .ok (.iconst 1, 1) := by decide +kernel
theorem dX8_give_82 : decode cX8_give 82 = .ok (.isub, 1) := by decide +kernel
theorem dX8_give_83 : decode cX8_give 83 = .ok (.ireturn, 1) := by decide +kernel
set_option maxRecDepth 20000 in
theorem ggX8_season_X8_isSheet : GoodIn wsX8_season wsX8_isSheet := goodIn_r _ [9] (by decide +kernel) (by decide +kernel)
set_option maxRecDepth 20000 in
theorem gX8_season_X8_isSheet : GoodIn wsX8_season (va_wsS RX8 63 yX8_isSheet wsX8_isSheet) := goodIn_app (goodIn_of _ (by decide +kernel)) ggX8_season_X8_isSheet
set_option maxRecDepth 20000 in
theorem ggX8_season_X8_isLane : GoodIn wsX8_season wsX8_isLane := goodIn_r _ [12] (by decide +kernel) (by decide +kernel)
set_option maxRecDepth 20000 in
theorem gX8_season_X8_isLane : GoodIn wsX8_season (va_wsS RX8 67 yX8_isLane wsX8_isLane) := goodIn_app (goodIn_of _ (by decide +kernel)) ggX8_season_X8_isLane
set_option maxRecDepth 20000 in
theorem ggX8_season_X4_canTell : GoodIn wsX8_season wsX4_canTell := goodIn_r _ [16] (by decide +kernel) (by decide +kernel)
set_option maxRecDepth 20000 in
theorem gX8_season_X4_canTell : GoodIn wsX8_season (va_wsS RX8 178 yX4_canTell wsX4_canTell) := goodIn_app (goodIn_of _ (by decide +kernel)) ggX8_season_X4_canTell
set_option maxRecDepth 20000 in
theorem ggX8_season_X8_hasTown : GoodIn wsX8_season wsX8_hasTown := goodIn_r _ [20, 5, 135, 136, 137, 138, 139, 140, 141, 142, 143, 144, 145, 146, 147] (by decide +kernel) (by decide +kernel)
set_option maxRecDepth 20000 in
theorem gX8_season_X8_hasTown : GoodIn wsX8_season (wsV RX8 147 RX8 yX8_hasTown wsX8_hasTown) := goodIn_app (goodIn_of _ (by decide +kernel)) ggX8_season_X8_hasTown
set_option maxRecDepth 20000 in
theorem ggX8_season_X5_faultAsRow : GoodIn wsX8_season wsX5_faultAsRow := goodIn_r _ [25, 26, 27, 28, 29, 24, 30, 31, 32, 33, 34, 35, 148, 149, 150] (by decide +kernel) (by decide +kernel)
set_option maxRecDepth 20000 in
theorem gX8_season_X5_faultAsRow : GoodIn wsX8_season (wsV RX8 70 RX5 yX5_faultAsRow wsX5_faultAsRow) := goodIn_app (goodIn_of _ (by decide +kernel)) ggX8_season_X5_faultAsRow
set_option maxRecDepth 20000 in
theorem ggX8_season_X8_faulted : GoodIn wsX8_season wsX8_faulted := goodIn_r _ [39, 1, 135, 136, 137, 138, 139, 140, 141, 142, 143] (by decide +kernel) (by decide +kernel)
set_option maxRecDepth 20000 in
theorem gX8_season_X8_faulted : GoodIn wsX8_season (wsV RX8 74 RX8 yX8_faulted wsX8_faulted) := goodIn_app (goodIn_of _ (by decide +kernel)) ggX8_season_X8_faulted
set_option maxRecDepth 20000 in
theorem ggX8_season_X4_refusal : GoodIn wsX8_season wsX4_refusal := goodIn_r _ [42, 43, 44, 45, 24, 46, 35, 47, 48, 49, 50, 51, 52, 53, 148, 149, 150, 151, 152] (by decide +kernel) (by decide +kernel)
set_option maxRecDepth 20000 in
theorem gX8_season_X4_refusal : GoodIn wsX8_season (va_wsS RX8 181 yX4_refusal wsX4_refusal) := goodIn_app (goodIn_of _ (by decide +kernel)) ggX8_season_X4_refusal
set_option maxRecDepth 20000 in
theorem ggX8_season_X4_play : GoodIn wsX8_season wsX4_play := goodIn_r _ [57, 58, 59, 60, 61, 62, 63, 64, 65, 51, 66, 53, 67, 68, 69, 70, 71, 72, 73, 74, 75, 76, 77, 78, 79, 80, 81, 82, 83, 84, 85, 86, 87, 88, 89, 90, 91, 92, 93, 94, 95, 96, 97, 98, 99, 100, 101, 102, 103, 104, 105, 106, 43, 44, 45, 24, 46, 35, 47, 107, 108, 109, 15, 110, 111, 112, 113, 114, 115, 116, 117, 118, 119, 8, 120, 121, 122, 123, 124, 125, 49, 50, 52, 153, 154, 155, 156, 157, 151, 152, 158, 159, 160, 161, 162, 163, 144, 145, 146, 147, 148, 149, 150] (by decide +kernel) (by decide +kernel)
set_option maxRecDepth 20000 in
theorem gX8_season_X4_play : GoodIn wsX8_season (wsV RX8 185 RX4 yX4_play wsX4_play) := goodIn_app (goodIn_of _ (by decide +kernel)) ggX8_season_X4_play
set_option maxRecDepth 20000 in
theorem ggX8_season_X4_told : GoodIn wsX8_season wsX4_told := goodIn_r _ [129, 59, 58, 62, 61, 130, 84, 85, 51, 86, 53, 67, 87, 88, 89, 71, 90, 74, 75, 77, 91, 92, 93, 94, 95, 96, 97, 98, 99, 100, 101, 102, 131, 132, 133, 134, 103, 104, 105, 106, 48, 49, 50, 52, 153, 154, 155, 156, 157, 151, 152, 158, 159, 160, 161, 162, 163, 144, 145, 146, 147] (by decide +kernel) (by decide +kernel)
set_option maxRecDepth 20000 in
theorem gX8_season_X4_told : GoodIn wsX8_season (wsV RX8 189 RX4 yX4_told wsX4_told) := goodIn_app (goodIn_of _ (by decide +kernel)) ggX8_season_X4_told
theorem dX8_season_0 : decode cX8_season 0 = .ok (.aload_n 0, 1) := by decide +kernel
theorem dX8_season_1 : decode cX8_season 1 = .ok (.iconst 0, 1) := by decide +kernel
theorem dX8_season_2 : decode cX8_season 2 = .ok (.putfield 59, 3) := by decide +kernel
theorem dX8_season_5 : decode cX8_season 5 = .ok (.iload_n 1, 1) := by decide +kernel
theorem dX8_season_6 : decode cX8_season 6 = .ok (.invokestatic 63, 3) := by decide +kernel
theorem dX8_season_9 : decode cX8_season 9 = .ok (.ifCond .ne 5, 3) := by decide +kernel
theorem dX8_season_12 : decode cX8_season 12 = .ok (.iconst (-1), 1) := by decide +kernel
theorem dX8_season_13 : decode cX8_season 13 = .ok (.ireturn, 1) := by decide +kernel
theorem dX8_season_14 : decode cX8_season 14 = .ok (.iload_n 2, 1) := by decide +kernel
theorem dX8_season_15 : decode cX8_season 15 = .ok (.invokestatic 67, 3) := by decide +kernel
theorem dX8_season_18 : decode cX8_season 18 = .ok (.ifCond .eq 23, 3) := by decide +kernel
theorem dX8_season_21 : decode cX8_season 21 = .ok (.iload 4, 2) := by decide +kernel
theorem dX8_season_23 : decode cX8_season 23 = .ok (.ifCond .lt 18, 3) := by decide +kernel
theorem dX8_season_26 : decode cX8_season 26 = .ok (.iload 4, 2) := by decide +kernel
theorem dX8_season_28 : decode cX8_season 28 = .ok (.bipush 20, 2) := by decide +kernel
theorem dX8_season_30 : decode cX8_season 30 = .ok (.if_icmp .gt 11, 3) := by decide +kernel
theorem dX8_season_33 : decode cX8_season 33 = .ok (.iload 5, 2) := by decide +kernel
theorem dX8_season_35 : decode cX8_season 35 = .ok (.invokestatic 178, 3) := by decide +kernel
theorem dX8_season_38 : decode cX8_season 38 = .ok (.ifCond .ne 6, 3) := by decide +kernel
theorem dX8_season_41 : decode cX8_season 41 = .ok (.bipush (-2), 2) := by decide +kernel
theorem dX8_season_43 : decode cX8_season 43 = .ok (.ireturn, 1) := by decide +kernel
theorem dX8_season_44 : decode cX8_season 44 = .ok (.aload_n 0, 1) := by decide +kernel
theorem dX8_season_45 : decode cX8_season 45 = .ok (.invokevirtual 147, 3) := by decide +kernel
theorem dX8_season_48 : decode cX8_season 48 = .ok (.ifCond .ne 6, 3) := by decide +kernel
theorem dX8_season_51 : decode cX8_season 51 = .ok (.bipush (-3), 2) := by decide +kernel
theorem dX8_season_53 : decode cX8_season 53 = .ok (.ireturn, 1) := by decide +kernel
theorem dX8_season_54 : decode cX8_season 54 = .ok (.aload_n 0, 1) := by decide +kernel
theorem dX8_season_55 : decode cX8_season 55 = .ok (.getfield 13, 3) := by decide +kernel
theorem dX8_season_58 : decode cX8_season 58 = .ok (.iload_n 1, 1) := by decide +kernel
theorem dX8_season_59 : decode cX8_season 59 = .ok (.aaload, 1) := by decide +kernel
theorem dX8_season_60 : decode cX8_season 60 = .ok (.astore 6, 2) := by decide +kernel
theorem dX8_season_62 : decode cX8_season 62 = .ok (.aload 6, 2) := by decide +kernel
theorem dX8_season_64 : decode cX8_season 64 = .ok (.iload_n 2, 1) := by decide +kernel
theorem dX8_season_65 : decode cX8_season 65 = .ok (.iload_n 3, 1) := by decide +kernel
theorem dX8_season_66 : decode cX8_season 66 = .ok (.iconst 2, 1) := by decide +kernel
theorem dX8_season_67 : decode cX8_season 67 = .ok (.iload 4, 2) := by decide +kernel
theorem dX8_season_69 : decode cX8_season 69 = .ok (.imul, 1) := by decide +kernel
theorem dX8_season_70 : decode cX8_season 70 = .ok (.invokevirtual 70, 3) := by decide +kernel
theorem dX8_season_73 : decode cX8_season 73 = .ok (.istore 7, 2) := by decide +kernel
theorem dX8_season_75 : decode cX8_season 75 = .ok (.iload 7, 2) := by decide +kernel
theorem dX8_season_77 : decode cX8_season 77 = .ok (.ifCond .eq 10, 3) := by decide +kernel
theorem dX8_season_80 : decode cX8_season 80 = .ok (.aload_n 0, 1) := by decide +kernel
theorem dX8_season_81 : decode cX8_season 81 = .ok (.iload 7, 2) := by decide +kernel
theorem dX8_season_83 : decode cX8_season 83 = .ok (.invokevirtual 74, 3) := by decide +kernel
theorem dX8_season_86 : decode cX8_season 86 = .ok (.ireturn, 1) := by decide +kernel
theorem dX8_season_87 : decode cX8_season 87 = .ok (.aload 6, 2) := by decide +kernel
theorem dX8_season_89 : decode cX8_season 89 = .ok (.iload_n 3, 1) := by decide +kernel
theorem dX8_season_90 : decode cX8_season 90 = .ok (.iload 4, 2) := by decide +kernel
theorem dX8_season_92 : decode cX8_season 92 = .ok (.aload_n 0, 1) := by decide +kernel
theorem dX8_season_93 : decode cX8_season 93 = .ok (.getfield 27, 3) := by decide +kernel
theorem dX8_season_96 : decode cX8_season 96 = .ok (.invokestatic 181, 3) := by decide +kernel
theorem dX8_season_99 : decode cX8_season 99 = .ok (.istore 8, 2) := by decide +kernel
theorem dX8_season_101 : decode cX8_season 101 = .ok (.iload 8, 2) := by decide +kernel
theorem dX8_season_103 : decode cX8_season 103 = .ok (.ifCond .eq 6, 3) := by decide +kernel
theorem dX8_season_106 : decode cX8_season 106 = .ok (.iload 8, 2) := by decide +kernel
theorem dX8_season_108 : decode cX8_season 108 = .ok (.ireturn, 1) := by decide +kernel
theorem dX8_season_109 : decode cX8_season 109 = .ok (.aload_n 0, 1) := by decide +kernel
theorem dX8_season_110 : decode cX8_season 110 = .ok (.getfield 34, 3) := by decide +kernel
theorem dX8_season_113 : decode cX8_season 113 = .ok (.aload 6, 2) := by decide +kernel
theorem dX8_season_115 : decode cX8_season 115 = .ok (.iload_n 3, 1) := by decide +kernel
theorem dX8_season_116 : decode cX8_season 116 = .ok (.iload 4, 2) := by decide +kernel
theorem dX8_season_118 : decode cX8_season 118 = .ok (.aload_n 0, 1) := by decide +kernel
theorem dX8_season_119 : decode cX8_season 119 = .ok (.getfield 27, 3) := by decide +kernel
theorem dX8_season_122 : decode cX8_season 122 = .ok (.aload_n 0, 1) := by decide +kernel
theorem dX8_season_123 : decode cX8_season 123 = .ok (.getfield 20, 3) := by decide +kernel
theorem dX8_season_126 : decode cX8_season 126 = .ok (.invokevirtual 185, 3) := by decide +kernel
theorem dX8_season_129 : decode cX8_season 129 = .ok (.aload_n 0, 1) := by decide +kernel
theorem dX8_season_130 : decode cX8_season 130 = .ok (.getfield 34, 3) := by decide +kernel
theorem dX8_season_133 : decode cX8_season 133 = .ok (.iload 5, 2) := by decide +kernel
theorem dX8_season_135 : decode cX8_season 135 = .ok (.aload_n 0, 1) := by decide +kernel
theorem dX8_season_136 : decode cX8_season 136 = .ok (.getfield 20, 3) := by decide +kernel
theorem dX8_season_139 : decode cX8_season 139 = .ok (.invokevirtual 189, 3) := by decide +kernel
theorem dX8_season_142 : decode cX8_season 142 = .ok (.ireturn, 1) := by decide +kernel
set_option maxRecDepth 20000 in
theorem ggX8_way_X6_has : GoodIn wsX8_way wsX6_has := goodIn_r _ [6, 7, 41, 42, 43, 44] (by decide +kernel) (by decide +kernel)
set_option maxRecDepth 20000 in
theorem gX8_way_X6_has : GoodIn wsX8_way (wsV RX8 143 RX6 yX6_has wsX6_has) := goodIn_app (goodIn_of _ (by decide +kernel)) ggX8_way_X6_has
set_option maxRecDepth 20000 in
theorem ggX8_way_X6_cornersOnWay : GoodIn wsX8_way wsX6_cornersOnWay := goodIn_r _ [11, 12, 13, 14, 5, 15, 7, 16, 17, 18, 19, 20, 21, 22, 3, 4, 6, 23, 24, 25, 26, 27, 41, 42, 43, 44] (by decide +kernel) (by decide +kernel)
set_option maxRecDepth 20000 in
theorem gX8_way_X6_cornersOnWay : GoodIn wsX8_way (wsV RX8 193 RX6 yX6_cornersOnWay wsX6_cornersOnWay) := goodIn_app (goodIn_of _ (by decide +kernel)) ggX8_way_X6_cornersOnWay
set_option maxRecDepth 20000 in
theorem ggX8_way_X6_cornerOnWay : GoodIn wsX8_way wsX6_cornerOnWay := goodIn_r _ [31, 16, 17, 18, 5, 19, 20, 21, 22, 3, 4, 6, 7, 12, 13, 14, 15, 23, 24, 25, 26, 27, 41, 42, 43, 44] (by decide +kernel) (by decide +kernel)
set_option maxRecDepth 20000 in
theorem gX8_way_X6_cornerOnWay : GoodIn wsX8_way (wsV RX8 196 RX6 yX6_cornerOnWay wsX6_cornerOnWay) := goodIn_app (goodIn_of _ (by decide +kernel)) ggX8_way_X6_cornerOnWay
theorem dX8_way_0 : decode cX8_way 0 = .ok (.aload_n 0, 1) := by decide +kernel
theorem dX8_way_1 : decode cX8_way 1 = .ok (.getfield 20, 3) := by decide +kernel
theorem dX8_way_4 : decode cX8_way 4 = .ok (.iload_n 1, 1) := by decide +kernel
theorem dX8_way_5 : decode cX8_way 5 = .ok (.invokevirtual 143, 3) := by decide +kernel
theorem dX8_way_8 : decode cX8_way 8 = .ok (.ifCond .eq 14, 3) := by decide +kernel
theorem dX8_way_11 : decode cX8_way 11 = .ok (.aload_n 0, 1) := by decide +kernel
theorem dX8_way_12 : decode cX8_way 12 = .ok (.getfield 20, 3) := by decide +kernel
theorem dX8_way_15 : decode cX8_way 15 = .ok (.iload_n 2, 1) := by decide +kernel
theorem dX8_way_16 : decode cX8_way 16 = .ok (.invokevirtual 143, 3) := by decide +kernel
theorem dX8_way_19 : decode cX8_way 19 = .ok (.ifCond .ne 5, 3) := by decide +kernel
theorem dX8_way_22 : decode cX8_way 22 = .ok (.iconst (-1), 1) := by decide +kernel
theorem dX8_way_23 : decode cX8_way 23 = .ok (.ireturn, 1) := by decide +kernel
theorem dX8_way_24 : decode cX8_way 24 = .ok (.iload_n 3, 1) := by decide +kernel
theorem dX8_way_25 : decode cX8_way 25 = .ok (.iconst (-1), 1) := by decide +kernel
theorem dX8_way_26 : decode cX8_way 26 = .ok (.if_icmp .lt 9, 3) := by decide +kernel
theorem dX8_way_29 : decode cX8_way 29 = .ok (.iload_n 3, 1) := by decide +kernel
theorem dX8_way_30 : decode cX8_way 30 = .ok (.bipush 6, 2) := by decide +kernel
theorem dX8_way_32 : decode cX8_way 32 = .ok (.if_icmp .lt 6, 3) := by decide +kernel
theorem dX8_way_35 : decode cX8_way 35 = .ok (.bipush (-2), 2) := by decide +kernel
theorem dX8_way_37 : decode cX8_way 37 = .ok (.ireturn, 1) := by decide +kernel
theorem dX8_way_38 : decode cX8_way 38 = .ok (.iload_n 3, 1) := by decide +kernel
theorem dX8_way_39 : decode cX8_way 39 = .ok (.iconst (-1), 1) := by decide +kernel
theorem dX8_way_40 : decode cX8_way 40 = .ok (.if_icmp .ne 15, 3) := by decide +kernel
theorem dX8_way_43 : decode cX8_way 43 = .ok (.aload_n 0, 1) := by decide +kernel
theorem dX8_way_44 : decode cX8_way 44 = .ok (.getfield 20, 3) := by decide +kernel
theorem dX8_way_47 : decode cX8_way 47 = .ok (.iload_n 1, 1) := by decide +kernel
theorem dX8_way_48 : decode cX8_way 48 = .ok (.iload_n 2, 1) := by decide +kernel
theorem dX8_way_49 : decode cX8_way 49 = .ok (.invokevirtual 193, 3) := by decide +kernel
theorem dX8_way_52 : decode cX8_way 52 = .ok (.goto 13, 3) := by decide +kernel
theorem dX8_way_55 : decode cX8_way 55 = .ok (.aload_n 0, 1) := by decide +kernel
theorem dX8_way_56 : decode cX8_way 56 = .ok (.getfield 20, 3) := by decide +kernel
theorem dX8_way_59 : decode cX8_way 59 = .ok (.iload_n 1, 1) := by decide +kernel
theorem dX8_way_60 : decode cX8_way 60 = .ok (.iload_n 2, 1) := by decide +kernel
theorem dX8_way_61 : decode cX8_way 61 = .ok (.iload_n 3, 1) := by decide +kernel
theorem dX8_way_62 : decode cX8_way 62 = .ok (.invokevirtual 196, 3) := by decide +kernel
theorem dX8_way_65 : decode cX8_way 65 = .ok (.ireturn, 1) := by decide +kernel
set_option maxRecDepth 20000 in
theorem ggX8_round_X0_has : GoodIn wsX8_round wsX0_has := goodIn_r _ [7, 8, 31, 32] (by decide +kernel) (by decide +kernel)
set_option maxRecDepth 20000 in
theorem gX8_round_X0_has : GoodIn wsX8_round (wsV RX8 92 RX0 yX0_has wsX0_has) := goodIn_app (goodIn_of _ (by decide +kernel)) ggX8_round_X0_has
set_option maxRecDepth 20000 in
theorem ggX8_round_X6_has : GoodIn wsX8_round wsX6_has := goodIn_r _ [13, 14, 39, 40, 41, 42] (by decide +kernel) (by decide +kernel)
set_option maxRecDepth 20000 in
theorem gX8_round_X6_has : GoodIn wsX8_round (wsV RX8 143 RX6 yX6_has wsX6_has) := goodIn_app (goodIn_of _ (by decide +kernel)) ggX8_round_X6_has
set_option maxRecDepth 20000 in
theorem ggX8_round_X6_distance : GoodIn wsX8_round wsX6_distance := goodIn_r _ [18, 19, 20, 21, 10, 11, 12, 13, 14, 39, 40, 41, 42] (by decide +kernel) (by decide +kernel)
set_option maxRecDepth 20000 in
theorem gX8_round_X6_distance : GoodIn wsX8_round (wsV RX8 144 RX6 yX6_distance wsX6_distance) := goodIn_app (goodIn_of _ (by decide +kernel)) ggX8_round_X6_distance
theorem dX8_round_0 : decode cX8_round 0 = .ok (.aload_n 0, 1) := by decide +kernel
theorem dX8_round_1 : decode cX8_round 1 = .ok (.getfield 27, 3) := by decide +kernel
theorem dX8_round_4 : decode cX8_round 4 = .ok (.iload_n 1, 1) := by decide +kernel
theorem dX8_round_5 : decode cX8_round 5 = .ok (.invokevirtual 92, 3) := by decide +kernel
theorem dX8_round_8 : decode cX8_round 8 = .ok (.ifCond .eq 14, 3) := by decide +kernel
theorem dX8_round_11 : decode cX8_round 11 = .ok (.aload_n 0, 1) := by decide +kernel
theorem dX8_round_12 : decode cX8_round 12 = .ok (.getfield 20, 3) := by decide +kernel
theorem dX8_round_15 : decode cX8_round 15 = .ok (.iload_n 2, 1) := by decide +kernel
theorem dX8_round_16 : decode cX8_round 16 = .ok (.invokevirtual 143, 3) := by decide +kernel
theorem dX8_round_19 : decode cX8_round 19 = .ok (.ifCond .ne 5, 3) := by decide +kernel
theorem dX8_round_22 : decode cX8_round 22 = .ok (.iconst (-1), 1) := by decide +kernel
theorem dX8_round_23 : decode cX8_round 23 = .ok (.ireturn, 1) := by decide +kernel
theorem dX8_round_24 : decode cX8_round 24 = .ok (.aload_n 0, 1) := by decide +kernel
theorem dX8_round_25 : decode cX8_round 25 = .ok (.getfield 27, 3) := by decide +kernel
theorem dX8_round_28 : decode cX8_round 28 = .ok (.getfield 95, 3) := by decide +kernel
theorem dX8_round_31 : decode cX8_round 31 = .ok (.iload_n 1, 1) := by decide +kernel
theorem dX8_round_32 : decode cX8_round 32 = .ok (.aaload, 1) := by decide +kernel
theorem dX8_round_33 : decode cX8_round 33 = .ok (.astore_n 3, 1) := by decide +kernel
theorem dX8_round_34 : decode cX8_round 34 = .ok (.aload_n 0, 1) := by decide +kernel
theorem dX8_round_35 : decode cX8_round 35 = .ok (.getfield 20, 3) := by decide +kernel
theorem dX8_round_38 : decode cX8_round 38 = .ok (.aload_n 3, 1) := by decide +kernel
theorem dX8_round_39 : decode cX8_round 39 = .ok (.getfield 104, 3) := by decide +kernel
theorem dX8_round_42 : decode cX8_round 42 = .ok (.aload_n 3, 1) := by decide +kernel
theorem dX8_round_43 : decode cX8_round 43 = .ok (.getfield 107, 3) := by decide +kernel
theorem dX8_round_46 : decode cX8_round 46 = .ok (.invokevirtual 144, 3) := by decide +kernel
theorem dX8_round_49 : decode cX8_round 49 = .ok (.istore 4, 2) := by decide +kernel
theorem dX8_round_51 : decode cX8_round 51 = .ok (.aload_n 0, 1) := by decide +kernel
theorem dX8_round_52 : decode cX8_round 52 = .ok (.getfield 20, 3) := by decide +kernel
theorem dX8_round_55 : decode cX8_round 55 = .ok (.aload_n 3, 1) := by decide +kernel
theorem dX8_round_56 : decode cX8_round 56 = .ok (.getfield 104, 3) := by decide +kernel
theorem dX8_round_59 : decode cX8_round 59 = .ok (.iload_n 2, 1) := by decide +kernel
theorem dX8_round_60 : decode cX8_round 60 = .ok (.invokevirtual 144, 3) := by decide +kernel
theorem dX8_round_63 : decode cX8_round 63 = .ok (.istore 5, 2) := by decide +kernel
theorem dX8_round_65 : decode cX8_round 65 = .ok (.aload_n 0, 1) := by decide +kernel
theorem dX8_round_66 : decode cX8_round 66 = .ok (.getfield 20, 3) := by decide +kernel
theorem dX8_round_69 : decode cX8_round 69 = .ok (.iload_n 2, 1) := by decide +kernel
theorem dX8_round_70 : decode cX8_round 70 = .ok (.aload_n 3, 1) := by decide +kernel
theorem dX8_round_71 : decode cX8_round 71 = .ok (.getfield 107, 3) := by decide +kernel
theorem dX8_round_74 : decode cX8_round 74 = .ok (.invokevirtual 144, 3) := by decide +kernel
theorem dX8_round_77 : decode cX8_round 77 = .ok (.istore 6, 2) := by decide +kernel
theorem dX8_round_79 : decode cX8_round 79 = .ok (.iload 4, 2) := by decide +kernel
theorem dX8_round_81 : decode cX8_round 81 = .ok (.bipush (-9), 2) := by decide +kernel
theorem dX8_round_83 : decode cX8_round 83 = .ok (.if_icmp .eq 17, 3) := by decide +kernel
theorem dX8_round_86 : decode cX8_round 86 = .ok (.iload 5, 2) := by decide +kernel
theorem dX8_round_88 : decode cX8_round 88 = .ok (.bipush (-9), 2) := by decide +kernel
theorem dX8_round_90 : decode cX8_round 90 = .ok (.if_icmp .eq 10, 3) := by decide +kernel
theorem dX8_round_93 : decode cX8_round 93 = .ok (.iload 6, 2) := by decide +kernel
theorem dX8_round_95 : decode cX8_round 95 = .ok (.bipush (-9), 2) := by decide +kernel
theorem dX8_round_97 : decode cX8_round 97 = .ok (.if_icmp .ne 6, 3) := by decide +kernel
theorem dX8_round_100 : decode cX8_round 100 = .ok (.bipush (-9), 2) := by decide +kernel
theorem dX8_round_102 : decode cX8_round 102 = .ok (.ireturn, 1) := by decide +kernel
theorem dX8_round_103 : decode cX8_round 103 = .ok (.iload 5, 2) := by decide +kernel
theorem dX8_round_105 : decode cX8_round 105 = .ok (.iload 6, 2) := by decide +kernel
theorem dX8_round_107 : decode cX8_round 107 = .ok (.iadd, 1) := by decide +kernel
theorem dX8_round_108 : decode cX8_round 108 = .ok (.iload 4, 2) := by decide +kernel
theorem dX8_round_110 : decode cX8_round 110 = .ok (.isub, 1) := by decide +kernel
theorem dX8_round_111 : decode cX8_round 111 = .ok (.ireturn, 1) := by decide +kernel
set_option maxRecDepth 20000 in
theorem ggX8_kept_X0_has : GoodIn wsX8_kept wsX0_has := goodIn_r _ [7, 8, 52, 53] (by decide +kernel) (by decide +kernel)
set_option maxRecDepth 20000 in
theorem gX8_kept_X0_has : GoodIn wsX8_kept (wsV RX8 92 RX0 yX0_has wsX0_has) := goodIn_app (goodIn_of _ (by decide +kernel)) ggX8_kept_X0_has
set_option maxRecDepth 20000 in
theorem ggX8_kept_X2_hasArrived : GoodIn wsX8_kept wsX2_hasArrived := goodIn_r _ [13, 14, 15, 16, 17, 18, 19, 20, 21, 22, 23, 24, 25, 26, 27, 28, 54, 55, 56, 57, 58, 59, 60, 61, 62, 63] (by decide +kernel) (by decide +kernel)
set_option maxRecDepth 20000 in
theorem gX8_kept_X2_hasArrived : GoodIn wsX8_kept (wsV RX8 124 RX2 yX2_hasArrived wsX2_hasArrived) := goodIn_app (goodIn_of _ (by decide +kernel)) ggX8_kept_X2_hasArrived
set_option maxRecDepth 20000 in
theorem ggX8_kept_X6_distance : GoodIn wsX8_kept wsX6_distance := goodIn_r _ [21, 22, 23, 24, 25, 26, 20, 27, 28, 60, 61, 62, 63] (by decide +kernel) (by decide +kernel)
set_option maxRecDepth 20000 in
theorem gX8_kept_X6_distance : GoodIn wsX8_kept (wsV RX8 144 RX6 yX6_distance wsX6_distance) := goodIn_app (goodIn_of _ (by decide +kernel)) ggX8_kept_X6_distance
set_option maxRecDepth 20000 in
theorem ggX8_kept_X2_pace : GoodIn wsX8_kept wsX2_pace := goodIn_r _ [33, 34, 35, 36, 37, 38, 54, 55, 56, 57, 58, 59] (by decide +kernel) (by decide +kernel)
set_option maxRecDepth 20000 in
theorem gX8_kept_X2_pace : GoodIn wsX8_kept (wsV RX8 113 RX2 yX2_pace wsX2_pace) := goodIn_app (goodIn_of _ (by decide +kernel)) ggX8_kept_X2_pace
set_option maxRecDepth 20000 in
theorem ggX8_kept_X8_daysFor : GoodIn wsX8_kept wsX8_daysFor := goodIn_r _ [41, 42] (by decide +kernel) (by decide +kernel)
set_option maxRecDepth 20000 in
theorem gX8_kept_X8_daysFor : GoodIn wsX8_kept (va_wsS RX8 199 yX8_daysFor wsX8_daysFor) := goodIn_app (goodIn_of _ (by decide +kernel)) ggX8_kept_X8_daysFor
theorem dX8_kept_0 : decode cX8_kept 0 = .ok (.aload_n 0, 1) := by decide +kernel
theorem dX8_kept_1 : decode cX8_kept 1 = .ok (.getfield 27, 3) := by decide +kernel
theorem dX8_kept_4 : decode cX8_kept 4 = .ok (.iload_n 1, 1) := by decide +kernel
theorem dX8_kept_5 : decode cX8_kept 5 = .ok (.invokevirtual 92, 3) := by decide +kernel
theorem dX8_kept_8 : decode cX8_kept 8 = .ok (.ifCond .ne 5, 3) := by decide +kernel
theorem dX8_kept_11 : decode cX8_kept 11 = .ok (.iconst (-1), 1) := by decide +kernel
theorem dX8_kept_12 : decode cX8_kept 12 = .ok (.ireturn, 1) := by decide +kernel
theorem dX8_kept_13 : decode cX8_kept 13 = .ok (.aload_n 0, 1) := by decide +kernel
theorem dX8_kept_14 : decode cX8_kept 14 = .ok (.getfield 27, 3) := by decide +kernel
theorem dX8_kept_17 : decode cX8_kept 17 = .ok (.getfield 95, 3) := by decide +kernel
theorem dX8_kept_20 : decode cX8_kept 20 = .ok (.iload_n 1, 1) := by decide +kernel
theorem dX8_kept_21 : decode cX8_kept 21 = .ok (.aaload, 1) := by decide +kernel
theorem dX8_kept_22 : decode cX8_kept 22 = .ok (.astore_n 2, 1) := by decide +kernel
theorem dX8_kept_23 : decode cX8_kept 23 = .ok (.aload_n 2, 1) := by decide +kernel
theorem dX8_kept_24 : decode cX8_kept 24 = .ok (.aload_n 0, 1) := by decide +kernel
theorem dX8_kept_25 : decode cX8_kept 25 = .ok (.getfield 20, 3) := by decide +kernel
theorem dX8_kept_28 : decode cX8_kept 28 = .ok (.invokevirtual 124, 3) := by decide +kernel
theorem dX8_kept_31 : decode cX8_kept 31 = .ok (.ifCond .eq 5, 3) := by decide +kernel
theorem dX8_kept_34 : decode cX8_kept 34 = .ok (.iconst 0, 1) := by decide +kernel
theorem dX8_kept_35 : decode cX8_kept 35 = .ok (.ireturn, 1) := by decide +kernel
theorem dX8_kept_36 : decode cX8_kept 36 = .ok (.aload_n 0, 1) := by decide +kernel
theorem dX8_kept_37 : decode cX8_kept 37 = .ok (.getfield 20, 3) := by decide +kernel
theorem dX8_kept_40 : decode cX8_kept 40 = .ok (.aload_n 2, 1) := by decide +kernel
theorem dX8_kept_41 : decode cX8_kept 41 = .ok (.getfield 104, 3) := by decide +kernel
theorem dX8_kept_44 : decode cX8_kept 44 = .ok (.aload_n 2, 1) := by decide +kernel
theorem dX8_kept_45 : decode cX8_kept 45 = .ok (.getfield 107, 3) := by decide +kernel
theorem dX8_kept_48 : decode cX8_kept 48 = .ok (.invokevirtual 144, 3) := by decide +kernel
theorem dX8_kept_51 : decode cX8_kept 51 = .ok (.istore_n 3, 1) := by decide +kernel
theorem dX8_kept_52 : decode cX8_kept 52 = .ok (.aload_n 2, 1) := by decide +kernel
theorem dX8_kept_53 : decode cX8_kept 53 = .ok (.getfield 120, 3) := by decide +kernel
theorem dX8_kept_56 : decode cX8_kept 56 = .ok (.ifCond .ne 9, 3) := by decide +kernel
theorem dX8_kept_59 : decode cX8_kept 59 = .ok (.iload_n 3, 1) := by decide +kernel
theorem dX8_kept_60 : decode cX8_kept 60 = .ok (.bipush (-9), 2) := by decide +kernel
theorem dX8_kept_62 : decode cX8_kept 62 = .ok (.if_icmp .ne 6, 3) := by decide +kernel
theorem dX8_kept_65 : decode cX8_kept 65 = .ok (.bipush (-9), 2) := by decide +kernel
theorem dX8_kept_67 : decode cX8_kept 67 = .ok (.ireturn, 1) := by decide +kernel
theorem dX8_kept_68 : decode cX8_kept 68 = .ok (.iload_n 3, 1) := by decide +kernel
theorem dX8_kept_69 : decode cX8_kept 69 = .ok (.aload_n 2, 1) := by decide +kernel
theorem dX8_kept_70 : decode cX8_kept 70 = .ok (.getfield 117, 3) := by decide +kernel
theorem dX8_kept_73 : decode cX8_kept 73 = .ok (.isub, 1) := by decide +kernel
theorem dX8_kept_74 : decode cX8_kept 74 = .ok (.aload_n 2, 1) := by decide +kernel
theorem dX8_kept_75 : decode cX8_kept 75 = .ok (.invokevirtual 113, 3) := by decide +kernel
theorem dX8_kept_78 : decode cX8_kept 78 = .ok (.invokestatic 199, 3) := by decide +kernel
theorem dX8_kept_81 : decode cX8_kept 81 = .ok (.ireturn, 1) := by decide +kernel
set_option maxRecDepth 20000 in
theorem ggX8_middle_X8_hasTown : GoodIn wsX8_middle wsX8_hasTown := goodIn_r _ [6, 1, 32, 33, 34, 35, 36, 37, 38, 39, 40, 41, 42, 43, 44] (by decide +kernel) (by decide +kernel)
set_option maxRecDepth 20000 in
theorem gX8_middle_X8_hasTown : GoodIn wsX8_middle (wsV RX8 147 RX8 yX8_hasTown wsX8_hasTown) := goodIn_app (goodIn_of _ (by decide +kernel)) ggX8_middle_X8_hasTown
set_option maxRecDepth 20000 in
theorem ggX8_middle_X6_middleCorner : GoodIn wsX8_middle wsX6_middleCorner := goodIn_r _ [11, 12, 13, 14, 15, 16, 10, 17, 18, 19, 20, 21, 22, 23, 24, 25, 26, 27, 28, 29, 30, 41, 42, 43, 44] (by decide +kernel) (by decide +kernel)
set_option maxRecDepth 20000 in
theorem gX8_middle_X6_middleCorner : GoodIn wsX8_middle (wsV RX8 202 RX6 yX6_middleCorner wsX6_middleCorner) := goodIn_app (goodIn_of _ (by decide +kernel)) ggX8_middle_X6_middleCorner
set_option maxRecDepth 20000 in
theorem ggX8_middle_X6_farthestFrom : GoodIn wsX8_middle wsX6_farthestFrom := goodIn_r _ [17, 13, 18, 19, 20, 21, 22, 23, 24, 10, 25, 26, 12, 27, 28, 29, 30, 41, 42, 43, 44] (by decide +kernel) (by decide +kernel)
set_option maxRecDepth 20000 in
theorem gX8_middle_X6_farthestFrom : GoodIn wsX8_middle (wsV RX8 205 RX6 yX6_farthestFrom wsX6_farthestFrom) := goodIn_app (goodIn_of _ (by decide +kernel)) ggX8_middle_X6_farthestFrom
theorem dX8_middle_0 : decode cX8_middle 0 = .ok (.aload_n 0, 1) := by decide +kernel
theorem dX8_middle_1 : decode cX8_middle 1 = .ok (.invokevirtual 147, 3) := by decide +kernel
theorem dX8_middle_4 : decode cX8_middle 4 = .ok (.ifCond .ne 6, 3) := by decide +kernel
theorem dX8_middle_7 : decode cX8_middle 7 = .ok (.bipush (-3), 2) := by decide +kernel
theorem dX8_middle_9 : decode cX8_middle 9 = .ok (.ireturn, 1) := by decide +kernel
theorem dX8_middle_10 : decode cX8_middle 10 = .ok (.iload_n 1, 1) := by decide +kernel
theorem dX8_middle_11 : decode cX8_middle 11 = .ok (.ifCond .lt 8, 3) := by decide +kernel
theorem dX8_middle_14 : decode cX8_middle 14 = .ok (.iload_n 1, 1) := by decide +kernel
theorem dX8_middle_15 : decode cX8_middle 15 = .ok (.iconst 1, 1) := by decide +kernel
theorem dX8_middle_16 : decode cX8_middle 16 = .ok (.if_icmp .le 6, 3) := by decide +kernel
theorem dX8_middle_19 : decode cX8_middle 19 = .ok (.bipush (-2), 2) := by decide +kernel
theorem dX8_middle_21 : decode cX8_middle 21 = .ok (.ireturn, 1) := by decide +kernel
theorem dX8_middle_22 : decode cX8_middle 22 = .ok (.aload_n 0, 1) := by decide +kernel
theorem dX8_middle_23 : decode cX8_middle 23 = .ok (.getfield 20, 3) := by decide +kernel
theorem dX8_middle_26 : decode cX8_middle 26 = .ok (.invokevirtual 202, 3) := by decide +kernel
theorem dX8_middle_29 : decode cX8_middle 29 = .ok (.istore_n 2, 1) := by decide +kernel
theorem dX8_middle_30 : decode cX8_middle 30 = .ok (.iload_n 2, 1) := by decide +kernel
theorem dX8_middle_31 : decode cX8_middle 31 = .ok (.bipush (-9), 2) := by decide +kernel
theorem dX8_middle_33 : decode cX8_middle 33 = .ok (.if_icmp .eq 7, 3) := by decide +kernel
theorem dX8_middle_36 : decode cX8_middle 36 = .ok (.iload_n 1, 1) := by decide +kernel
theorem dX8_middle_37 : decode cX8_middle 37 = .ok (.ifCond .ne 7, 3) := by decide +kernel
theorem dX8_middle_40 : decode cX8_middle 40 = .ok (.iload_n 2, 1) := by decide +kernel
theorem dX8_middle_41 : decode cX8_middle 41 = .ok (.goto 11, 3) := by decide +kernel
theorem dX8_middle_44 : decode cX8_middle 44 = .ok (.aload_n 0, 1) := by decide +kernel
theorem dX8_middle_45 : decode cX8_middle 45 = .ok (.getfield 20, 3) := by decide +kernel
theorem dX8_middle_48 : decode cX8_middle 48 = .ok (.iload_n 2, 1) := by decide +kernel
theorem dX8_middle_49 : decode cX8_middle 49 = .ok (.invokevirtual 205, 3) := by decide +kernel
theorem dX8_middle_52 : decode cX8_middle 52 = .ok (.ireturn, 1) := by decide +kernel
set_option maxRecDepth 20000 in
theorem ggX8_tree_X8_hasTown : GoodIn wsX8_tree wsX8_hasTown := goodIn_r _ [6, 1, 42, 43, 44, 45, 46, 47, 48, 49, 50, 51, 52, 53, 54] (by decide +kernel) (by decide +kernel)
set_option maxRecDepth 20000 in
theorem gX8_tree_X8_hasTown : GoodIn wsX8_tree (wsV RX8 147 RX8 yX8_hasTown wsX8_hasTown) := goodIn_app (goodIn_of _ (by decide +kernel)) ggX8_tree_X8_hasTown
set_option maxRecDepth 20000 in
theorem ggX8_tree_X6_leastTree : GoodIn wsX8_tree wsX6_leastTree := goodIn_r _ [11, 12, 13, 14, 15, 16, 10, 17, 18, 19, 20, 21, 22, 23, 24, 25, 26, 27, 28, 29, 30, 31, 32, 33, 34, 35, 36, 37, 51, 52, 53, 54] (by decide +kernel) (by decide +kernel)
set_option maxRecDepth 20000 in
theorem gX8_tree_X6_leastTree : GoodIn wsX8_tree (wsV RX8 208 RX6 yX6_leastTree wsX6_leastTree) := goodIn_app (goodIn_of _ (by decide +kernel)) ggX8_tree_X6_leastTree
set_option maxRecDepth 20000 in
theorem ggX8_tree_X6_lengthOf : GoodIn wsX8_tree wsX6_lengthOf := goodIn_r _ [41, 12, 18, 19, 20, 10, 21, 22, 23, 24, 25, 26, 51, 52, 53, 54] (by decide +kernel) (by decide +kernel)
set_option maxRecDepth 20000 in
theorem gX8_tree_X6_lengthOf : GoodIn wsX8_tree (wsV RX8 211 RX6 yX6_lengthOf wsX6_lengthOf) := goodIn_app (goodIn_of _ (by decide +kernel)) ggX8_tree_X6_lengthOf
theorem dX8_tree_0 : decode cX8_tree 0 = .ok (.aload_n 0, 1) := by decide +kernel
theorem dX8_tree_1 : decode cX8_tree 1 = .ok (.invokevirtual 147, 3) := by decide +kernel
theorem dX8_tree_4 : decode cX8_tree 4 = .ok (.ifCond .ne 6, 3) := by decide +kernel
theorem dX8_tree_7 : decode cX8_tree 7 = .ok (.bipush (-3), 2) := by decide +kernel
theorem dX8_tree_9 : decode cX8_tree 9 = .ok (.ireturn, 1) := by decide +kernel
theorem dX8_tree_10 : decode cX8_tree 10 = .ok (.iload_n 1, 1) := by decide +kernel
theorem dX8_tree_11 : decode cX8_tree 11 = .ok (.ifCond .lt 8, 3) := by decide +kernel
theorem dX8_tree_14 : decode cX8_tree 14 = .ok (.iload_n 1, 1) := by decide +kernel
theorem dX8_tree_15 : decode cX8_tree 15 = .ok (.iconst 1, 1) := by decide +kernel
theorem dX8_tree_16 : decode cX8_tree 16 = .ok (.if_icmp .le 6, 3) := by decide +kernel
theorem dX8_tree_19 : decode cX8_tree 19 = .ok (.bipush (-2), 2) := by decide +kernel
theorem dX8_tree_21 : decode cX8_tree 21 = .ok (.ireturn, 1) := by decide +kernel
theorem dX8_tree_22 : decode cX8_tree 22 = .ok (.aload_n 0, 1) := by decide +kernel
theorem dX8_tree_23 : decode cX8_tree 23 = .ok (.getfield 20, 3) := by decide +kernel
theorem dX8_tree_26 : decode cX8_tree 26 = .ok (.invokevirtual 208, 3) := by decide +kernel
theorem dX8_tree_29 : decode cX8_tree 29 = .ok (.istore_n 2, 1) := by decide +kernel
theorem dX8_tree_30 : decode cX8_tree 30 = .ok (.iload_n 2, 1) := by decide +kernel
theorem dX8_tree_31 : decode cX8_tree 31 = .ok (.bipush (-9), 2) := by decide +kernel
theorem dX8_tree_33 : decode cX8_tree 33 = .ok (.if_icmp .eq 8, 3) := by decide +kernel
theorem dX8_tree_36 : decode cX8_tree 36 = .ok (.iload_n 1, 1) := by decide +kernel
theorem dX8_tree_37 : decode cX8_tree 37 = .ok (.iconst 1, 1) := by decide +kernel
theorem dX8_tree_38 : decode cX8_tree 38 = .ok (.if_icmp .ne 7, 3) := by decide +kernel
theorem dX8_tree_41 : decode cX8_tree 41 = .ok (.iload_n 2, 1) := by decide +kernel
theorem dX8_tree_42 : decode cX8_tree 42 = .ok (.goto 11, 3) := by decide +kernel
theorem dX8_tree_45 : decode cX8_tree 45 = .ok (.aload_n 0, 1) := by decide +kernel
theorem dX8_tree_46 : decode cX8_tree 46 = .ok (.getfield 20, 3) := by decide +kernel
theorem dX8_tree_49 : decode cX8_tree 49 = .ok (.iload_n 2, 1) := by decide +kernel
theorem dX8_tree_50 : decode cX8_tree 50 = .ok (.invokevirtual 211, 3) := by decide +kernel
theorem dX8_tree_53 : decode cX8_tree 53 = .ok (.ireturn, 1) := by decide +kernel
set_option maxRecDepth 20000 in
theorem ggX8_errands_X8_hasTown : GoodIn wsX8_errands wsX8_hasTown := goodIn_r _ [8, 3, 82, 83, 84, 85, 86, 87, 88, 89, 90, 91, 92, 93, 94] (by decide +kernel) (by decide +kernel)
set_option maxRecDepth 20000 in
theorem gX8_errands_X8_hasTown : GoodIn wsX8_errands (wsV RX8 147 RX8 yX8_hasTown wsX8_hasTown) := goodIn_app (goodIn_of _ (by decide +kernel)) ggX8_errands_X8_hasTown
set_option maxRecDepth 20000 in
theorem ggX8_errands_X1_weigh : GoodIn wsX8_errands wsX1_weigh := goodIn_r _ [13, 14, 15, 16, 17, 18, 19, 20, 21, 22, 12, 23, 24, 25, 26, 27, 28, 29, 30, 31, 32, 33, 34, 35, 36, 37, 38, 39, 40, 41, 42, 43, 44, 45, 46, 47, 48, 49, 50, 51, 52, 53, 54, 55, 56, 57, 58, 59, 60, 61, 62, 63, 64, 65, 7, 66, 67, 68, 69, 95, 96, 97, 98, 99, 100, 101, 102, 103, 91, 92, 93, 94] (by decide +kernel) (by decide +kernel)
set_option maxRecDepth 20000 in
theorem gX8_errands_X1_weigh : GoodIn wsX8_errands (wsV RX8 214 RX1 yX1_weigh wsX1_weigh) := goodIn_app (goodIn_of _ (by decide +kernel)) ggX8_errands_X1_weigh
set_option maxRecDepth 20000 in
theorem ggX8_errands_X1_lastArrival : GoodIn wsX8_errands wsX1_lastArrival := goodIn_r _ [73, 14, 15, 97] (by decide +kernel) (by decide +kernel)
set_option maxRecDepth 20000 in
theorem gX8_errands_X1_lastArrival : GoodIn wsX8_errands (wsV RX8 218 RX1 yX1_lastArrival wsX1_lastArrival) := goodIn_app (goodIn_of _ (by decide +kernel)) ggX8_errands_X1_lastArrival
set_option maxRecDepth 20000 in
theorem ggX8_errands_X1_goalOf : GoodIn wsX8_errands wsX1_goalOf := goodIn_r _ [77, 14, 15, 34, 35, 36, 37, 38, 39, 78, 79, 80, 12, 81, 20, 21, 22, 23, 24, 25, 18, 26, 27, 28, 29, 30, 31, 32, 33, 40, 41, 42, 43, 44, 45, 46, 47, 48, 49, 50, 51, 52, 53, 54, 55, 56, 57, 58, 59, 60, 61, 62, 63, 64, 65, 7, 66, 67, 68, 69, 97, 95, 96, 98, 99, 100, 101, 102, 103, 91, 92, 93, 94] (by decide +kernel) (by decide +kernel)
set_option maxRecDepth 20000 in
theorem gX8_errands_X1_goalOf : GoodIn wsX8_errands (wsV RX8 221 RX1 yX1_goalOf wsX1_goalOf) := goodIn_app (goodIn_of _ (by decide +kernel)) ggX8_errands_X1_goalOf
theorem dX8_errands_0 : decode cX8_errands 0 = .ok (.aload_n 0, 1) := by decide +kernel
theorem dX8_errands_1 : decode cX8_errands 1 = .ok (.invokevirtual 147, 3) := by decide +kernel
theorem dX8_errands_4 : decode cX8_errands 4 = .ok (.ifCond .ne 6, 3) := by decide +kernel
theorem dX8_errands_7 : decode cX8_errands 7 = .ok (.bipush (-3), 2) := by decide +kernel
theorem dX8_errands_9 : decode cX8_errands 9 = .ok (.ireturn, 1) := by decide +kernel
theorem dX8_errands_10 : decode cX8_errands 10 = .ok (.iload_n 1, 1) := by decide +kernel
theorem dX8_errands_11 : decode cX8_errands 11 = .ok (.iconst (-1), 1) := by decide +kernel
theorem dX8_errands_12 : decode cX8_errands 12 = .ok (.if_icmp .lt 9, 3) := by decide +kernel
theorem dX8_errands_15 : decode cX8_errands 15 = .ok (.iload_n 1, 1) := by decide +kernel
theorem dX8_errands_16 : decode cX8_errands 16 = .ok (.bipush 6, 2) := by decide +kernel
theorem dX8_errands_18 : decode cX8_errands 18 = .ok (.if_icmp .lt 6, 3) := by decide +kernel
theorem dX8_errands_21 : decode cX8_errands 21 = .ok (.bipush (-2), 2) := by decide +kernel
theorem dX8_errands_23 : decode cX8_errands 23 = .ok (.ireturn, 1) := by decide +kernel
theorem dX8_errands_24 : decode cX8_errands 24 = .ok (.aload_n 0, 1) := by decide +kernel
theorem dX8_errands_25 : decode cX8_errands 25 = .ok (.getfield 41, 3) := by decide +kernel
theorem dX8_errands_28 : decode cX8_errands 28 = .ok (.aload_n 0, 1) := by decide +kernel
theorem dX8_errands_29 : decode cX8_errands 29 = .ok (.getfield 27, 3) := by decide +kernel
theorem dX8_errands_32 : decode cX8_errands 32 = .ok (.aload_n 0, 1) := by decide +kernel
theorem dX8_errands_33 : decode cX8_errands 33 = .ok (.getfield 20, 3) := by decide +kernel
theorem dX8_errands_36 : decode cX8_errands 36 = .ok (.invokevirtual 214, 3) := by decide +kernel
theorem dX8_errands_39 : decode cX8_errands 39 = .ok (.iload_n 1, 1) := by decide +kernel
theorem dX8_errands_40 : decode cX8_errands 40 = .ok (.iconst (-1), 1) := by decide +kernel
theorem dX8_errands_41 : decode cX8_errands 41 = .ok (.if_icmp .ne 13, 3) := by decide +kernel
theorem dX8_errands_44 : decode cX8_errands 44 = .ok (.aload_n 0, 1) := by decide +kernel
theorem dX8_errands_45 : decode cX8_errands 45 = .ok (.getfield 41, 3) := by decide +kernel
theorem dX8_errands_48 : decode cX8_errands 48 = .ok (.invokevirtual 218, 3) := by decide +kernel
theorem dX8_errands_51 : decode cX8_errands 51 = .ok (.goto 19, 3) := by decide +kernel
theorem dX8_errands_54 : decode cX8_errands 54 = .ok (.aload_n 0, 1) := by decide +kernel
theorem dX8_errands_55 : decode cX8_errands 55 = .ok (.getfield 41, 3) := by decide +kernel
theorem dX8_errands_58 : decode cX8_errands 58 = .ok (.iload_n 1, 1) := by decide +kernel
theorem dX8_errands_59 : decode cX8_errands 59 = .ok (.aload_n 0, 1) := by decide +kernel
theorem dX8_errands_60 : decode cX8_errands 60 = .ok (.getfield 27, 3) := by decide +kernel
theorem dX8_errands_63 : decode cX8_errands 63 = .ok (.aload_n 0, 1) := by decide +kernel
theorem dX8_errands_64 : decode cX8_errands 64 = .ok (.getfield 20, 3) := by decide +kernel
theorem dX8_errands_67 : decode cX8_errands 67 = .ok (.invokevirtual 221, 3) := by decide +kernel
theorem dX8_errands_70 : decode cX8_errands 70 = .ok (.ireturn, 1) := by decide +kernel
set_option maxRecDepth 20000 in
theorem ggX8_reading_X0_has : GoodIn wsX8_reading wsX0_has := goodIn_r _ [7, 8, 31, 32] (by decide +kernel) (by decide +kernel)
set_option maxRecDepth 20000 in
theorem gX8_reading_X0_has : GoodIn wsX8_reading (wsV RX8 92 RX0 yX0_has wsX0_has) := goodIn_app (goodIn_of _ (by decide +kernel)) ggX8_reading_X0_has
set_option maxRecDepth 20000 in
theorem ggX8_reading_X3_add : GoodIn wsX8_reading wsX3_add := goodIn_r _ [13, 14, 15, 16, 17, 27, 28, 29, 30] (by decide +kernel) (by decide +kernel)
set_option maxRecDepth 20000 in
theorem gX8_reading_X3_add : GoodIn wsX8_reading (wsV RX8 225 RX3 yX3_add wsX3_add) := goodIn_app (goodIn_of _ (by decide +kernel)) ggX8_reading_X3_add
theorem dX8_reading_0 : decode cX8_reading 0 = .ok (.aload_n 0, 1) := by decide +kernel
theorem dX8_reading_1 : decode cX8_reading 1 = .ok (.getfield 27, 3) := by decide +kernel
theorem dX8_reading_4 : decode cX8_reading 4 = .ok (.iload_n 1, 1) := by decide +kernel
theorem dX8_reading_5 : decode cX8_reading 5 = .ok (.invokevirtual 92, 3) := by decide +kernel
theorem dX8_reading_8 : decode cX8_reading 8 = .ok (.ifCond .ne 5, 3) := by decide +kernel
theorem dX8_reading_11 : decode cX8_reading 11 = .ok (.iconst (-1), 1) := by decide +kernel
theorem dX8_reading_12 : decode cX8_reading 12 = .ok (.ireturn, 1) := by decide +kernel
theorem dX8_reading_13 : decode cX8_reading 13 = .ok (.iload_n 2, 1) := by decide +kernel
theorem dX8_reading_14 : decode cX8_reading 14 = .ok (.ifCond .lt 20, 3) := by decide +kernel
theorem dX8_reading_17 : decode cX8_reading 17 = .ok (.iload_n 2, 1) := by decide +kernel
theorem dX8_reading_18 : decode cX8_reading 18 = .ok (.bipush 99, 2) := by decide +kernel
theorem dX8_reading_20 : decode cX8_reading 20 = .ok (.if_icmp .gt 14, 3) := by decide +kernel
theorem dX8_reading_23 : decode cX8_reading 23 = .ok (.iload_n 3, 1) := by decide +kernel
theorem dX8_reading_24 : decode cX8_reading 24 = .ok (.ifCond .lt 10, 3) := by decide +kernel
theorem dX8_reading_27 : decode cX8_reading 27 = .ok (.iload_n 3, 1) := by decide +kernel
theorem dX8_reading_28 : decode cX8_reading 28 = .ok (.sipush 999, 3) := by decide +kernel
theorem dX8_reading_31 : decode cX8_reading 31 = .ok (.if_icmp .le 6, 3) := by decide +kernel
theorem dX8_reading_34 : decode cX8_reading 34 = .ok (.bipush (-2), 2) := by decide +kernel
theorem dX8_reading_36 : decode cX8_reading 36 = .ok (.ireturn, 1) := by decide +kernel
theorem dX8_reading_37 : decode cX8_reading 37 = .ok (.aload_n 0, 1) := by decide +kernel
theorem dX8_reading_38 : decode cX8_reading 38 = .ok (.getfield 48, 3) := by decide +kernel
theorem dX8_reading_41 : decode cX8_reading 41 = .ok (.getfield 88, 3) := by decide +kernel
theorem dX8_reading_44 : decode cX8_reading 44 = .ok (.bipush 8, 2) := by decide +kernel
theorem dX8_reading_46 : decode cX8_reading 46 = .ok (.if_icmp .lt 6, 3) := by decide +kernel
theorem dX8_reading_49 : decode cX8_reading 49 = .ok (.bipush (-4), 2) := by decide +kernel
theorem dX8_reading_51 : decode cX8_reading 51 = .ok (.ireturn, 1) := by decide +kernel
theorem dX8_reading_52 : decode cX8_reading 52 = .ok (.aload_n 0, 1) := by decide +kernel
theorem dX8_reading_53 : decode cX8_reading 53 = .ok (.getfield 48, 3) := by decide +kernel
theorem dX8_reading_56 : decode cX8_reading 56 = .ok (.iload_n 1, 1) := by decide +kernel
theorem dX8_reading_57 : decode cX8_reading 57 = .ok (.iload_n 2, 1) := by decide +kernel
theorem dX8_reading_58 : decode cX8_reading 58 = .ok (.iload_n 3, 1) := by decide +kernel
theorem dX8_reading_59 : decode cX8_reading 59 = .ok (.invokevirtual 225, 3) := by decide +kernel
theorem dX8_reading_62 : decode cX8_reading 62 = .ok (.aload_n 0, 1) := by decide +kernel
theorem dX8_reading_63 : decode cX8_reading 63 = .ok (.getfield 48, 3) := by decide +kernel
theorem dX8_reading_66 : decode cX8_reading 66 = .ok (.getfield 88, 3) := by decide +kernel
theorem dX8_reading_69 : decode cX8_reading 69 = .ok (.iconst 1, 1) := by decide +kernel
theorem dX8_reading_70 : decode cX8_reading 70 = .ok (.isub, 1) := by decide +kernel
theorem dX8_reading_71 : decode cX8_reading 71 = .ok (.ireturn, 1) := by decide +kernel
theorem dX8_back_0 : decode cX8_back 0 = .ok (.iload_n 1, 1) := by decide +kernel
theorem dX8_back_1 : decode cX8_back 1 = .ok (.ifCond .lt 14, 3) := by decide +kernel
theorem dX8_back_4 : decode cX8_back 4 = .ok (.iload_n 1, 1) := by decide +kernel
theorem dX8_back_5 : decode cX8_back 5 = .ok (.aload_n 0, 1) := by decide +kernel
theorem dX8_back_6 : decode cX8_back 6 = .ok (.getfield 48, 3) := by decide +kernel
theorem dX8_back_9 : decode cX8_back 9 = .ok (.getfield 88, 3) := by decide +kernel
theorem dX8_back_12 : decode cX8_back 12 = .ok (.if_icmp .le 6, 3) := by decide +kernel
theorem dX8_back_15 : decode cX8_back 15 = .ok (.bipush (-2), 2) := by decide +kernel
theorem dX8_back_17 : decode cX8_back 17 = .ok (.ireturn, 1) := by decide +kernel
theorem dX8_back_18 : decode cX8_back 18 = .ok (.aload_n 0, 1) := by decide +kernel
theorem dX8_back_19 : decode cX8_back 19 = .ok (.getfield 48, 3) := by decide +kernel
theorem dX8_back_22 : decode cX8_back 22 = .ok (.dup, 1) := by decide +kernel
theorem dX8_back_23 : decode cX8_back 23 = .ok (.getfield 88, 3) := by decide +kernel
theorem dX8_back_26 : decode cX8_back 26 = .ok (.iload_n 1, 1) := by decide +kernel
theorem dX8_back_27 : decode cX8_back 27 = .ok (.isub, 1) := by decide +kernel
theorem dX8_back_28 : decode cX8_back 28 = .ok (.putfield 88, 3) := by decide +kernel
theorem dX8_back_31 : decode cX8_back 31 = .ok (.aload_n 0, 1) := by decide +kernel
theorem dX8_back_32 : decode cX8_back 32 = .ok (.getfield 48, 3) := by decide +kernel
theorem dX8_back_35 : decode cX8_back 35 = .ok (.getfield 88, 3) := by decide +kernel
theorem dX8_back_38 : decode cX8_back 38 = .ok (.ireturn, 1) := by decide +kernel
set_option maxRecDepth 20000 in
theorem ggX8_calves_X0_has : GoodIn wsX8_calves wsX0_has := goodIn_r _ [7, 8, 39, 40] (by decide +kernel) (by decide +kernel)
set_option maxRecDepth 20000 in
theorem gX8_calves_X0_has : GoodIn wsX8_calves (wsV RX8 92 RX0 yX0_has wsX0_has) := goodIn_app (goodIn_of _ (by decide +kernel)) ggX8_calves_X0_has
set_option maxRecDepth 20000 in
theorem ggX8_calves_X8_paceOf : GoodIn wsX8_calves wsX8_paceOf := goodIn_r _ [12] (by decide +kernel) (by decide +kernel)
set_option maxRecDepth 20000 in
theorem gX8_calves_X8_paceOf : GoodIn wsX8_calves (va_wsS RX8 227 yX8_paceOf wsX8_paceOf) := goodIn_app (goodIn_of _ (by decide +kernel)) ggX8_calves_X8_paceOf
set_option maxRecDepth 20000 in
theorem ggX8_calves_X3_allAreSo : GoodIn wsX8_calves wsX3_allAreSo := goodIn_r _ [17, 18, 19, 20, 21, 22, 4, 5, 6, 7, 8, 23, 24, 25, 26, 27, 28, 29, 10, 11, 12, 47, 48, 49, 50, 39, 40, 41, 42, 43, 44, 45, 46] (by decide +kernel) (by decide +kernel)
set_option maxRecDepth 20000 in
theorem gX8_calves_X3_allAreSo : GoodIn wsX8_calves (wsV RX8 230 RX3 yX3_allAreSo wsX3_allAreSo) := goodIn_app (goodIn_of _ (by decide +kernel)) ggX8_calves_X3_allAreSo
theorem dX8_calves_0 : decode cX8_calves 0 = .ok (.aload_n 0, 1) := by decide +kernel
theorem dX8_calves_1 : decode cX8_calves 1 = .ok (.getfield 27, 3) := by decide +kernel
theorem dX8_calves_4 : decode cX8_calves 4 = .ok (.iload_n 1, 1) := by decide +kernel
theorem dX8_calves_5 : decode cX8_calves 5 = .ok (.invokevirtual 92, 3) := by decide +kernel
theorem dX8_calves_8 : decode cX8_calves 8 = .ok (.ifCond .ne 5, 3) := by decide +kernel
theorem dX8_calves_11 : decode cX8_calves 11 = .ok (.iconst (-1), 1) := by decide +kernel
theorem dX8_calves_12 : decode cX8_calves 12 = .ok (.ireturn, 1) := by decide +kernel
theorem dX8_calves_13 : decode cX8_calves 13 = .ok (.aload_n 0, 1) := by decide +kernel
theorem dX8_calves_14 : decode cX8_calves 14 = .ok (.getfield 27, 3) := by decide +kernel
theorem dX8_calves_17 : decode cX8_calves 17 = .ok (.getfield 95, 3) := by decide +kernel
theorem dX8_calves_20 : decode cX8_calves 20 = .ok (.iload_n 1, 1) := by decide +kernel
theorem dX8_calves_21 : decode cX8_calves 21 = .ok (.aaload, 1) := by decide +kernel
theorem dX8_calves_22 : decode cX8_calves 22 = .ok (.getfield 99, 3) := by decide +kernel
theorem dX8_calves_25 : decode cX8_calves 25 = .ok (.istore_n 2, 1) := by decide +kernel
theorem dX8_calves_26 : decode cX8_calves 26 = .ok (.iconst 0, 1) := by decide +kernel
theorem dX8_calves_27 : decode cX8_calves 27 = .ok (.istore_n 3, 1) := by decide +kernel
theorem dX8_calves_28 : decode cX8_calves 28 = .ok (.iconst 1, 1) := by decide +kernel
theorem dX8_calves_29 : decode cX8_calves 29 = .ok (.istore 4, 2) := by decide +kernel
theorem dX8_calves_31 : decode cX8_calves 31 = .ok (.iload 4, 2) := by decide +kernel
theorem dX8_calves_33 : decode cX8_calves 33 = .ok (.bipush 9, 2) := by decide +kernel
theorem dX8_calves_35 : decode cX8_calves 35 = .ok (.if_icmp .gt 37, 3) := by decide +kernel
theorem dX8_calves_38 : decode cX8_calves 38 = .ok (.aload_n 0, 1) := by decide +kernel
theorem dX8_calves_39 : decode cX8_calves 39 = .ok (.getfield 48, 3) := by decide +kernel
theorem dX8_calves_42 : decode cX8_calves 42 = .ok (.aload_n 0, 1) := by decide +kernel
theorem dX8_calves_43 : decode cX8_calves 43 = .ok (.getfield 27, 3) := by decide +kernel
theorem dX8_calves_46 : decode cX8_calves 46 = .ok (.iload_n 1, 1) := by decide +kernel
theorem dX8_calves_47 : decode cX8_calves 47 = .ok (.iload_n 2, 1) := by decide +kernel
theorem dX8_calves_48 : decode cX8_calves 48 = .ok (.iload 4, 2) := by decide +kernel
theorem dX8_calves_50 : decode cX8_calves 50 = .ok (.invokestatic 227, 3) := by decide +kernel
theorem dX8_calves_53 : decode cX8_calves 53 = .ok (.invokevirtual 230, 3) := by decide +kernel
theorem dX8_calves_56 : decode cX8_calves 56 = .ok (.ifCond .eq 10, 3) := by decide +kernel
theorem dX8_calves_59 : decode cX8_calves 59 = .ok (.iload_n 3, 1) := by decide +kernel
theorem dX8_calves_60 : decode cX8_calves 60 = .ok (.iconst 1, 1) := by decide +kernel
theorem dX8_calves_61 : decode cX8_calves 61 = .ok (.iload 4, 2) := by decide +kernel
theorem dX8_calves_63 : decode cX8_calves 63 = .ok (.ishl, 1) := by decide +kernel
theorem dX8_calves_64 : decode cX8_calves 64 = .ok (.ior, 1) := by decide +kernel
theorem dX8_calves_65 : decode cX8_calves 65 = .ok (.istore_n 3, 1) := by decide +kernel
theorem dX8_calves_66 : decode cX8_calves 66 = .ok (.iinc 4 1, 3) := by decide +kernel
theorem dX8_calves_69 : decode cX8_calves 69 = .ok (.goto (-38), 3) := by decide +kernel
theorem dX8_calves_72 : decode cX8_calves 72 = .ok (.iload_n 3, 1) := by decide +kernel
theorem dX8_calves_73 : decode cX8_calves 73 = .ok (.ireturn, 1) := by decide +kernel
set_option maxRecDepth 20000 in
theorem ggX8_kinds_X0_has : GoodIn wsX8_kinds wsX0_has := goodIn_r _ [7, 8, 39, 40] (by decide +kernel) (by decide +kernel)
set_option maxRecDepth 20000 in
theorem gX8_kinds_X0_has : GoodIn wsX8_kinds (wsV RX8 92 RX0 yX0_has wsX0_has) := goodIn_app (goodIn_of _ (by decide +kernel)) ggX8_kinds_X0_has
set_option maxRecDepth 20000 in
theorem ggX8_kinds_X8_paceOf : GoodIn wsX8_kinds wsX8_paceOf := goodIn_r _ [12] (by decide +kernel) (by decide +kernel)
set_option maxRecDepth 20000 in
theorem gX8_kinds_X8_paceOf : GoodIn wsX8_kinds (va_wsS RX8 227 yX8_paceOf wsX8_paceOf) := goodIn_app (goodIn_of _ (by decide +kernel)) ggX8_kinds_X8_paceOf
set_option maxRecDepth 20000 in
theorem ggX8_kinds_X3_allAreSo : GoodIn wsX8_kinds wsX3_allAreSo := goodIn_r _ [17, 18, 19, 20, 21, 22, 4, 5, 6, 7, 8, 23, 24, 25, 26, 27, 28, 29, 10, 11, 12, 47, 48, 49, 50, 39, 40, 41, 42, 43, 44, 45, 46] (by decide +kernel) (by decide +kernel)
set_option maxRecDepth 20000 in
theorem gX8_kinds_X3_allAreSo : GoodIn wsX8_kinds (wsV RX8 230 RX3 yX3_allAreSo wsX3_allAreSo) := goodIn_app (goodIn_of _ (by decide +kernel)) ggX8_kinds_X3_allAreSo
theorem dX8_kinds_0 : decode cX8_kinds 0 = .ok (.aload_n 0, 1) := by decide +kernel
theorem dX8_kinds_1 : decode cX8_kinds 1 = .ok (.getfield 27, 3) := by decide +kernel
theorem dX8_kinds_4 : decode cX8_kinds 4 = .ok (.iload_n 1, 1) := by decide +kernel
theorem dX8_kinds_5 : decode cX8_kinds 5 = .ok (.invokevirtual 92, 3) := by decide +kernel
theorem dX8_kinds_8 : decode cX8_kinds 8 = .ok (.ifCond .ne 5, 3) := by decide +kernel
theorem dX8_kinds_11 : decode cX8_kinds 11 = .ok (.iconst (-1), 1) := by decide +kernel
theorem dX8_kinds_12 : decode cX8_kinds 12 = .ok (.ireturn, 1) := by decide +kernel
theorem dX8_kinds_13 : decode cX8_kinds 13 = .ok (.aload_n 0, 1) := by decide +kernel
theorem dX8_kinds_14 : decode cX8_kinds 14 = .ok (.getfield 27, 3) := by decide +kernel
theorem dX8_kinds_17 : decode cX8_kinds 17 = .ok (.getfield 95, 3) := by decide +kernel
theorem dX8_kinds_20 : decode cX8_kinds 20 = .ok (.iload_n 1, 1) := by decide +kernel
theorem dX8_kinds_21 : decode cX8_kinds 21 = .ok (.aaload, 1) := by decide +kernel
theorem dX8_kinds_22 : decode cX8_kinds 22 = .ok (.getfield 110, 3) := by decide +kernel
theorem dX8_kinds_25 : decode cX8_kinds 25 = .ok (.istore_n 2, 1) := by decide +kernel
theorem dX8_kinds_26 : decode cX8_kinds 26 = .ok (.iconst 0, 1) := by decide +kernel
theorem dX8_kinds_27 : decode cX8_kinds 27 = .ok (.istore_n 3, 1) := by decide +kernel
theorem dX8_kinds_28 : decode cX8_kinds 28 = .ok (.iconst 0, 1) := by decide +kernel
theorem dX8_kinds_29 : decode cX8_kinds 29 = .ok (.istore 4, 2) := by decide +kernel
theorem dX8_kinds_31 : decode cX8_kinds 31 = .ok (.iload 4, 2) := by decide +kernel
theorem dX8_kinds_33 : decode cX8_kinds 33 = .ok (.iconst 2, 1) := by decide +kernel
theorem dX8_kinds_34 : decode cX8_kinds 34 = .ok (.if_icmp .gt 37, 3) := by decide +kernel
theorem dX8_kinds_37 : decode cX8_kinds 37 = .ok (.aload_n 0, 1) := by decide +kernel
theorem dX8_kinds_38 : decode cX8_kinds 38 = .ok (.getfield 48, 3) := by decide +kernel
theorem dX8_kinds_41 : decode cX8_kinds 41 = .ok (.aload_n 0, 1) := by decide +kernel
theorem dX8_kinds_42 : decode cX8_kinds 42 = .ok (.getfield 27, 3) := by decide +kernel
theorem dX8_kinds_45 : decode cX8_kinds 45 = .ok (.iload_n 1, 1) := by decide +kernel
theorem dX8_kinds_46 : decode cX8_kinds 46 = .ok (.iload 4, 2) := by decide +kernel
theorem dX8_kinds_48 : decode cX8_kinds 48 = .ok (.iload_n 2, 1) := by decide +kernel
theorem dX8_kinds_49 : decode cX8_kinds 49 = .ok (.invokestatic 227, 3) := by decide +kernel
theorem dX8_kinds_52 : decode cX8_kinds 52 = .ok (.invokevirtual 230, 3) := by decide +kernel
theorem dX8_kinds_55 : decode cX8_kinds 55 = .ok (.ifCond .eq 10, 3) := by decide +kernel
theorem dX8_kinds_58 : decode cX8_kinds 58 = .ok (.iload_n 3, 1) := by decide +kernel
theorem dX8_kinds_59 : decode cX8_kinds 59 = .ok (.iconst 1, 1) := by decide +kernel
theorem dX8_kinds_60 : decode cX8_kinds 60 = .ok (.iload 4, 2) := by decide +kernel
theorem dX8_kinds_62 : decode cX8_kinds 62 = .ok (.ishl, 1) := by decide +kernel
theorem dX8_kinds_63 : decode cX8_kinds 63 = .ok (.ior, 1) := by decide +kernel
theorem dX8_kinds_64 : decode cX8_kinds 64 = .ok (.istore_n 3, 1) := by decide +kernel
theorem dX8_kinds_65 : decode cX8_kinds 65 = .ok (.iinc 4 1, 3) := by decide +kernel
theorem dX8_kinds_68 : decode cX8_kinds 68 = .ok (.goto (-37), 3) := by decide +kernel
theorem dX8_kinds_71 : decode cX8_kinds 71 = .ok (.iload_n 3, 1) := by decide +kernel
theorem dX8_kinds_72 : decode cX8_kinds 72 = .ok (.ireturn, 1) := by decide +kernel
set_option maxRecDepth 20000 in
theorem ggX8_odds_X0_has : GoodIn wsX8_odds wsX0_has := goodIn_r _ [8, 9, 53, 54] (by decide +kernel) (by decide +kernel)
set_option maxRecDepth 20000 in
theorem gX8_odds_X0_has : GoodIn wsX8_odds (wsV RX8 92 RX0 yX0_has wsX0_has) := goodIn_app (goodIn_of _ (by decide +kernel)) ggX8_odds_X0_has
set_option maxRecDepth 20000 in
theorem ggX8_odds_X2_daysTo : GoodIn wsX8_odds wsX2_daysTo := goodIn_r _ [14, 15, 16, 17, 18, 19, 20, 21, 22, 23, 24, 25, 26, 27, 28, 29, 30, 31, 13, 32, 33, 34, 35, 36, 37, 38, 39, 40, 59, 60, 61, 62, 63, 64, 55, 56, 57, 58] (by decide +kernel) (by decide +kernel)
set_option maxRecDepth 20000 in
theorem gX8_odds_X2_daysTo : GoodIn wsX8_odds (wsV RX8 239 RX2 yX2_daysTo wsX2_daysTo) := goodIn_app (goodIn_of _ (by decide +kernel)) ggX8_odds_X2_daysTo
set_option maxRecDepth 20000 in
theorem ggX8_odds_X8_commonPart : GoodIn wsX8_odds wsX8_commonPart := goodIn_r _ [43] (by decide +kernel) (by decide +kernel)
set_option maxRecDepth 20000 in
theorem gX8_odds_X8_commonPart : GoodIn wsX8_odds (va_wsS RX8 242 yX8_commonPart wsX8_commonPart) := goodIn_app (goodIn_of _ (by decide +kernel)) ggX8_odds_X8_commonPart
theorem dX8_odds_0 : decode cX8_odds 0 = .ok (.aload_n 0, 1) := by decide +kernel
theorem dX8_odds_1 : decode cX8_odds 1 = .ok (.getfield 27, 3) := by decide +kernel
theorem dX8_odds_4 : decode cX8_odds 4 = .ok (.iload_n 1, 1) := by decide +kernel
theorem dX8_odds_5 : decode cX8_odds 5 = .ok (.invokevirtual 92, 3) := by decide +kernel
theorem dX8_odds_8 : decode cX8_odds 8 = .ok (.ifCond .eq 22, 3) := by decide +kernel
theorem dX8_odds_11 : decode cX8_odds 11 = .ok (.iload_n 2, 1) := by decide +kernel
theorem dX8_odds_12 : decode cX8_odds 12 = .ok (.ifCond .lt 18, 3) := by decide +kernel
theorem dX8_odds_15 : decode cX8_odds 15 = .ok (.iload_n 2, 1) := by decide +kernel
theorem dX8_odds_16 : decode cX8_odds 16 = .ok (.bipush 99, 2) := by decide +kernel
theorem dX8_odds_18 : decode cX8_odds 18 = .ok (.if_icmp .gt 12, 3) := by decide +kernel
theorem dX8_odds_21 : decode cX8_odds 21 = .ok (.iload_n 3, 1) := by decide +kernel
theorem dX8_odds_22 : decode cX8_odds 22 = .ok (.ifCond .lt 8, 3) := by decide +kernel
theorem dX8_odds_25 : decode cX8_odds 25 = .ok (.iload_n 3, 1) := by decide +kernel
theorem dX8_odds_26 : decode cX8_odds 26 = .ok (.iconst 1, 1) := by decide +kernel
theorem dX8_odds_27 : decode cX8_odds 27 = .ok (.if_icmp .le 7, 3) := by decide +kernel
theorem dX8_odds_30 : decode cX8_odds 30 = .ok (.ldc2_w 234, 3) := by decide +kernel
theorem dX8_odds_33 : decode cX8_odds 33 = .ok (.lreturn, 1) := by decide +kernel
theorem dX8_odds_34 : decode cX8_odds 34 = .ok (.aload_n 0, 1) := by decide +kernel
theorem dX8_odds_35 : decode cX8_odds 35 = .ok (.getfield 27, 3) := by decide +kernel
theorem dX8_odds_38 : decode cX8_odds 38 = .ok (.getfield 95, 3) := by decide +kernel
theorem dX8_odds_41 : decode cX8_odds 41 = .ok (.iload_n 1, 1) := by decide +kernel
theorem dX8_odds_42 : decode cX8_odds 42 = .ok (.aaload, 1) := by decide +kernel
theorem dX8_odds_43 : decode cX8_odds 43 = .ok (.astore 4, 2) := by decide +kernel
theorem dX8_odds_45 : decode cX8_odds 45 = .ok (.iconst 0, 1) := by decide +kernel
theorem dX8_odds_46 : decode cX8_odds 46 = .ok (.istore 5, 2) := by decide +kernel
theorem dX8_odds_48 : decode cX8_odds 48 = .ok (.iconst 0, 1) := by decide +kernel
theorem dX8_odds_49 : decode cX8_odds 49 = .ok (.istore 6, 2) := by decide +kernel
theorem dX8_odds_51 : decode cX8_odds 51 = .ok (.iload 6, 2) := by decide +kernel
theorem dX8_odds_53 : decode cX8_odds 53 = .ok (.aload_n 0, 1) := by decide +kernel
theorem dX8_odds_54 : decode cX8_odds 54 = .ok (.getfield 20, 3) := by decide +kernel
theorem dX8_odds_57 : decode cX8_odds 57 = .ok (.getfield 236, 3) := by decide +kernel
theorem dX8_odds_60 : decode cX8_odds 60 = .ok (.if_icmp .ge 37, 3) := by decide +kernel
theorem dX8_odds_63 : decode cX8_odds 63 = .ok (.iload 6, 2) := by decide +kernel
theorem dX8_odds_65 : decode cX8_odds 65 = .ok (.aload 4, 2) := by decide +kernel
theorem dX8_odds_67 : decode cX8_odds 67 = .ok (.getfield 104, 3) := by decide +kernel
theorem dX8_odds_70 : decode cX8_odds 70 = .ok (.if_icmp .eq 21, 3) := by decide +kernel
theorem dX8_odds_73 : decode cX8_odds 73 = .ok (.aload 4, 2) := by decide +kernel
theorem dX8_odds_75 : decode cX8_odds 75 = .ok (.iload 6, 2) := by decide +kernel
theorem dX8_odds_77 : decode cX8_odds 77 = .ok (.aload_n 0, 1) := by decide +kernel
theorem dX8_odds_78 : decode cX8_odds 78 = .ok (.getfield 20, 3) := by decide +kernel
theorem dX8_odds_81 : decode cX8_odds 81 = .ok (.invokevirtual 239, 3) := by decide +kernel
theorem dX8_odds_84 : decode cX8_odds 84 = .ok (.iload_n 2, 1) := by decide +kernel
theorem dX8_odds_85 : decode cX8_odds 85 = .ok (.if_icmp .gt 6, 3) := by decide +kernel
theorem dX8_odds_88 : decode cX8_odds 88 = .ok (.iinc 5 1, 3) := by decide +kernel
theorem dX8_odds_91 : decode cX8_odds 91 = .ok (.iinc 6 1, 3) := by decide +kernel
theorem dX8_odds_94 : decode cX8_odds 94 = .ok (.goto (-43), 3) := by decide +kernel
theorem dX8_odds_97 : decode cX8_odds 97 = .ok (.aload_n 0, 1) := by decide +kernel
theorem dX8_odds_98 : decode cX8_odds 98 = .ok (.getfield 20, 3) := by decide +kernel
theorem dX8_odds_101 : decode cX8_odds 101 = .ok (.getfield 236, 3) := by decide +kernel
theorem dX8_odds_104 : decode cX8_odds 104 = .ok (.iconst 1, 1) := by decide +kernel
theorem dX8_odds_105 : decode cX8_odds 105 = .ok (.isub, 1) := by decide +kernel
theorem dX8_odds_106 : decode cX8_odds 106 = .ok (.istore 6, 2) := by decide +kernel
theorem dX8_odds_108 : decode cX8_odds 108 = .ok (.iload 5, 2) := by decide +kernel
theorem dX8_odds_110 : decode cX8_odds 110 = .ok (.iload 6, 2) := by decide +kernel
theorem dX8_odds_112 : decode cX8_odds 112 = .ok (.invokestatic 242, 3) := by decide +kernel
theorem dX8_odds_115 : decode cX8_odds 115 = .ok (.istore 7, 2) := by decide +kernel
theorem dX8_odds_117 : decode cX8_odds 117 = .ok (.iload_n 3, 1) := by decide +kernel
theorem dX8_odds_118 : decode cX8_odds 118 = .ok (.ifCond .ne 12, 3) := by decide +kernel
theorem dX8_odds_121 : decode cX8_odds 121 = .ok (.iload 5, 2) := by decide +kernel
theorem dX8_odds_123 : decode cX8_odds 123 = .ok (.iload 7, 2) := by decide +kernel
theorem dX8_odds_125 : decode cX8_odds 125 = .ok (.idiv, 1) := by decide +kernel
theorem dX8_odds_126 : decode cX8_odds 126 = .ok (.i2l, 1) := by decide +kernel
theorem dX8_odds_127 : decode cX8_odds 127 = .ok (.goto 9, 3) := by decide +kernel
theorem dX8_odds_130 : decode cX8_odds 130 = .ok (.iload 6, 2) := by decide +kernel
theorem dX8_odds_132 : decode cX8_odds 132 = .ok (.iload 7, 2) := by decide +kernel
theorem dX8_odds_134 : decode cX8_odds 134 = .ok (.idiv, 1) := by decide +kernel
theorem dX8_odds_135 : decode cX8_odds 135 = .ok (.i2l, 1) := by decide +kernel
theorem dX8_odds_136 : decode cX8_odds 136 = .ok (.lreturn, 1) := by decide +kernel
set_option maxRecDepth 20000 in
theorem ggX8_sheet_X8_isSheet : GoodIn wsX8_sheet wsX8_isSheet := goodIn_r _ [6] (by decide +kernel) (by decide +kernel)
set_option maxRecDepth 20000 in
theorem gX8_sheet_X8_isSheet : GoodIn wsX8_sheet (va_wsS RX8 63 yX8_isSheet wsX8_isSheet) := goodIn_app (goodIn_of _ (by decide +kernel)) ggX8_sheet_X8_isSheet
set_option maxRecDepth 20000 in
theorem ggX8_sheet_X8_isLane : GoodIn wsX8_sheet wsX8_isLane := goodIn_r _ [9] (by decide +kernel) (by decide +kernel)
set_option maxRecDepth 20000 in
theorem gX8_sheet_X8_isLane : GoodIn wsX8_sheet (va_wsS RX8 67 yX8_isLane wsX8_isLane) := goodIn_app (goodIn_of _ (by decide +kernel)) ggX8_sheet_X8_isLane
set_option maxRecDepth 20000 in
theorem ggX8_sheet_X8_faulted : GoodIn wsX8_sheet wsX8_faulted := goodIn_r _ [13, 1, 29, 30, 31, 32, 33, 34, 35, 36, 37] (by decide +kernel) (by decide +kernel)
set_option maxRecDepth 20000 in
theorem gX8_sheet_X8_faulted : GoodIn wsX8_sheet (wsV RX8 74 RX8 yX8_faulted wsX8_faulted) := goodIn_app (goodIn_of _ (by decide +kernel)) ggX8_sheet_X8_faulted
set_option maxRecDepth 20000 in
theorem ggX8_sheet_X5_renew : GoodIn wsX8_sheet wsX5_renew := goodIn_r _ [18, 19, 20, 21, 22, 23, 24, 25, 26, 27, 28, 38, 39, 40] (by decide +kernel) (by decide +kernel)
set_option maxRecDepth 20000 in
theorem gX8_sheet_X5_renew : GoodIn wsX8_sheet (wsV RX8 245 RX5 yX5_renew wsX5_renew) := goodIn_app (goodIn_of _ (by decide +kernel)) ggX8_sheet_X5_renew
theorem dX8_sheet_0 : decode cX8_sheet 0 = .ok (.aload_n 0, 1) := by decide +kernel
theorem dX8_sheet_1 : decode cX8_sheet 1 = .ok (.iconst 0, 1) := by decide +kernel
theorem dX8_sheet_2 : decode cX8_sheet 2 = .ok (.putfield 59, 3) := by decide +kernel
theorem dX8_sheet_5 : decode cX8_sheet 5 = .ok (.iload_n 1, 1) := by decide +kernel
theorem dX8_sheet_6 : decode cX8_sheet 6 = .ok (.invokestatic 63, 3) := by decide +kernel
theorem dX8_sheet_9 : decode cX8_sheet 9 = .ok (.ifCond .ne 5, 3) := by decide +kernel
theorem dX8_sheet_12 : decode cX8_sheet 12 = .ok (.iconst (-1), 1) := by decide +kernel
theorem dX8_sheet_13 : decode cX8_sheet 13 = .ok (.ireturn, 1) := by decide +kernel
theorem dX8_sheet_14 : decode cX8_sheet 14 = .ok (.iload_n 2, 1) := by decide +kernel
theorem dX8_sheet_15 : decode cX8_sheet 15 = .ok (.invokestatic 67, 3) := by decide +kernel
theorem dX8_sheet_18 : decode cX8_sheet 18 = .ok (.ifCond .eq 9, 3) := by decide +kernel
theorem dX8_sheet_21 : decode cX8_sheet 21 = .ok (.iload_n 3, 1) := by decide +kernel
theorem dX8_sheet_22 : decode cX8_sheet 22 = .ok (.bipush 60, 2) := by decide +kernel
theorem dX8_sheet_24 : decode cX8_sheet 24 = .ok (.if_icmp .le 6, 3) := by decide +kernel
theorem dX8_sheet_27 : decode cX8_sheet 27 = .ok (.bipush (-2), 2) := by decide +kernel
theorem dX8_sheet_29 : decode cX8_sheet 29 = .ok (.ireturn, 1) := by decide +kernel
theorem dX8_sheet_30 : decode cX8_sheet 30 = .ok (.iload_n 3, 1) := by decide +kernel
theorem dX8_sheet_31 : decode cX8_sheet 31 = .ok (.ifCond .ge 9, 3) := by decide +kernel
theorem dX8_sheet_34 : decode cX8_sheet 34 = .ok (.aload_n 0, 1) := by decide +kernel
theorem dX8_sheet_35 : decode cX8_sheet 35 = .ok (.iconst 4, 1) := by decide +kernel
theorem dX8_sheet_36 : decode cX8_sheet 36 = .ok (.invokevirtual 74, 3) := by decide +kernel
theorem dX8_sheet_39 : decode cX8_sheet 39 = .ok (.ireturn, 1) := by decide +kernel
theorem dX8_sheet_40 : decode cX8_sheet 40 = .ok (.aload_n 0, 1) := by decide +kernel
theorem dX8_sheet_41 : decode cX8_sheet 41 = .ok (.getfield 13, 3) := by decide +kernel
theorem dX8_sheet_44 : decode cX8_sheet 44 = .ok (.iload_n 1, 1) := by decide +kernel
theorem dX8_sheet_45 : decode cX8_sheet 45 = .ok (.aaload, 1) := by decide +kernel
theorem dX8_sheet_46 : decode cX8_sheet 46 = .ok (.iload_n 2, 1) := by decide +kernel
theorem dX8_sheet_47 : decode cX8_sheet 47 = .ok (.iload_n 3, 1) := by decide +kernel
theorem dX8_sheet_48 : decode cX8_sheet 48 = .ok (.invokevirtual 245, 3) := by decide +kernel
theorem dX8_sheet_51 : decode cX8_sheet 51 = .ok (.iconst 1, 1) := by decide +kernel
theorem dX8_sheet_52 : decode cX8_sheet 52 = .ok (.ireturn, 1) := by decide +kernel
set_option maxRecDepth 20000 in
theorem ggX8_lose_X8_isSheet : GoodIn wsX8_lose wsX8_isSheet := goodIn_r _ [5] (by decide +kernel) (by decide +kernel)
set_option maxRecDepth 20000 in
theorem gX8_lose_X8_isSheet : GoodIn wsX8_lose (va_wsS RX8 63 yX8_isSheet wsX8_isSheet) := goodIn_app (goodIn_of _ (by decide +kernel)) ggX8_lose_X8_isSheet
set_option maxRecDepth 20000 in
theorem ggX8_lose_X5_hasNothing : GoodIn wsX8_lose wsX5_hasNothing := goodIn_r _ [10, 11, 26, 27, 28] (by decide +kernel) (by decide +kernel)
set_option maxRecDepth 20000 in
theorem gX8_lose_X5_hasNothing : GoodIn wsX8_lose (wsV RX8 249 RX5 yX5_hasNothing wsX5_hasNothing) := goodIn_app (goodIn_of _ (by decide +kernel)) ggX8_lose_X5_hasNothing
set_option maxRecDepth 20000 in
theorem ggX8_lose_X5_clear : GoodIn wsX8_lose wsX5_clear := goodIn_r _ [15, 11, 16, 26, 27, 28] (by decide +kernel) (by decide +kernel)
set_option maxRecDepth 20000 in
theorem gX8_lose_X5_clear : GoodIn wsX8_lose (wsV RX8 252 RX5 yX5_clear wsX5_clear) := goodIn_app (goodIn_of _ (by decide +kernel)) ggX8_lose_X5_clear
theorem dX8_lose_0 : decode cX8_lose 0 = .ok (.iload_n 1, 1) := by decide +kernel
theorem dX8_lose_1 : decode cX8_lose 1 = .ok (.invokestatic 63, 3) := by decide +kernel
theorem dX8_lose_4 : decode cX8_lose 4 = .ok (.ifCond .ne 5, 3) := by decide +kernel
theorem dX8_lose_7 : decode cX8_lose 7 = .ok (.iconst (-1), 1) := by decide +kernel
theorem dX8_lose_8 : decode cX8_lose 8 = .ok (.ireturn, 1) := by decide +kernel
theorem dX8_lose_9 : decode cX8_lose 9 = .ok (.aload_n 0, 1) := by decide +kernel
theorem dX8_lose_10 : decode cX8_lose 10 = .ok (.getfield 13, 3) := by decide +kernel
theorem dX8_lose_13 : decode cX8_lose 13 = .ok (.iload_n 1, 1) := by decide +kernel
theorem dX8_lose_14 : decode cX8_lose 14 = .ok (.aaload, 1) := by decide +kernel
theorem dX8_lose_15 : decode cX8_lose 15 = .ok (.invokevirtual 249, 3) := by decide +kernel
theorem dX8_lose_18 : decode cX8_lose 18 = .ok (.ifCond .eq 7, 3) := by decide +kernel
theorem dX8_lose_21 : decode cX8_lose 21 = .ok (.iconst 0, 1) := by decide +kernel
theorem dX8_lose_22 : decode cX8_lose 22 = .ok (.goto 4, 3) := by decide +kernel
theorem dX8_lose_25 : decode cX8_lose 25 = .ok (.iconst 1, 1) := by decide +kernel
theorem dX8_lose_26 : decode cX8_lose 26 = .ok (.istore_n 2, 1) := by decide +kernel
theorem dX8_lose_27 : decode cX8_lose 27 = .ok (.aload_n 0, 1) := by decide +kernel
theorem dX8_lose_28 : decode cX8_lose 28 = .ok (.getfield 13, 3) := by decide +kernel
theorem dX8_lose_31 : decode cX8_lose 31 = .ok (.iload_n 1, 1) := by decide +kernel
theorem dX8_lose_32 : decode cX8_lose 32 = .ok (.aaload, 1) := by decide +kernel
theorem dX8_lose_33 : decode cX8_lose 33 = .ok (.invokevirtual 252, 3) := by decide +kernel
theorem dX8_lose_36 : decode cX8_lose 36 = .ok (.iload_n 2, 1) := by decide +kernel
theorem dX8_lose_37 : decode cX8_lose 37 = .ok (.ireturn, 1) := by decide +kernel
set_option maxRecDepth 20000 in
theorem ggX8_put_X8_isSheet : GoodIn wsX8_put wsX8_isSheet := goodIn_r _ [6] (by decide +kernel) (by decide +kernel)
set_option maxRecDepth 20000 in
theorem gX8_put_X8_isSheet : GoodIn wsX8_put (va_wsS RX8 63 yX8_isSheet wsX8_isSheet) := goodIn_app (goodIn_of _ (by decide +kernel)) ggX8_put_X8_isSheet
set_option maxRecDepth 20000 in
theorem ggX8_put_X5_hasNothing : GoodIn wsX8_put wsX5_hasNothing := goodIn_r _ [11, 12, 40, 41, 42] (by decide +kernel) (by decide +kernel)
set_option maxRecDepth 20000 in
theorem gX8_put_X5_hasNothing : GoodIn wsX8_put (wsV RX8 249 RX5 yX5_hasNothing wsX5_hasNothing) := goodIn_app (goodIn_of _ (by decide +kernel)) ggX8_put_X5_hasNothing
set_option maxRecDepth 20000 in
theorem ggX8_put_X8_faulted : GoodIn wsX8_put wsX8_faulted := goodIn_r _ [16, 1, 31, 32, 33, 34, 35, 36, 37, 38, 39] (by decide +kernel) (by decide +kernel)
set_option maxRecDepth 20000 in
theorem gX8_put_X8_faulted : GoodIn wsX8_put (wsV RX8 74 RX8 yX8_faulted wsX8_faulted) := goodIn_app (goodIn_of _ (by decide +kernel)) ggX8_put_X8_faulted
set_option maxRecDepth 20000 in
theorem ggX8_put_X5_faultOfCells : GoodIn wsX8_put wsX5_faultOfCells := goodIn_r _ [20, 21, 40, 41, 42] (by decide +kernel) (by decide +kernel)
set_option maxRecDepth 20000 in
theorem gX8_put_X5_faultOfCells : GoodIn wsX8_put (wsV RX8 255 RX5 yX5_faultOfCells wsX5_faultOfCells) := goodIn_app (goodIn_of _ (by decide +kernel)) ggX8_put_X5_faultOfCells
set_option maxRecDepth 20000 in
theorem ggX8_put_X5_set : GoodIn wsX8_put wsX5_set := goodIn_r _ [25, 21, 26, 27, 28, 29, 10, 30, 12, 40, 41, 42] (by decide +kernel) (by decide +kernel)
set_option maxRecDepth 20000 in
theorem gX8_put_X5_set : GoodIn wsX8_put (wsV RX8 258 RX5 yX5_set wsX5_set) := goodIn_app (goodIn_of _ (by decide +kernel)) ggX8_put_X5_set
theorem dX8_put_0 : decode cX8_put 0 = .ok (.aload_n 0, 1) := by decide +kernel
theorem dX8_put_1 : decode cX8_put 1 = .ok (.iconst 0, 1) := by decide +kernel
theorem dX8_put_2 : decode cX8_put 2 = .ok (.putfield 59, 3) := by decide +kernel
theorem dX8_put_5 : decode cX8_put 5 = .ok (.iload_n 1, 1) := by decide +kernel
theorem dX8_put_6 : decode cX8_put 6 = .ok (.invokestatic 63, 3) := by decide +kernel
theorem dX8_put_9 : decode cX8_put 9 = .ok (.ifCond .ne 5, 3) := by decide +kernel
theorem dX8_put_12 : decode cX8_put 12 = .ok (.iconst (-1), 1) := by decide +kernel
theorem dX8_put_13 : decode cX8_put 13 = .ok (.ireturn, 1) := by decide +kernel
theorem dX8_put_14 : decode cX8_put 14 = .ok (.aload_n 0, 1) := by decide +kernel
theorem dX8_put_15 : decode cX8_put 15 = .ok (.getfield 13, 3) := by decide +kernel
theorem dX8_put_18 : decode cX8_put 18 = .ok (.iload_n 1, 1) := by decide +kernel
theorem dX8_put_19 : decode cX8_put 19 = .ok (.aaload, 1) := by decide +kernel
theorem dX8_put_20 : decode cX8_put 20 = .ok (.invokevirtual 249, 3) := by decide +kernel
theorem dX8_put_23 : decode cX8_put 23 = .ok (.ifCond .eq 9, 3) := by decide +kernel
theorem dX8_put_26 : decode cX8_put 26 = .ok (.aload_n 0, 1) := by decide +kernel
theorem dX8_put_27 : decode cX8_put 27 = .ok (.iconst 1, 1) := by decide +kernel
theorem dX8_put_28 : decode cX8_put 28 = .ok (.invokevirtual 74, 3) := by decide +kernel
theorem dX8_put_31 : decode cX8_put 31 = .ok (.ireturn, 1) := by decide +kernel
theorem dX8_put_32 : decode cX8_put 32 = .ok (.aload_n 0, 1) := by decide +kernel
theorem dX8_put_33 : decode cX8_put 33 = .ok (.getfield 13, 3) := by decide +kernel
theorem dX8_put_36 : decode cX8_put 36 = .ok (.iload_n 1, 1) := by decide +kernel
theorem dX8_put_37 : decode cX8_put 37 = .ok (.aaload, 1) := by decide +kernel
theorem dX8_put_38 : decode cX8_put 38 = .ok (.iload_n 2, 1) := by decide +kernel
theorem dX8_put_39 : decode cX8_put 39 = .ok (.iconst 1, 1) := by decide +kernel
theorem dX8_put_40 : decode cX8_put 40 = .ok (.invokevirtual 255, 3) := by decide +kernel
theorem dX8_put_43 : decode cX8_put 43 = .ok (.istore 4, 2) := by decide +kernel
theorem dX8_put_45 : decode cX8_put 45 = .ok (.iload 4, 2) := by decide +kernel
theorem dX8_put_47 : decode cX8_put 47 = .ok (.ifCond .eq 10, 3) := by decide +kernel
theorem dX8_put_50 : decode cX8_put 50 = .ok (.aload_n 0, 1) := by decide +kernel
theorem dX8_put_51 : decode cX8_put 51 = .ok (.iload 4, 2) := by decide +kernel
theorem dX8_put_53 : decode cX8_put 53 = .ok (.invokevirtual 74, 3) := by decide +kernel
theorem dX8_put_56 : decode cX8_put 56 = .ok (.ireturn, 1) := by decide +kernel
theorem dX8_put_57 : decode cX8_put 57 = .ok (.aload_n 0, 1) := by decide +kernel
theorem dX8_put_58 : decode cX8_put 58 = .ok (.getfield 13, 3) := by decide +kernel
theorem dX8_put_61 : decode cX8_put 61 = .ok (.iload_n 1, 1) := by decide +kernel
theorem dX8_put_62 : decode cX8_put 62 = .ok (.aaload, 1) := by decide +kernel
theorem dX8_put_63 : decode cX8_put 63 = .ok (.iload_n 2, 1) := by decide +kernel
theorem dX8_put_64 : decode cX8_put 64 = .ok (.iload_n 3, 1) := by decide +kernel
theorem dX8_put_65 : decode cX8_put 65 = .ok (.invokevirtual 258, 3) := by decide +kernel
theorem dX8_put_68 : decode cX8_put 68 = .ok (.iconst 1, 1) := by decide +kernel
theorem dX8_put_69 : decode cX8_put 69 = .ok (.ireturn, 1) := by decide +kernel
set_option maxRecDepth 20000 in
theorem ggX8_cell_X8_isSheet : GoodIn wsX8_cell wsX8_isSheet := goodIn_r _ [7] (by decide +kernel) (by decide +kernel)
set_option maxRecDepth 20000 in
theorem gX8_cell_X8_isSheet : GoodIn wsX8_cell (va_wsS RX8 63 yX8_isSheet wsX8_isSheet) := goodIn_app (goodIn_of _ (by decide +kernel)) ggX8_cell_X8_isSheet
set_option maxRecDepth 20000 in
theorem ggX8_cell_X8_isLane : GoodIn wsX8_cell wsX8_isLane := goodIn_r _ [10] (by decide +kernel) (by decide +kernel)
set_option maxRecDepth 20000 in
theorem gX8_cell_X8_isLane : GoodIn wsX8_cell (va_wsS RX8 67 yX8_isLane wsX8_isLane) := goodIn_app (goodIn_of _ (by decide +kernel)) ggX8_cell_X8_isLane
set_option maxRecDepth 20000 in
theorem ggX8_cell_X5_faultAsRow : GoodIn wsX8_cell wsX5_faultAsRow := goodIn_r _ [15, 16, 17, 18, 19, 14, 20, 21, 22, 23, 24, 25, 40, 41, 42] (by decide +kernel) (by decide +kernel)
set_option maxRecDepth 20000 in
theorem gX8_cell_X5_faultAsRow : GoodIn wsX8_cell (wsV RX8 70 RX5 yX5_faultAsRow wsX5_faultAsRow) := goodIn_app (goodIn_of _ (by decide +kernel)) ggX8_cell_X5_faultAsRow
set_option maxRecDepth 20000 in
theorem ggX8_cell_X5_at : GoodIn wsX8_cell wsX5_at := goodIn_r _ [29, 25, 30, 40, 41, 42] (by decide +kernel) (by decide +kernel)
set_option maxRecDepth 20000 in
theorem gX8_cell_X5_at : GoodIn wsX8_cell (wsV RX8 261 RX5 yX5_at wsX5_at) := goodIn_app (goodIn_of _ (by decide +kernel)) ggX8_cell_X5_at
theorem dX8_cell_0 : decode cX8_cell 0 = .ok (.aload_n 0, 1) := by decide +kernel
theorem dX8_cell_1 : decode cX8_cell 1 = .ok (.iconst 0, 1) := by decide +kernel
theorem dX8_cell_2 : decode cX8_cell 2 = .ok (.putfield 59, 3) := by decide +kernel
theorem dX8_cell_5 : decode cX8_cell 5 = .ok (.iload_n 1, 1) := by decide +kernel
theorem dX8_cell_6 : decode cX8_cell 6 = .ok (.invokestatic 63, 3) := by decide +kernel
theorem dX8_cell_9 : decode cX8_cell 9 = .ok (.ifCond .eq 10, 3) := by decide +kernel
theorem dX8_cell_12 : decode cX8_cell 12 = .ok (.iload_n 3, 1) := by decide +kernel
theorem dX8_cell_13 : decode cX8_cell 13 = .ok (.invokestatic 67, 3) := by decide +kernel
theorem dX8_cell_16 : decode cX8_cell 16 = .ok (.ifCond .ne 7, 3) := by decide +kernel
theorem dX8_cell_19 : decode cX8_cell 19 = .ok (.ldc2_w 234, 3) := by decide +kernel
theorem dX8_cell_22 : decode cX8_cell 22 = .ok (.lreturn, 1) := by decide +kernel
theorem dX8_cell_23 : decode cX8_cell 23 = .ok (.aload_n 0, 1) := by decide +kernel
theorem dX8_cell_24 : decode cX8_cell 24 = .ok (.aload_n 0, 1) := by decide +kernel
theorem dX8_cell_25 : decode cX8_cell 25 = .ok (.getfield 13, 3) := by decide +kernel
theorem dX8_cell_28 : decode cX8_cell 28 = .ok (.iload_n 1, 1) := by decide +kernel
theorem dX8_cell_29 : decode cX8_cell 29 = .ok (.aaload, 1) := by decide +kernel
theorem dX8_cell_30 : decode cX8_cell 30 = .ok (.iload_n 3, 1) := by decide +kernel
theorem dX8_cell_31 : decode cX8_cell 31 = .ok (.iload_n 2, 1) := by decide +kernel
theorem dX8_cell_32 : decode cX8_cell 32 = .ok (.iconst 1, 1) := by decide +kernel
theorem dX8_cell_33 : decode cX8_cell 33 = .ok (.invokevirtual 70, 3) := by decide +kernel
theorem dX8_cell_36 : decode cX8_cell 36 = .ok (.putfield 59, 3) := by decide +kernel
theorem dX8_cell_39 : decode cX8_cell 39 = .ok (.aload_n 0, 1) := by decide +kernel
theorem dX8_cell_40 : decode cX8_cell 40 = .ok (.getfield 59, 3) := by decide +kernel
theorem dX8_cell_43 : decode cX8_cell 43 = .ok (.ifCond .ne 17, 3) := by decide +kernel
theorem dX8_cell_46 : decode cX8_cell 46 = .ok (.aload_n 0, 1) := by decide +kernel
theorem dX8_cell_47 : decode cX8_cell 47 = .ok (.getfield 13, 3) := by decide +kernel
theorem dX8_cell_50 : decode cX8_cell 50 = .ok (.iload_n 1, 1) := by decide +kernel
theorem dX8_cell_51 : decode cX8_cell 51 = .ok (.aaload, 1) := by decide +kernel
theorem dX8_cell_52 : decode cX8_cell 52 = .ok (.iload_n 2, 1) := by decide +kernel
theorem dX8_cell_53 : decode cX8_cell 53 = .ok (.invokevirtual 261, 3) := by decide +kernel
theorem dX8_cell_56 : decode cX8_cell 56 = .ok (.i2l, 1) := by decide +kernel
theorem dX8_cell_57 : decode cX8_cell 57 = .ok (.goto 6, 3) := by decide +kernel
theorem dX8_cell_60 : decode cX8_cell 60 = .ok (.ldc2_w 234, 3) := by decide +kernel
theorem dX8_cell_63 : decode cX8_cell 63 = .ok (.lreturn, 1) := by decide +kernel
set_option maxRecDepth 20000 in
theorem ggX8_copy_X8_isSheet : GoodIn wsX8_copy wsX8_isSheet := goodIn_r _ [10] (by decide +kernel) (by decide +kernel)
set_option maxRecDepth 20000 in
theorem gX8_copy_X8_isSheet : GoodIn wsX8_copy (va_wsS RX8 63 yX8_isSheet wsX8_isSheet) := goodIn_app (goodIn_of _ (by decide +kernel)) ggX8_copy_X8_isSheet
set_option maxRecDepth 20000 in
theorem ggX8_copy_X5_hasNothing : GoodIn wsX8_copy wsX5_hasNothing := goodIn_r _ [15, 16, 35, 36, 37] (by decide +kernel) (by decide +kernel)
set_option maxRecDepth 20000 in
theorem gX8_copy_X5_hasNothing : GoodIn wsX8_copy (wsV RX8 249 RX5 yX5_hasNothing wsX5_hasNothing) := goodIn_app (goodIn_of _ (by decide +kernel)) ggX8_copy_X5_hasNothing
set_option maxRecDepth 20000 in
theorem ggX8_copy_X8_faulted : GoodIn wsX8_copy wsX8_faulted := goodIn_r _ [20, 1, 26, 27, 28, 29, 30, 31, 32, 33, 34] (by decide +kernel) (by decide +kernel)
set_option maxRecDepth 20000 in
theorem gX8_copy_X8_faulted : GoodIn wsX8_copy (wsV RX8 74 RX8 yX8_faulted wsX8_faulted) := goodIn_app (goodIn_of _ (by decide +kernel)) ggX8_copy_X8_faulted
set_option maxRecDepth 20000 in
theorem ggX8_copy_X5_faultOfCells : GoodIn wsX8_copy wsX5_faultOfCells := goodIn_r _ [24, 25, 35, 36, 37] (by decide +kernel) (by decide +kernel)
set_option maxRecDepth 20000 in
theorem gX8_copy_X5_faultOfCells : GoodIn wsX8_copy (wsV RX8 255 RX5 yX5_faultOfCells wsX5_faultOfCells) := goodIn_app (goodIn_of _ (by decide +kernel)) ggX8_copy_X5_faultOfCells
theorem dX8_copy_0 : decode cX8_copy 0 = .ok (.aload_n 0, 1) := by decide +kernel
theorem dX8_copy_1 : decode cX8_copy 1 = .ok (.iconst 0, 1) := by decide +kernel
theorem dX8_copy_2 : decode cX8_copy 2 = .ok (.putfield 59, 3) := by decide +kernel
theorem dX8_copy_5 : decode cX8_copy 5 = .ok (.iload_n 1, 1) := by decide +kernel
theorem dX8_copy_6 : decode cX8_copy 6 = .ok (.invokestatic 63, 3) := by decide +kernel
theorem dX8_copy_9 : decode cX8_copy 9 = .ok (.ifCond .eq 10, 3) := by decide +kernel
theorem dX8_copy_12 : decode cX8_copy 12 = .ok (.iload_n 3, 1) := by decide +kernel
theorem dX8_copy_13 : decode cX8_copy 13 = .ok (.invokestatic 63, 3) := by decide +kernel
theorem dX8_copy_16 : decode cX8_copy 16 = .ok (.ifCond .ne 5, 3) := by decide +kernel
theorem dX8_copy_19 : decode cX8_copy 19 = .ok (.iconst (-1), 1) := by decide +kernel
theorem dX8_copy_20 : decode cX8_copy 20 = .ok (.ireturn, 1) := by decide +kernel
theorem dX8_copy_21 : decode cX8_copy 21 = .ok (.aload_n 0, 1) := by decide +kernel
theorem dX8_copy_22 : decode cX8_copy 22 = .ok (.getfield 13, 3) := by decide +kernel
theorem dX8_copy_25 : decode cX8_copy 25 = .ok (.iload_n 1, 1) := by decide +kernel
theorem dX8_copy_26 : decode cX8_copy 26 = .ok (.aaload, 1) := by decide +kernel
theorem dX8_copy_27 : decode cX8_copy 27 = .ok (.astore 6, 2) := by decide +kernel
theorem dX8_copy_29 : decode cX8_copy 29 = .ok (.aload_n 0, 1) := by decide +kernel
theorem dX8_copy_30 : decode cX8_copy 30 = .ok (.getfield 13, 3) := by decide +kernel
theorem dX8_copy_33 : decode cX8_copy 33 = .ok (.iload_n 3, 1) := by decide +kernel
theorem dX8_copy_34 : decode cX8_copy 34 = .ok (.aaload, 1) := by decide +kernel
theorem dX8_copy_35 : decode cX8_copy 35 = .ok (.astore 7, 2) := by decide +kernel
theorem dX8_copy_37 : decode cX8_copy 37 = .ok (.aload 6, 2) := by decide +kernel
theorem dX8_copy_39 : decode cX8_copy 39 = .ok (.invokevirtual 249, 3) := by decide +kernel
theorem dX8_copy_42 : decode cX8_copy 42 = .ok (.ifCond .ne 11, 3) := by decide +kernel
theorem dX8_copy_45 : decode cX8_copy 45 = .ok (.aload 7, 2) := by decide +kernel
theorem dX8_copy_47 : decode cX8_copy 47 = .ok (.invokevirtual 249, 3) := by decide +kernel
theorem dX8_copy_50 : decode cX8_copy 50 = .ok (.ifCond .eq 9, 3) := by decide +kernel
theorem dX8_copy_53 : decode cX8_copy 53 = .ok (.aload_n 0, 1) := by decide +kernel
theorem dX8_copy_54 : decode cX8_copy 54 = .ok (.iconst 1, 1) := by decide +kernel
theorem dX8_copy_55 : decode cX8_copy 55 = .ok (.invokevirtual 74, 3) := by decide +kernel
theorem dX8_copy_58 : decode cX8_copy 58 = .ok (.ireturn, 1) := by decide +kernel
theorem dX8_copy_59 : decode cX8_copy 59 = .ok (.aload 6, 2) := by decide +kernel
theorem dX8_copy_61 : decode cX8_copy 61 = .ok (.getfield 264, 3) := by decide +kernel
theorem dX8_copy_64 : decode cX8_copy 64 = .ok (.aload 7, 2) := by decide +kernel
theorem dX8_copy_66 : decode cX8_copy 66 = .ok (.getfield 264, 3) := by decide +kernel
theorem dX8_copy_69 : decode cX8_copy 69 = .ok (.if_icmp .eq 9, 3) := by decide +kernel
theorem dX8_copy_72 : decode cX8_copy 72 = .ok (.aload_n 0, 1) := by decide +kernel
theorem dX8_copy_73 : decode cX8_copy 73 = .ok (.iconst 2, 1) := by decide +kernel
theorem dX8_copy_74 : decode cX8_copy 74 = .ok (.invokevirtual 74, 3) := by decide +kernel
theorem dX8_copy_77 : decode cX8_copy 77 = .ok (.ireturn, 1) := by decide +kernel
theorem dX8_copy_78 : decode cX8_copy 78 = .ok (.aload 6, 2) := by decide +kernel
theorem dX8_copy_80 : decode cX8_copy 80 = .ok (.iload_n 2, 1) := by decide +kernel
theorem dX8_copy_81 : decode cX8_copy 81 = .ok (.iload 5, 2) := by decide +kernel
theorem dX8_copy_83 : decode cX8_copy 83 = .ok (.invokevirtual 255, 3) := by decide +kernel
theorem dX8_copy_86 : decode cX8_copy 86 = .ok (.ifCond .ne 15, 3) := by decide +kernel
theorem dX8_copy_89 : decode cX8_copy 89 = .ok (.aload 7, 2) := by decide +kernel
theorem dX8_copy_91 : decode cX8_copy 91 = .ok (.iload 4, 2) := by decide +kernel
theorem dX8_copy_93 : decode cX8_copy 93 = .ok (.iload 5, 2) := by decide +kernel
theorem dX8_copy_95 : decode cX8_copy 95 = .ok (.invokevirtual 255, 3) := by decide +kernel
theorem dX8_copy_98 : decode cX8_copy 98 = .ok (.ifCond .eq 9, 3) := by decide +kernel
theorem dX8_copy_101 : decode cX8_copy 101 = .ok (.aload_n 0, 1) := by decide +kernel
theorem dX8_copy_102 : decode cX8_copy 102 = .ok (.iconst 3, 1) := by decide +kernel
theorem dX8_copy_103 : decode cX8_copy 103 = .ok (.invokevirtual 74, 3) := by decide +kernel
theorem dX8_copy_106 : decode cX8_copy 106 = .ok (.ireturn, 1) := by decide +kernel
theorem dX8_copy_107 : decode cX8_copy 107 = .ok (.aload 6, 2) := by decide +kernel
theorem dX8_copy_109 : decode cX8_copy 109 = .ok (.getfield 267, 3) := by decide +kernel
theorem dX8_copy_112 : decode cX8_copy 112 = .ok (.iload_n 2, 1) := by decide +kernel
theorem dX8_copy_113 : decode cX8_copy 113 = .ok (.aload 7, 2) := by decide +kernel
theorem dX8_copy_115 : decode cX8_copy 115 = .ok (.getfield 267, 3) := by decide +kernel
theorem dX8_copy_118 : decode cX8_copy 118 = .ok (.iload 4, 2) := by decide +kernel
theorem dX8_copy_120 : decode cX8_copy 120 = .ok (.iload 5, 2) := by decide +kernel
theorem dX8_copy_122 : decode cX8_copy 122 = .ok (.invokestatic 271, 3) := by decide +kernel
theorem dX8_copy_125 : decode cX8_copy 125 = .ok (.iload 5, 2) := by decide +kernel
theorem dX8_copy_127 : decode cX8_copy 127 = .ok (.ireturn, 1) := by decide +kernel
set_option maxRecDepth 20000 in
theorem ggX8_tell_X0_has : GoodIn wsX8_tell wsX0_has := goodIn_r _ [6, 7, 35, 36] (by decide +kernel) (by decide +kernel)
set_option maxRecDepth 20000 in
theorem gX8_tell_X0_has : GoodIn wsX8_tell (wsV RX8 92 RX0 yX0_has wsX0_has) := goodIn_app (goodIn_of _ (by decide +kernel)) ggX8_tell_X0_has
set_option maxRecDepth 20000 in
theorem ggX8_tell_X8_tellBoy : GoodIn wsX8_tell wsX8_tellBoy := goodIn_r _ [12, 13, 14, 15, 11, 16, 17, 37, 38, 39, 40, 41, 42, 26, 27, 28, 29, 30, 31, 32, 33, 34] (by decide +kernel) (by decide +kernel)
set_option maxRecDepth 20000 in
theorem gX8_tell_X8_tellBoy : GoodIn wsX8_tell (wsV RX8 277 RX8 yX8_tellBoy wsX8_tellBoy) := goodIn_app (goodIn_of _ (by decide +kernel)) ggX8_tell_X8_tellBoy
set_option maxRecDepth 20000 in
theorem ggX8_tell_X8_tellMan : GoodIn wsX8_tell wsX8_tellMan := goodIn_r _ [21, 13, 14, 15, 11, 16, 17, 8, 9, 10, 12, 26, 27, 28, 29, 30, 31, 32, 33, 34, 37, 38, 39, 40, 41, 42] (by decide +kernel) (by decide +kernel)
set_option maxRecDepth 20000 in
theorem gX8_tell_X8_tellMan : GoodIn wsX8_tell (wsV RX8 281 RX8 yX8_tellMan wsX8_tellMan) := goodIn_app (goodIn_of _ (by decide +kernel)) ggX8_tell_X8_tellMan
set_option maxRecDepth 20000 in
theorem ggX8_tell_X8_tellPair : GoodIn wsX8_tell wsX8_tellPair := goodIn_r _ [25, 13, 14, 15, 11, 16, 17, 18, 19, 20, 21, 8, 9, 10, 12, 26, 27, 28, 29, 30, 31, 32, 33, 34, 37, 38, 39, 40, 41, 42] (by decide +kernel) (by decide +kernel)
set_option maxRecDepth 20000 in
theorem gX8_tell_X8_tellPair : GoodIn wsX8_tell (wsV RX8 284 RX8 yX8_tellPair wsX8_tellPair) := goodIn_app (goodIn_of _ (by decide +kernel)) ggX8_tell_X8_tellPair
theorem dX8_tell_0 : decode cX8_tell 0 = .ok (.aload_n 0, 1) := by decide +kernel
theorem dX8_tell_1 : decode cX8_tell 1 = .ok (.getfield 27, 3) := by decide +kernel
theorem dX8_tell_4 : decode cX8_tell 4 = .ok (.iload_n 1, 1) := by decide +kernel
theorem dX8_tell_5 : decode cX8_tell 5 = .ok (.invokevirtual 92, 3) := by decide +kernel
theorem dX8_tell_8 : decode cX8_tell 8 = .ok (.ifCond .ne 5, 3) := by decide +kernel
theorem dX8_tell_11 : decode cX8_tell 11 = .ok (.iconst (-1), 1) := by decide +kernel
theorem dX8_tell_12 : decode cX8_tell 12 = .ok (.ireturn, 1) := by decide +kernel
theorem dX8_tell_13 : decode cX8_tell 13 = .ok (.aload_n 0, 1) := by decide +kernel
theorem dX8_tell_14 : decode cX8_tell 14 = .ok (.getfield 27, 3) := by decide +kernel
theorem dX8_tell_17 : decode cX8_tell 17 = .ok (.getfield 95, 3) := by decide +kernel
theorem dX8_tell_20 : decode cX8_tell 20 = .ok (.iload_n 1, 1) := by decide +kernel
theorem dX8_tell_21 : decode cX8_tell 21 = .ok (.aaload, 1) := by decide +kernel
theorem dX8_tell_22 : decode cX8_tell 22 = .ok (.astore_n 2, 1) := by decide +kernel
theorem dX8_tell_23 : decode cX8_tell 23 = .ok (.aload_n 2, 1) := by decide +kernel
theorem dX8_tell_24 : decode cX8_tell 24 = .ok (.getfield 99, 3) := by decide +kernel
theorem dX8_tell_27 : decode cX8_tell 27 = .ok (.lookupswitch 37 #[(0, 25), (1, 31)], 25) := by decide +kernel
theorem dX8_tell_52 : decode cX8_tell 52 = .ok (.aload_n 0, 1) := by decide +kernel
theorem dX8_tell_53 : decode cX8_tell 53 = .ok (.aload_n 2, 1) := by decide +kernel
theorem dX8_tell_54 : decode cX8_tell 54 = .ok (.invokevirtual 277, 3) := by decide +kernel
theorem dX8_tell_57 : decode cX8_tell 57 = .ok (.ireturn, 1) := by decide +kernel
theorem dX8_tell_58 : decode cX8_tell 58 = .ok (.aload_n 0, 1) := by decide +kernel
theorem dX8_tell_59 : decode cX8_tell 59 = .ok (.aload_n 2, 1) := by decide +kernel
theorem dX8_tell_60 : decode cX8_tell 60 = .ok (.invokevirtual 281, 3) := by decide +kernel
theorem dX8_tell_63 : decode cX8_tell 63 = .ok (.ireturn, 1) := by decide +kernel
theorem dX8_tell_64 : decode cX8_tell 64 = .ok (.aload_n 0, 1) := by decide +kernel
theorem dX8_tell_65 : decode cX8_tell 65 = .ok (.aload_n 2, 1) := by decide +kernel
theorem dX8_tell_66 : decode cX8_tell 66 = .ok (.invokevirtual 284, 3) := by decide +kernel
theorem dX8_tell_69 : decode cX8_tell 69 = .ok (.ireturn, 1) := by decide +kernel
set_option maxRecDepth 20000 in
theorem ggX8_ring_X0_has : GoodIn wsX8_ring wsX0_has := goodIn_r _ [6, 7, 23, 24] (by decide +kernel) (by decide +kernel)
set_option maxRecDepth 20000 in
theorem gX8_ring_X0_has : GoodIn wsX8_ring (wsV RX8 92 RX0 yX0_has wsX0_has) := goodIn_app (goodIn_of _ (by decide +kernel)) ggX8_ring_X0_has
set_option maxRecDepth 20000 in
theorem ggX8_ring_X8_leave : GoodIn wsX8_ring wsX8_leave := goodIn_r _ [12, 13, 14, 15, 16, 17, 18, 19, 20, 21, 22] (by decide +kernel) (by decide +kernel)
set_option maxRecDepth 20000 in
theorem gX8_ring_X8_leave : GoodIn wsX8_ring (wsV RX8 287 RX8 yX8_leave wsX8_leave) := goodIn_app (goodIn_of _ (by decide +kernel)) ggX8_ring_X8_leave
theorem dX8_ring_0 : decode cX8_ring 0 = .ok (.aload_n 0, 1) := by decide +kernel
theorem dX8_ring_1 : decode cX8_ring 1 = .ok (.getfield 27, 3) := by decide +kernel
theorem dX8_ring_4 : decode cX8_ring 4 = .ok (.iload_n 1, 1) := by decide +kernel
theorem dX8_ring_5 : decode cX8_ring 5 = .ok (.invokevirtual 92, 3) := by decide +kernel
theorem dX8_ring_8 : decode cX8_ring 8 = .ok (.ifCond .ne 5, 3) := by decide +kernel
theorem dX8_ring_11 : decode cX8_ring 11 = .ok (.iconst (-1), 1) := by decide +kernel
theorem dX8_ring_12 : decode cX8_ring 12 = .ok (.ireturn, 1) := by decide +kernel
theorem dX8_ring_13 : decode cX8_ring 13 = .ok (.aload_n 0, 1) := by decide +kernel
theorem dX8_ring_14 : decode cX8_ring 14 = .ok (.getfield 27, 3) := by decide +kernel
theorem dX8_ring_17 : decode cX8_ring 17 = .ok (.getfield 95, 3) := by decide +kernel
theorem dX8_ring_20 : decode cX8_ring 20 = .ok (.iload_n 1, 1) := by decide +kernel
theorem dX8_ring_21 : decode cX8_ring 21 = .ok (.aaload, 1) := by decide +kernel
theorem dX8_ring_22 : decode cX8_ring 22 = .ok (.getfield 99, 3) := by decide +kernel
theorem dX8_ring_25 : decode cX8_ring 25 = .ok (.iconst 2, 1) := by decide +kernel
theorem dX8_ring_26 : decode cX8_ring 26 = .ok (.if_icmp .ne 11, 3) := by decide +kernel
theorem dX8_ring_29 : decode cX8_ring 29 = .ok (.aload_n 0, 1) := by decide +kernel
theorem dX8_ring_30 : decode cX8_ring 30 = .ok (.iconst 5, 1) := by decide +kernel
theorem dX8_ring_31 : decode cX8_ring 31 = .ok (.invokevirtual 287, 3) := by decide +kernel
theorem dX8_ring_34 : decode cX8_ring 34 = .ok (.bipush 60, 2) := by decide +kernel
theorem dX8_ring_36 : decode cX8_ring 36 = .ok (.ireturn, 1) := by decide +kernel
theorem dX8_ring_37 : decode cX8_ring 37 = .ok (.aload_n 0, 1) := by decide +kernel
theorem dX8_ring_38 : decode cX8_ring 38 = .ok (.iconst 4, 1) := by decide +kernel
theorem dX8_ring_39 : decode cX8_ring 39 = .ok (.invokevirtual 287, 3) := by decide +kernel
theorem dX8_ring_42 : decode cX8_ring 42 = .ok (.iload_n 1, 1) := by decide +kernel
theorem dX8_ring_43 : decode cX8_ring 43 = .ok (.ireturn, 1) := by decide +kernel
set_option maxRecDepth 20000 in
theorem ggX8_as_X0_has : GoodIn wsX8_as wsX0_has := goodIn_r _ [7, 8, 26, 27] (by decide +kernel) (by decide +kernel)
set_option maxRecDepth 20000 in
theorem gX8_as_X0_has : GoodIn wsX8_as (wsV RX8 92 RX0 yX0_has wsX0_has) := goodIn_app (goodIn_of _ (by decide +kernel)) ggX8_as_X0_has
set_option maxRecDepth 20000 in
theorem ggX8_as_X8_isKind : GoodIn wsX8_as wsX8_isKind := goodIn_r _ [12] (by decide +kernel) (by decide +kernel)
set_option maxRecDepth 20000 in
theorem gX8_as_X8_isKind : GoodIn wsX8_as (va_wsS RX8 171 yX8_isKind wsX8_isKind) := goodIn_app (goodIn_of _ (by decide +kernel)) ggX8_as_X8_isKind
set_option maxRecDepth 20000 in
theorem ggX8_as_X8_faulted : GoodIn wsX8_as wsX8_faulted := goodIn_r _ [16, 1, 17, 18, 19, 20, 21, 22, 23, 24, 25] (by decide +kernel) (by decide +kernel)
set_option maxRecDepth 20000 in
theorem gX8_as_X8_faulted : GoodIn wsX8_as (wsV RX8 74 RX8 yX8_faulted wsX8_faulted) := goodIn_app (goodIn_of _ (by decide +kernel)) ggX8_as_X8_faulted
theorem dX8_as_0 : decode cX8_as 0 = .ok (.aload_n 0, 1) := by decide +kernel
theorem dX8_as_1 : decode cX8_as 1 = .ok (.iconst 0, 1) := by decide +kernel
theorem dX8_as_2 : decode cX8_as 2 = .ok (.putfield 59, 3) := by decide +kernel
theorem dX8_as_5 : decode cX8_as 5 = .ok (.aload_n 0, 1) := by decide +kernel
theorem dX8_as_6 : decode cX8_as 6 = .ok (.getfield 27, 3) := by decide +kernel
theorem dX8_as_9 : decode cX8_as 9 = .ok (.iload_n 1, 1) := by decide +kernel
theorem dX8_as_10 : decode cX8_as 10 = .ok (.invokevirtual 92, 3) := by decide +kernel
theorem dX8_as_13 : decode cX8_as 13 = .ok (.ifCond .ne 5, 3) := by decide +kernel
theorem dX8_as_16 : decode cX8_as 16 = .ok (.iconst (-1), 1) := by decide +kernel
theorem dX8_as_17 : decode cX8_as 17 = .ok (.ireturn, 1) := by decide +kernel
theorem dX8_as_18 : decode cX8_as 18 = .ok (.iload_n 2, 1) := by decide +kernel
theorem dX8_as_19 : decode cX8_as 19 = .ok (.invokestatic 171, 3) := by decide +kernel
theorem dX8_as_22 : decode cX8_as 22 = .ok (.ifCond .ne 6, 3) := by decide +kernel
theorem dX8_as_25 : decode cX8_as 25 = .ok (.bipush (-2), 2) := by decide +kernel
theorem dX8_as_27 : decode cX8_as 27 = .ok (.ireturn, 1) := by decide +kernel
theorem dX8_as_28 : decode cX8_as 28 = .ok (.aload_n 0, 1) := by decide +kernel
theorem dX8_as_29 : decode cX8_as 29 = .ok (.getfield 27, 3) := by decide +kernel
theorem dX8_as_32 : decode cX8_as 32 = .ok (.getfield 95, 3) := by decide +kernel
theorem dX8_as_35 : decode cX8_as 35 = .ok (.iload_n 1, 1) := by decide +kernel
theorem dX8_as_36 : decode cX8_as 36 = .ok (.aaload, 1) := by decide +kernel
theorem dX8_as_37 : decode cX8_as 37 = .ok (.getfield 99, 3) := by decide +kernel
theorem dX8_as_40 : decode cX8_as 40 = .ok (.iload_n 2, 1) := by decide +kernel
theorem dX8_as_41 : decode cX8_as 41 = .ok (.if_icmp .lt 7, 3) := by decide +kernel
theorem dX8_as_44 : decode cX8_as 44 = .ok (.iconst 1, 1) := by decide +kernel
theorem dX8_as_45 : decode cX8_as 45 = .ok (.goto 8, 3) := by decide +kernel
theorem dX8_as_48 : decode cX8_as 48 = .ok (.aload_n 0, 1) := by decide +kernel
theorem dX8_as_49 : decode cX8_as 49 = .ok (.iconst 2, 1) := by decide +kernel
theorem dX8_as_50 : decode cX8_as 50 = .ok (.invokevirtual 74, 3) := by decide +kernel
theorem dX8_as_53 : decode cX8_as 53 = .ok (.ireturn, 1) := by decide +kernel
theorem dX8_trace_0 : decode cX8_trace 0 = .ok (.aload_n 0, 1) := by decide +kernel
theorem dX8_trace_1 : decode cX8_trace 1 = .ok (.getfield 56, 3) := by decide +kernel
theorem dX8_trace_4 : decode cX8_trace 4 = .ok (.ireturn, 1) := by decide +kernel
theorem dX8_fault_0 : decode cX8_fault 0 = .ok (.aload_n 0, 1) := by decide +kernel
theorem dX8_fault_1 : decode cX8_fault 1 = .ok (.getfield 59, 3) := by decide +kernel
theorem dX8_fault_4 : decode cX8_fault 4 = .ok (.ireturn, 1) := by decide +kernel
set_option maxRecDepth 20000 in
theorem ggX8_many_X0_countArrived : GoodIn wsX8_many wsX0_countArrived := goodIn_r _ [9, 10, 11, 12, 13, 14, 15, 16, 17, 18, 19, 20, 21, 22, 23, 24, 25, 26, 27, 28, 29, 30, 31, 41, 42, 51, 52, 53, 54, 55, 56, 43, 44, 45, 46] (by decide +kernel) (by decide +kernel)
set_option maxRecDepth 20000 in
theorem gX8_many_X0_countArrived : GoodIn wsX8_many (wsV RX8 151 RX0 yX0_countArrived wsX0_countArrived) := goodIn_app (goodIn_of _ (by decide +kernel)) ggX8_many_X0_countArrived
theorem dX8_many_0 : decode cX8_many 0 = .ok (.iload_n 1, 1) := by decide +kernel
theorem dX8_many_1 : decode cX8_many 1 = .ok (.tableswitch 76 0 4 #[35, 43, 51, 56, 68], 35) := by decide +kernel
theorem dX8_many_36 : decode cX8_many 36 = .ok (.aload_n 0, 1) := by decide +kernel
theorem dX8_many_37 : decode cX8_many 37 = .ok (.getfield 27, 3) := by decide +kernel
theorem dX8_many_40 : decode cX8_many 40 = .ok (.getfield 91, 3) := by decide +kernel
theorem dX8_many_43 : decode cX8_many 43 = .ok (.ireturn, 1) := by decide +kernel
theorem dX8_many_44 : decode cX8_many 44 = .ok (.aload_n 0, 1) := by decide +kernel
theorem dX8_many_45 : decode cX8_many 45 = .ok (.getfield 20, 3) := by decide +kernel
theorem dX8_many_48 : decode cX8_many 48 = .ok (.getfield 236, 3) := by decide +kernel
theorem dX8_many_51 : decode cX8_many 51 = .ok (.ireturn, 1) := by decide +kernel
theorem dX8_many_52 : decode cX8_many 52 = .ok (.aload_n 0, 1) := by decide +kernel
theorem dX8_many_53 : decode cX8_many 53 = .ok (.getfield 52, 3) := by decide +kernel
theorem dX8_many_56 : decode cX8_many 56 = .ok (.ireturn, 1) := by decide +kernel
theorem dX8_many_57 : decode cX8_many 57 = .ok (.aload_n 0, 1) := by decide +kernel
theorem dX8_many_58 : decode cX8_many 58 = .ok (.getfield 27, 3) := by decide +kernel
theorem dX8_many_61 : decode cX8_many 61 = .ok (.aload_n 0, 1) := by decide +kernel
theorem dX8_many_62 : decode cX8_many 62 = .ok (.getfield 20, 3) := by decide +kernel
theorem dX8_many_65 : decode cX8_many 65 = .ok (.invokevirtual 151, 3) := by decide +kernel
theorem dX8_many_68 : decode cX8_many 68 = .ok (.ireturn, 1) := by decide +kernel
theorem dX8_many_69 : decode cX8_many 69 = .ok (.aload_n 0, 1) := by decide +kernel
theorem dX8_many_70 : decode cX8_many 70 = .ok (.getfield 48, 3) := by decide +kernel
theorem dX8_many_73 : decode cX8_many 73 = .ok (.getfield 88, 3) := by decide +kernel
theorem dX8_many_76 : decode cX8_many 76 = .ok (.ireturn, 1) := by decide +kernel
theorem dX8_many_77 : decode cX8_many 77 = .ok (.bipush (-2), 2) := by decide +kernel
theorem dX8_many_79 : decode cX8_many 79 = .ok (.ireturn, 1) := by decide +kernel
theorem dX8_hasTown_0 : decode cX8_hasTown 0 = .ok (.aload_n 0, 1) := by decide +kernel
theorem dX8_hasTown_1 : decode cX8_hasTown 1 = .ok (.getfield 20, 3) := by decide +kernel
theorem dX8_hasTown_4 : decode cX8_hasTown 4 = .ok (.getfield 236, 3) := by decide +kernel
theorem dX8_hasTown_7 : decode cX8_hasTown 7 = .ok (.ifCond .le 7, 3) := by decide +kernel
theorem dX8_hasTown_10 : decode cX8_hasTown 10 = .ok (.iconst 1, 1) := by decide +kernel
theorem dX8_hasTown_11 : decode cX8_hasTown 11 = .ok (.goto 4, 3) := by decide +kernel
theorem dX8_hasTown_14 : decode cX8_hasTown 14 = .ok (.iconst 0, 1) := by decide +kernel
theorem dX8_hasTown_15 : decode cX8_hasTown 15 = .ok (.ireturn, 1) := by decide +kernel
theorem dX8_faulted_0 : decode cX8_faulted 0 = .ok (.aload_n 0, 1) := by decide +kernel
theorem dX8_faulted_1 : decode cX8_faulted 1 = .ok (.iload_n 1, 1) := by decide +kernel
theorem dX8_faulted_2 : decode cX8_faulted 2 = .ok (.putfield 59, 3) := by decide +kernel
theorem dX8_faulted_5 : decode cX8_faulted 5 = .ok (.bipush (-10), 2) := by decide +kernel
theorem dX8_faulted_7 : decode cX8_faulted 7 = .ok (.iload_n 1, 1) := by decide +kernel
theorem dX8_faulted_8 : decode cX8_faulted 8 = .ok (.isub, 1) := by decide +kernel
theorem dX8_faulted_9 : decode cX8_faulted 9 = .ok (.ireturn, 1) := by decide +kernel
theorem dX8_leave_0 : decode cX8_leave 0 = .ok (.aload_n 0, 1) := by decide +kernel
theorem dX8_leave_1 : decode cX8_leave 1 = .ok (.bipush 31, 2) := by decide +kernel
theorem dX8_leave_3 : decode cX8_leave 3 = .ok (.aload_n 0, 1) := by decide +kernel
theorem dX8_leave_4 : decode cX8_leave 4 = .ok (.getfield 56, 3) := by decide +kernel
theorem dX8_leave_7 : decode cX8_leave 7 = .ok (.imul, 1) := by decide +kernel
theorem dX8_leave_8 : decode cX8_leave 8 = .ok (.iload_n 1, 1) := by decide +kernel
theorem dX8_leave_9 : decode cX8_leave 9 = .ok (.iadd, 1) := by decide +kernel
theorem dX8_leave_10 : decode cX8_leave 10 = .ok (.putfield 56, 3) := by decide +kernel
theorem dX8_leave_13 : decode cX8_leave 13 = .ok (.return_, 1) := by decide +kernel
set_option maxRecDepth 20000 in
theorem ggX8_tellBoy_X8_leave : GoodIn wsX8_tellBoy wsX8_leave := goodIn_r _ [5, 6, 13, 14, 15, 16, 17, 18, 19, 20, 21] (by decide +kernel) (by decide +kernel)
set_option maxRecDepth 20000 in
theorem gX8_tellBoy_X8_leave : GoodIn wsX8_tellBoy (wsV RX8 287 RX8 yX8_leave wsX8_leave) := goodIn_app (goodIn_of _ (by decide +kernel)) ggX8_tellBoy_X8_leave
theorem dX8_tellBoy_0 : decode cX8_tellBoy 0 = .ok (.aload_n 0, 1) := by decide +kernel
theorem dX8_tellBoy_1 : decode cX8_tellBoy 1 = .ok (.iconst 1, 1) := by decide +kernel
theorem dX8_tellBoy_2 : decode cX8_tellBoy 2 = .ok (.invokevirtual 287, 3) := by decide +kernel
theorem dX8_tellBoy_5 : decode cX8_tellBoy 5 = .ok (.aload_n 1, 1) := by decide +kernel
theorem dX8_tellBoy_6 : decode cX8_tellBoy 6 = .ok (.getfield 110, 3) := by decide +kernel
theorem dX8_tellBoy_9 : decode cX8_tellBoy 9 = .ok (.ireturn, 1) := by decide +kernel
set_option maxRecDepth 20000 in
theorem ggX8_tellMan_X8_leave : GoodIn wsX8_tellMan wsX8_leave := goodIn_r _ [5, 6, 11, 12, 13, 14, 15, 16, 17, 18, 19] (by decide +kernel) (by decide +kernel)
set_option maxRecDepth 20000 in
theorem gX8_tellMan_X8_leave : GoodIn wsX8_tellMan (wsV RX8 287 RX8 yX8_leave wsX8_leave) := goodIn_app (goodIn_of _ (by decide +kernel)) ggX8_tellMan_X8_leave
set_option maxRecDepth 20000 in
theorem ggX8_tellMan_X8_tellBoy : GoodIn wsX8_tellMan wsX8_tellBoy := goodIn_r _ [10, 1, 2, 3, 4, 5, 6, 20, 21, 22, 23, 24, 25, 11, 12, 13, 14, 15, 16, 17, 18, 19] (by decide +kernel) (by decide +kernel)
set_option maxRecDepth 20000 in
theorem gX8_tellMan_X8_tellBoy : GoodIn wsX8_tellMan (wsV RX8 277 RX8 yX8_tellBoy wsX8_tellBoy) := goodIn_app (goodIn_of _ (by decide +kernel)) ggX8_tellMan_X8_tellBoy
theorem dX8_tellMan_0 : decode cX8_tellMan 0 = .ok (.aload_n 0, 1) := by decide +kernel
theorem dX8_tellMan_1 : decode cX8_tellMan 1 = .ok (.iconst 2, 1) := by decide +kernel
theorem dX8_tellMan_2 : decode cX8_tellMan 2 = .ok (.invokevirtual 287, 3) := by decide +kernel
theorem dX8_tellMan_5 : decode cX8_tellMan 5 = .ok (.aload_n 0, 1) := by decide +kernel
theorem dX8_tellMan_6 : decode cX8_tellMan 6 = .ok (.aload_n 1, 1) := by decide +kernel
theorem dX8_tellMan_7 : decode cX8_tellMan 7 = .ok (.invokevirtual 277, 3) := by decide +kernel
theorem dX8_tellMan_10 : decode cX8_tellMan 10 = .ok (.bipush 100, 2) := by decide +kernel
theorem dX8_tellMan_12 : decode cX8_tellMan 12 = .ok (.iadd, 1) := by decide +kernel
theorem dX8_tellMan_13 : decode cX8_tellMan 13 = .ok (.ireturn, 1) := by decide +kernel
set_option maxRecDepth 20000 in
theorem ggX8_tellPair_X8_leave : GoodIn wsX8_tellPair wsX8_leave := goodIn_r _ [5, 6, 15, 16, 17, 18, 19, 20, 21, 22, 23] (by decide +kernel) (by decide +kernel)
set_option maxRecDepth 20000 in
theorem gX8_tellPair_X8_leave : GoodIn wsX8_tellPair (wsV RX8 287 RX8 yX8_leave wsX8_leave) := goodIn_app (goodIn_of _ (by decide +kernel)) ggX8_tellPair_X8_leave
set_option maxRecDepth 20000 in
theorem ggX8_tellPair_X8_tellMan : GoodIn wsX8_tellPair wsX8_tellMan := goodIn_r _ [10, 1, 2, 3, 4, 5, 6, 11, 12, 13, 14, 15, 16, 17, 18, 19, 20, 21, 22, 23, 24, 25, 26, 27, 28, 29] (by decide +kernel) (by decide +kernel)
set_option maxRecDepth 20000 in
theorem gX8_tellPair_X8_tellMan : GoodIn wsX8_tellPair (wsV RX8 281 RX8 yX8_tellMan wsX8_tellMan) := goodIn_app (goodIn_of _ (by decide +kernel)) ggX8_tellPair_X8_tellMan
set_option maxRecDepth 20000 in
theorem ggX8_tellPair_X8_tellBoy : GoodIn wsX8_tellPair wsX8_tellBoy := goodIn_r _ [14, 1, 2, 3, 4, 5, 6, 24, 25, 26, 27, 28, 29, 15, 16, 17, 18, 19, 20, 21, 22, 23] (by decide +kernel) (by decide +kernel)
set_option maxRecDepth 20000 in
theorem gX8_tellPair_X8_tellBoy : GoodIn wsX8_tellPair (wsV RX8 277 RX8 yX8_tellBoy wsX8_tellBoy) := goodIn_app (goodIn_of _ (by decide +kernel)) ggX8_tellPair_X8_tellBoy
theorem dX8_tellPair_0 : decode cX8_tellPair 0 = .ok (.aload_n 0, 1) := by decide +kernel
theorem dX8_tellPair_1 : decode cX8_tellPair 1 = .ok (.iconst 3, 1) := by decide +kernel
theorem dX8_tellPair_2 : decode cX8_tellPair 2 = .ok (.invokevirtual 287, 3) := by decide +kernel
theorem dX8_tellPair_5 : decode cX8_tellPair 5 = .ok (.aload_n 0, 1) := by decide +kernel
theorem dX8_tellPair_6 : decode cX8_tellPair 6 = .ok (.aload_n 1, 1) := by decide +kernel
theorem dX8_tellPair_7 : decode cX8_tellPair 7 = .ok (.invokevirtual 281, 3) := by decide +kernel
theorem dX8_tellPair_10 : decode cX8_tellPair 10 = .ok (.istore_n 2, 1) := by decide +kernel
theorem dX8_tellPair_11 : decode cX8_tellPair 11 = .ok (.iload_n 2, 1) := by decide +kernel
theorem dX8_tellPair_12 : decode cX8_tellPair 12 = .ok (.aload_n 0, 1) := by decide +kernel
theorem dX8_tellPair_13 : decode cX8_tellPair 13 = .ok (.aload_n 1, 1) := by decide +kernel
theorem dX8_tellPair_14 : decode cX8_tellPair 14 = .ok (.invokevirtual 277, 3) := by decide +kernel
theorem dX8_tellPair_17 : decode cX8_tellPair 17 = .ok (.iadd, 1) := by decide +kernel
theorem dX8_tellPair_18 : decode cX8_tellPair 18 = .ok (.ireturn, 1) := by decide +kernel
theorem dX8_isSheet_0 : decode cX8_isSheet 0 = .ok (.iload_n 0, 1) := by decide +kernel
theorem dX8_isSheet_1 : decode cX8_isSheet 1 = .ok (.ifCond .lt 12, 3) := by decide +kernel
theorem dX8_isSheet_4 : decode cX8_isSheet 4 = .ok (.iload_n 0, 1) := by decide +kernel
theorem dX8_isSheet_5 : decode cX8_isSheet 5 = .ok (.iconst 4, 1) := by decide +kernel
theorem dX8_isSheet_6 : decode cX8_isSheet 6 = .ok (.if_icmp .ge 7, 3) := by decide +kernel
theorem dX8_isSheet_9 : decode cX8_isSheet 9 = .ok (.iconst 1, 1) := by decide +kernel
theorem dX8_isSheet_10 : decode cX8_isSheet 10 = .ok (.goto 4, 3) := by decide +kernel
theorem dX8_isSheet_13 : decode cX8_isSheet 13 = .ok (.iconst 0, 1) := by decide +kernel
theorem dX8_isSheet_14 : decode cX8_isSheet 14 = .ok (.ireturn, 1) := by decide +kernel
theorem dX8_isLane_0 : decode cX8_isLane 0 = .ok (.iload_n 0, 1) := by decide +kernel
theorem dX8_isLane_1 : decode cX8_isLane 1 = .ok (.ifCond .lt 12, 3) := by decide +kernel
theorem dX8_isLane_4 : decode cX8_isLane 4 = .ok (.iload_n 0, 1) := by decide +kernel
theorem dX8_isLane_5 : decode cX8_isLane 5 = .ok (.iconst 2, 1) := by decide +kernel
theorem dX8_isLane_6 : decode cX8_isLane 6 = .ok (.if_icmp .gt 7, 3) := by decide +kernel
theorem dX8_isLane_9 : decode cX8_isLane 9 = .ok (.iconst 1, 1) := by decide +kernel
theorem dX8_isLane_10 : decode cX8_isLane 10 = .ok (.goto 4, 3) := by decide +kernel
theorem dX8_isLane_13 : decode cX8_isLane 13 = .ok (.iconst 0, 1) := by decide +kernel
theorem dX8_isLane_14 : decode cX8_isLane 14 = .ok (.ireturn, 1) := by decide +kernel
theorem dX8_isKind_0 : decode cX8_isKind 0 = .ok (.iload_n 0, 1) := by decide +kernel
theorem dX8_isKind_1 : decode cX8_isKind 1 = .ok (.ifCond .lt 12, 3) := by decide +kernel
theorem dX8_isKind_4 : decode cX8_isKind 4 = .ok (.iload_n 0, 1) := by decide +kernel
theorem dX8_isKind_5 : decode cX8_isKind 5 = .ok (.iconst 2, 1) := by decide +kernel
theorem dX8_isKind_6 : decode cX8_isKind 6 = .ok (.if_icmp .gt 7, 3) := by decide +kernel
theorem dX8_isKind_9 : decode cX8_isKind 9 = .ok (.iconst 1, 1) := by decide +kernel
theorem dX8_isKind_10 : decode cX8_isKind 10 = .ok (.goto 4, 3) := by decide +kernel
theorem dX8_isKind_13 : decode cX8_isKind 13 = .ok (.iconst 0, 1) := by decide +kernel
theorem dX8_isKind_14 : decode cX8_isKind 14 = .ok (.ireturn, 1) := by decide +kernel
theorem dX8_paceOf_0 : decode cX8_paceOf 0 = .ok (.iload_n 0, 1) := by decide +kernel
theorem dX8_paceOf_1 : decode cX8_paceOf 1 = .ok (.lookupswitch 33 #[(0, 27), (1, 29)], 27) := by decide +kernel
theorem dX8_paceOf_28 : decode cX8_paceOf 28 = .ok (.iload_n 1, 1) := by decide +kernel
theorem dX8_paceOf_29 : decode cX8_paceOf 29 = .ok (.ireturn, 1) := by decide +kernel
theorem dX8_paceOf_30 : decode cX8_paceOf 30 = .ok (.iload_n 1, 1) := by decide +kernel
theorem dX8_paceOf_31 : decode cX8_paceOf 31 = .ok (.iconst 1, 1) := by decide +kernel
theorem dX8_paceOf_32 : decode cX8_paceOf 32 = .ok (.iadd, 1) := by decide +kernel
theorem dX8_paceOf_33 : decode cX8_paceOf 33 = .ok (.ireturn, 1) := by decide +kernel
theorem dX8_paceOf_34 : decode cX8_paceOf 34 = .ok (.iload_n 1, 1) := by decide +kernel
theorem dX8_paceOf_35 : decode cX8_paceOf 35 = .ok (.iconst 1, 1) := by decide +kernel
theorem dX8_paceOf_36 : decode cX8_paceOf 36 = .ok (.iadd, 1) := by decide +kernel
theorem dX8_paceOf_37 : decode cX8_paceOf 37 = .ok (.iconst 2, 1) := by decide +kernel
theorem dX8_paceOf_38 : decode cX8_paceOf 38 = .ok (.idiv, 1) := by decide +kernel
theorem dX8_paceOf_39 : decode cX8_paceOf 39 = .ok (.ireturn, 1) := by decide +kernel
theorem dX8_daysFor_0 : decode cX8_daysFor 0 = .ok (.iload_n 0, 1) := by decide +kernel
theorem dX8_daysFor_1 : decode cX8_daysFor 1 = .ok (.ifCond .gt 5, 3) := by decide +kernel
theorem dX8_daysFor_4 : decode cX8_daysFor 4 = .ok (.iconst 0, 1) := by decide +kernel
theorem dX8_daysFor_5 : decode cX8_daysFor 5 = .ok (.ireturn, 1) := by decide +kernel
theorem dX8_daysFor_6 : decode cX8_daysFor 6 = .ok (.iload_n 1, 1) := by decide +kernel
theorem dX8_daysFor_7 : decode cX8_daysFor 7 = .ok (.iconst 1, 1) := by decide +kernel
theorem dX8_daysFor_8 : decode cX8_daysFor 8 = .ok (.if_icmp .ge 7, 3) := by decide +kernel
theorem dX8_daysFor_11 : decode cX8_daysFor 11 = .ok (.ldc_w 291, 3) := by decide +kernel
theorem dX8_daysFor_14 : decode cX8_daysFor 14 = .ok (.ireturn, 1) := by decide +kernel
theorem dX8_daysFor_15 : decode cX8_daysFor 15 = .ok (.iload_n 0, 1) := by decide +kernel
theorem dX8_daysFor_16 : decode cX8_daysFor 16 = .ok (.iload_n 1, 1) := by decide +kernel
theorem dX8_daysFor_17 : decode cX8_daysFor 17 = .ok (.iadd, 1) := by decide +kernel
theorem dX8_daysFor_18 : decode cX8_daysFor 18 = .ok (.iconst 1, 1) := by decide +kernel
theorem dX8_daysFor_19 : decode cX8_daysFor 19 = .ok (.isub, 1) := by decide +kernel
theorem dX8_daysFor_20 : decode cX8_daysFor 20 = .ok (.iload_n 1, 1) := by decide +kernel
theorem dX8_daysFor_21 : decode cX8_daysFor 21 = .ok (.idiv, 1) := by decide +kernel
theorem dX8_daysFor_22 : decode cX8_daysFor 22 = .ok (.ireturn, 1) := by decide +kernel
theorem dX8_commonPart_0 : decode cX8_commonPart 0 = .ok (.iload_n 1, 1) := by decide +kernel
theorem dX8_commonPart_1 : decode cX8_commonPart 1 = .ok (.istore_n 2, 1) := by decide +kernel
theorem dX8_commonPart_2 : decode cX8_commonPart 2 = .ok (.iload_n 2, 1) := by decide +kernel
theorem dX8_commonPart_3 : decode cX8_commonPart 3 = .ok (.iconst 1, 1) := by decide +kernel
theorem dX8_commonPart_4 : decode cX8_commonPart 4 = .ok (.if_icmp .le 23, 3) := by decide +kernel
theorem dX8_commonPart_7 : decode cX8_commonPart 7 = .ok (.iload_n 0, 1) := by decide +kernel
theorem dX8_commonPart_8 : decode cX8_commonPart 8 = .ok (.iload_n 2, 1) := by decide +kernel
theorem dX8_commonPart_9 : decode cX8_commonPart 9 = .ok (.irem, 1) := by decide +kernel
theorem dX8_commonPart_10 : decode cX8_commonPart 10 = .ok (.ifCond .ne 11, 3) := by decide +kernel
theorem dX8_commonPart_13 : decode cX8_commonPart 13 = .ok (.iload_n 1, 1) := by decide +kernel
theorem dX8_commonPart_14 : decode cX8_commonPart 14 = .ok (.iload_n 2, 1) := by decide +kernel
theorem dX8_commonPart_15 : decode cX8_commonPart 15 = .ok (.irem, 1) := by decide +kernel
theorem dX8_commonPart_16 : decode cX8_commonPart 16 = .ok (.ifCond .ne 5, 3) := by decide +kernel
theorem dX8_commonPart_19 : decode cX8_commonPart 19 = .ok (.iload_n 2, 1) := by decide +kernel
theorem dX8_commonPart_20 : decode cX8_commonPart 20 = .ok (.ireturn, 1) := by decide +kernel
theorem dX8_commonPart_21 : decode cX8_commonPart 21 = .ok (.iinc 2 (-1), 3) := by decide +kernel
theorem dX8_commonPart_24 : decode cX8_commonPart 24 = .ok (.goto (-22), 3) := by decide +kernel
theorem dX8_commonPart_27 : decode cX8_commonPart 27 = .ok (.iconst 1, 1) := by decide +kernel
theorem dX8_commonPart_28 : decode cX8_commonPart 28 = .ok (.ireturn, 1) := by decide +kernel
theorem dX9_init_0 : decode cX9_init 0 = .ok (.aload_n 0, 1) := by decide +kernel
theorem dX9_init_1 : decode cX9_init 1 = .ok (.invokespecial 1, 3) := by decide +kernel
theorem dX9_init_4 : decode cX9_init 4 = .ok (.aload_n 0, 1) := by decide +kernel
theorem dX9_init_5 : decode cX9_init 5 = .ok (.bipush 36, 2) := by decide +kernel
theorem dX9_init_7 : decode cX9_init 7 = .ok (.newarray .int, 2) := by decide +kernel
theorem dX9_init_9 : decode cX9_init 9 = .ok (.putfield 7, 3) := by decide +kernel
theorem dX9_init_12 : decode cX9_init 12 = .ok (.aload_n 0, 1) := by decide +kernel
theorem dX9_init_13 : decode cX9_init 13 = .ok (.bipush 36, 2) := by decide +kernel
theorem dX9_init_15 : decode cX9_init 15 = .ok (.newarray .int, 2) := by decide +kernel
theorem dX9_init_17 : decode cX9_init 17 = .ok (.putfield 13, 3) := by decide +kernel
theorem dX9_init_20 : decode cX9_init 20 = .ok (.aload_n 0, 1) := by decide +kernel
theorem dX9_init_21 : decode cX9_init 21 = .ok (.bipush 6, 2) := by decide +kernel
theorem dX9_init_23 : decode cX9_init 23 = .ok (.newarray .int, 2) := by decide +kernel
theorem dX9_init_25 : decode cX9_init 25 = .ok (.putfield 16, 3) := by decide +kernel
theorem dX9_init_28 : decode cX9_init 28 = .ok (.aload_n 0, 1) := by decide +kernel
theorem dX9_init_29 : decode cX9_init 29 = .ok (.bipush 6, 2) := by decide +kernel
theorem dX9_init_31 : decode cX9_init 31 = .ok (.newarray .int, 2) := by decide +kernel
theorem dX9_init_33 : decode cX9_init 33 = .ok (.putfield 19, 3) := by decide +kernel
theorem dX9_init_36 : decode cX9_init 36 = .ok (.aload_n 0, 1) := by decide +kernel
theorem dX9_init_37 : decode cX9_init 37 = .ok (.bipush 6, 2) := by decide +kernel
theorem dX9_init_39 : decode cX9_init 39 = .ok (.newarray .int, 2) := by decide +kernel
theorem dX9_init_41 : decode cX9_init 41 = .ok (.putfield 22, 3) := by decide +kernel
theorem dX9_init_44 : decode cX9_init 44 = .ok (.aload_n 0, 1) := by decide +kernel
theorem dX9_init_45 : decode cX9_init 45 = .ok (.bipush 6, 2) := by decide +kernel
theorem dX9_init_47 : decode cX9_init 47 = .ok (.newarray .int, 2) := by decide +kernel
theorem dX9_init_49 : decode cX9_init 49 = .ok (.putfield 25, 3) := by decide +kernel
theorem dX9_init_52 : decode cX9_init 52 = .ok (.aload_n 0, 1) := by decide +kernel
theorem dX9_init_53 : decode cX9_init 53 = .ok (.bipush 6, 2) := by decide +kernel
theorem dX9_init_55 : decode cX9_init 55 = .ok (.newarray .int, 2) := by decide +kernel
theorem dX9_init_57 : decode cX9_init 57 = .ok (.putfield 28, 3) := by decide +kernel
theorem dX9_init_60 : decode cX9_init 60 = .ok (.aload_n 0, 1) := by decide +kernel
theorem dX9_init_61 : decode cX9_init 61 = .ok (.bipush 36, 2) := by decide +kernel
theorem dX9_init_63 : decode cX9_init 63 = .ok (.newarray .int, 2) := by decide +kernel
theorem dX9_init_65 : decode cX9_init 65 = .ok (.putfield 31, 3) := by decide +kernel
theorem dX9_init_68 : decode cX9_init 68 = .ok (.aload_n 0, 1) := by decide +kernel
theorem dX9_init_69 : decode cX9_init 69 = .ok (.bipush 6, 2) := by decide +kernel
theorem dX9_init_71 : decode cX9_init 71 = .ok (.newarray .int, 2) := by decide +kernel
theorem dX9_init_73 : decode cX9_init 73 = .ok (.putfield 34, 3) := by decide +kernel
theorem dX9_init_76 : decode cX9_init 76 = .ok (.aload_n 0, 1) := by decide +kernel
theorem dX9_init_77 : decode cX9_init 77 = .ok (.bipush 6, 2) := by decide +kernel
theorem dX9_init_79 : decode cX9_init 79 = .ok (.newarray .int, 2) := by decide +kernel
theorem dX9_init_81 : decode cX9_init 81 = .ok (.putfield 37, 3) := by decide +kernel
theorem dX9_init_84 : decode cX9_init 84 = .ok (.aload_n 0, 1) := by decide +kernel
theorem dX9_init_85 : decode cX9_init 85 = .ok (.bipush 6, 2) := by decide +kernel
theorem dX9_init_87 : decode cX9_init 87 = .ok (.newarray .int, 2) := by decide +kernel
theorem dX9_init_89 : decode cX9_init 89 = .ok (.putfield 40, 3) := by decide +kernel
theorem dX9_init_92 : decode cX9_init 92 = .ok (.aload_n 0, 1) := by decide +kernel
theorem dX9_init_93 : decode cX9_init 93 = .ok (.bipush 6, 2) := by decide +kernel
theorem dX9_init_95 : decode cX9_init 95 = .ok (.newarray .int, 2) := by decide +kernel
theorem dX9_init_97 : decode cX9_init 97 = .ok (.putfield 43, 3) := by decide +kernel
theorem dX9_init_100 : decode cX9_init 100 = .ok (.aload_n 0, 1) := by decide +kernel
theorem dX9_init_101 : decode cX9_init 101 = .ok (.bipush 6, 2) := by decide +kernel
theorem dX9_init_103 : decode cX9_init 103 = .ok (.newarray .int, 2) := by decide +kernel
theorem dX9_init_105 : decode cX9_init 105 = .ok (.putfield 46, 3) := by decide +kernel
theorem dX9_init_108 : decode cX9_init 108 = .ok (.aload_n 0, 1) := by decide +kernel
theorem dX9_init_109 : decode cX9_init 109 = .ok (.bipush 6, 2) := by decide +kernel
theorem dX9_init_111 : decode cX9_init 111 = .ok (.newarray .int, 2) := by decide +kernel
theorem dX9_init_113 : decode cX9_init 113 = .ok (.putfield 49, 3) := by decide +kernel
theorem dX9_init_116 : decode cX9_init 116 = .ok (.aload_n 0, 1) := by decide +kernel
theorem dX9_init_117 : decode cX9_init 117 = .ok (.bipush 6, 2) := by decide +kernel
theorem dX9_init_119 : decode cX9_init 119 = .ok (.newarray .int, 2) := by decide +kernel
theorem dX9_init_121 : decode cX9_init 121 = .ok (.putfield 52, 3) := by decide +kernel
theorem dX9_init_124 : decode cX9_init 124 = .ok (.aload_n 0, 1) := by decide +kernel
theorem dX9_init_125 : decode cX9_init 125 = .ok (.bipush 6, 2) := by decide +kernel
theorem dX9_init_127 : decode cX9_init 127 = .ok (.newarray .int, 2) := by decide +kernel
theorem dX9_init_129 : decode cX9_init 129 = .ok (.putfield 55, 3) := by decide +kernel
theorem dX9_init_132 : decode cX9_init 132 = .ok (.aload_n 0, 1) := by decide +kernel
theorem dX9_init_133 : decode cX9_init 133 = .ok (.bipush 6, 2) := by decide +kernel
theorem dX9_init_135 : decode cX9_init 135 = .ok (.newarray .int, 2) := by decide +kernel
theorem dX9_init_137 : decode cX9_init 137 = .ok (.putfield 58, 3) := by decide +kernel
theorem dX9_init_140 : decode cX9_init 140 = .ok (.aload_n 0, 1) := by decide +kernel
theorem dX9_init_141 : decode cX9_init 141 = .ok (.bipush 8, 2) := by decide +kernel
theorem dX9_init_143 : decode cX9_init 143 = .ok (.newarray .int, 2) := by decide +kernel
theorem dX9_init_145 : decode cX9_init 145 = .ok (.putfield 61, 3) := by decide +kernel
theorem dX9_init_148 : decode cX9_init 148 = .ok (.aload_n 0, 1) := by decide +kernel
theorem dX9_init_149 : decode cX9_init 149 = .ok (.bipush 8, 2) := by decide +kernel
theorem dX9_init_151 : decode cX9_init 151 = .ok (.newarray .int, 2) := by decide +kernel
theorem dX9_init_153 : decode cX9_init 153 = .ok (.putfield 64, 3) := by decide +kernel
theorem dX9_init_156 : decode cX9_init 156 = .ok (.aload_n 0, 1) := by decide +kernel
theorem dX9_init_157 : decode cX9_init 157 = .ok (.bipush 8, 2) := by decide +kernel
theorem dX9_init_159 : decode cX9_init 159 = .ok (.newarray .int, 2) := by decide +kernel
theorem dX9_init_161 : decode cX9_init 161 = .ok (.putfield 67, 3) := by decide +kernel
theorem dX9_init_164 : decode cX9_init 164 = .ok (.aload_n 0, 1) := by decide +kernel
theorem dX9_init_165 : decode cX9_init 165 = .ok (.iconst 4, 1) := by decide +kernel
theorem dX9_init_166 : decode cX9_init 166 = .ok (.newarray .int, 2) := by decide +kernel
theorem dX9_init_168 : decode cX9_init 168 = .ok (.putfield 70, 3) := by decide +kernel
theorem dX9_init_171 : decode cX9_init 171 = .ok (.aload_n 0, 1) := by decide +kernel
theorem dX9_init_172 : decode cX9_init 172 = .ok (.iconst 4, 1) := by decide +kernel
theorem dX9_init_173 : decode cX9_init 173 = .ok (.newarray .int, 2) := by decide +kernel
theorem dX9_init_175 : decode cX9_init 175 = .ok (.putfield 73, 3) := by decide +kernel
theorem dX9_init_178 : decode cX9_init 178 = .ok (.aload_n 0, 1) := by decide +kernel
theorem dX9_init_179 : decode cX9_init 179 = .ok (.sipush 240, 3) := by decide +kernel
theorem dX9_init_182 : decode cX9_init 182 = .ok (.newarray .int, 2) := by decide +kernel
theorem dX9_init_184 : decode cX9_init 184 = .ok (.putfield 76, 3) := by decide +kernel
theorem dX9_init_187 : decode cX9_init 187 = .ok (.aload_n 0, 1) := by decide +kernel
theorem dX9_init_188 : decode cX9_init 188 = .ok (.bipush 60, 2) := by decide +kernel
theorem dX9_init_190 : decode cX9_init 190 = .ok (.newarray .int, 2) := by decide +kernel
theorem dX9_init_192 : decode cX9_init 192 = .ok (.putfield 79, 3) := by decide +kernel
theorem dX9_init_195 : decode cX9_init 195 = .ok (.iconst 0, 1) := by decide +kernel
theorem dX9_init_196 : decode cX9_init 196 = .ok (.istore_n 1, 1) := by decide +kernel
theorem dX9_init_197 : decode cX9_init 197 = .ok (.iload_n 1, 1) := by decide +kernel
theorem dX9_init_198 : decode cX9_init 198 = .ok (.iconst 4, 1) := by decide +kernel
theorem dX9_init_199 : decode cX9_init 199 = .ok (.if_icmp .ge 16, 3) := by decide +kernel
theorem dX9_init_202 : decode cX9_init 202 = .ok (.aload_n 0, 1) := by decide +kernel
theorem dX9_init_203 : decode cX9_init 203 = .ok (.getfield 70, 3) := by decide +kernel
theorem dX9_init_206 : decode cX9_init 206 = .ok (.iload_n 1, 1) := by decide +kernel
theorem dX9_init_207 : decode cX9_init 207 = .ok (.iconst (-1), 1) := by decide +kernel
theorem dX9_init_208 : decode cX9_init 208 = .ok (.iastore, 1) := by decide +kernel
theorem dX9_init_209 : decode cX9_init 209 = .ok (.iinc 1 1, 3) := by decide +kernel
theorem dX9_init_212 : decode cX9_init 212 = .ok (.goto (-15), 3) := by decide +kernel
theorem dX9_init_215 : decode cX9_init 215 = .ok (.return_, 1) := by decide +kernel
theorem dX9_in_0 : decode cX9_in 0 = .ok (.lload_n 0, 1) := by decide +kernel
theorem dX9_in_1 : decode cX9_in 1 = .ok (.lload_n 2, 1) := by decide +kernel
theorem dX9_in_2 : decode cX9_in 2 = .ok (.lcmp, 1) := by decide +kernel
theorem dX9_in_3 : decode cX9_in 3 = .ok (.ifCond .lt 14, 3) := by decide +kernel
theorem dX9_in_6 : decode cX9_in 6 = .ok (.lload_n 0, 1) := by decide +kernel
theorem dX9_in_7 : decode cX9_in 7 = .ok (.lload 4, 2) := by decide +kernel
theorem dX9_in_9 : decode cX9_in 9 = .ok (.lcmp, 1) := by decide +kernel
theorem dX9_in_10 : decode cX9_in 10 = .ok (.ifCond .gt 7, 3) := by decide +kernel
theorem dX9_in_13 : decode cX9_in 13 = .ok (.iconst 1, 1) := by decide +kernel
theorem dX9_in_14 : decode cX9_in 14 = .ok (.goto 4, 3) := by decide +kernel
theorem dX9_in_17 : decode cX9_in 17 = .ok (.iconst 0, 1) := by decide +kernel
theorem dX9_in_18 : decode cX9_in 18 = .ok (.ireturn, 1) := by decide +kernel
theorem dX9_lost_0 : decode cX9_lost 0 = .ok (.ldc2_w 82, 3) := by decide +kernel
theorem dX9_lost_3 : decode cX9_lost 3 = .ok (.lreturn, 1) := by decide +kernel
theorem dX9_isIn_0 : decode cX9_isIn 0 = .ok (.iload_n 0, 1) := by decide +kernel
theorem dX9_isIn_1 : decode cX9_isIn 1 = .ok (.iload_n 1, 1) := by decide +kernel
theorem dX9_isIn_2 : decode cX9_isIn 2 = .ok (.ishr, 1) := by decide +kernel
theorem dX9_isIn_3 : decode cX9_isIn 3 = .ok (.iconst 1, 1) := by decide +kernel
theorem dX9_isIn_4 : decode cX9_isIn 4 = .ok (.iand, 1) := by decide +kernel
theorem dX9_isIn_5 : decode cX9_isIn 5 = .ok (.iconst 1, 1) := by decide +kernel
theorem dX9_isIn_6 : decode cX9_isIn 6 = .ok (.if_icmp .ne 7, 3) := by decide +kernel
theorem dX9_isIn_9 : decode cX9_isIn 9 = .ok (.iconst 1, 1) := by decide +kernel
theorem dX9_isIn_10 : decode cX9_isIn 10 = .ok (.goto 4, 3) := by decide +kernel
theorem dX9_isIn_13 : decode cX9_isIn 13 = .ok (.iconst 0, 1) := by decide +kernel
theorem dX9_isIn_14 : decode cX9_isIn 14 = .ok (.ireturn, 1) := by decide +kernel
theorem dX9_bits_0 : decode cX9_bits 0 = .ok (.iconst 0, 1) := by decide +kernel
theorem dX9_bits_1 : decode cX9_bits 1 = .ok (.istore_n 1, 1) := by decide +kernel
theorem dX9_bits_2 : decode cX9_bits 2 = .ok (.iload_n 0, 1) := by decide +kernel
theorem dX9_bits_3 : decode cX9_bits 3 = .ok (.istore_n 2, 1) := by decide +kernel
theorem dX9_bits_4 : decode cX9_bits 4 = .ok (.iload_n 2, 1) := by decide +kernel
theorem dX9_bits_5 : decode cX9_bits 5 = .ok (.ifCond .le 16, 3) := by decide +kernel
theorem dX9_bits_8 : decode cX9_bits 8 = .ok (.iload_n 1, 1) := by decide +kernel
theorem dX9_bits_9 : decode cX9_bits 9 = .ok (.iload_n 2, 1) := by decide +kernel
theorem dX9_bits_10 : decode cX9_bits 10 = .ok (.iconst 1, 1) := by decide +kernel
theorem dX9_bits_11 : decode cX9_bits 11 = .ok (.iand, 1) := by decide +kernel
theorem dX9_bits_12 : decode cX9_bits 12 = .ok (.iadd, 1) := by decide +kernel
theorem dX9_bits_13 : decode cX9_bits 13 = .ok (.istore_n 1, 1) := by decide +kernel
theorem dX9_bits_14 : decode cX9_bits 14 = .ok (.iload_n 2, 1) := by decide +kernel
theorem dX9_bits_15 : decode cX9_bits 15 = .ok (.iconst 1, 1) := by decide +kernel
theorem dX9_bits_16 : decode cX9_bits 16 = .ok (.ishr, 1) := by decide +kernel
theorem dX9_bits_17 : decode cX9_bits 17 = .ok (.istore_n 2, 1) := by decide +kernel
theorem dX9_bits_18 : decode cX9_bits 18 = .ok (.goto (-14), 3) := by decide +kernel
theorem dX9_bits_21 : decode cX9_bits 21 = .ok (.iload_n 1, 1) := by decide +kernel
theorem dX9_bits_22 : decode cX9_bits 22 = .ok (.ireturn, 1) := by decide +kernel
theorem dX9_share_0 : decode cX9_share 0 = .ok (.lload_n 0, 1) := by decide +kernel
theorem dX9_share_1 : decode cX9_share 1 = .ok (.lstore 5, 2) := by decide +kernel
theorem dX9_share_3 : decode cX9_share 3 = .ok (.lload_n 2, 1) := by decide +kernel
theorem dX9_share_4 : decode cX9_share 4 = .ok (.lstore 7, 2) := by decide +kernel
theorem dX9_share_6 : decode cX9_share 6 = .ok (.lload 7, 2) := by decide +kernel
theorem dX9_share_8 : decode cX9_share 8 = .ok (.lconst 0, 1) := by decide +kernel
theorem dX9_share_9 : decode cX9_share 9 = .ok (.lcmp, 1) := by decide +kernel
theorem dX9_share_10 : decode cX9_share 10 = .ok (.ifCond .eq 21, 3) := by decide +kernel
theorem dX9_share_13 : decode cX9_share 13 = .ok (.lload 5, 2) := by decide +kernel
theorem dX9_share_15 : decode cX9_share 15 = .ok (.lload 7, 2) := by decide +kernel
theorem dX9_share_17 : decode cX9_share 17 = .ok (.lrem, 1) := by decide +kernel
theorem dX9_share_18 : decode cX9_share 18 = .ok (.lstore 9, 2) := by decide +kernel
theorem dX9_share_20 : decode cX9_share 20 = .ok (.lload 7, 2) := by decide +kernel
theorem dX9_share_22 : decode cX9_share 22 = .ok (.lstore 5, 2) := by decide +kernel
theorem dX9_share_24 : decode cX9_share 24 = .ok (.lload 9, 2) := by decide +kernel
theorem dX9_share_26 : decode cX9_share 26 = .ok (.lstore 7, 2) := by decide +kernel
theorem dX9_share_28 : decode cX9_share 28 = .ok (.goto (-22), 3) := by decide +kernel
theorem dX9_share_31 : decode cX9_share 31 = .ok (.iload 4, 2) := by decide +kernel
theorem dX9_share_33 : decode cX9_share 33 = .ok (.ifCond .ne 7, 3) := by decide +kernel
theorem dX9_share_36 : decode cX9_share 36 = .ok (.lload_n 0, 1) := by decide +kernel
theorem dX9_share_37 : decode cX9_share 37 = .ok (.goto 4, 3) := by decide +kernel
theorem dX9_share_40 : decode cX9_share 40 = .ok (.lload_n 2, 1) := by decide +kernel
theorem dX9_share_41 : decode cX9_share 41 = .ok (.lload 5, 2) := by decide +kernel
theorem dX9_share_43 : decode cX9_share 43 = .ok (.ldiv, 1) := by decide +kernel
theorem dX9_share_44 : decode cX9_share 44 = .ok (.lreturn, 1) := by decide +kernel
theorem dX9_refused_0 : decode cX9_refused 0 = .ok (.aload_n 0, 1) := by decide +kernel
theorem dX9_refused_1 : decode cX9_refused 1 = .ok (.iconst 0, 1) := by decide +kernel
theorem dX9_refused_2 : decode cX9_refused 2 = .ok (.putfield 84, 3) := by decide +kernel
theorem dX9_refused_5 : decode cX9_refused 5 = .ok (.iload_n 1, 1) := by decide +kernel
theorem dX9_refused_6 : decode cX9_refused 6 = .ok (.ireturn, 1) := by decide +kernel
theorem dX9_failed_0 : decode cX9_failed 0 = .ok (.aload_n 0, 1) := by decide +kernel
theorem dX9_failed_1 : decode cX9_failed 1 = .ok (.iload_n 1, 1) := by decide +kernel
theorem dX9_failed_2 : decode cX9_failed 2 = .ok (.putfield 84, 3) := by decide +kernel
theorem dX9_failed_5 : decode cX9_failed 5 = .ok (.bipush (-10), 2) := by decide +kernel
theorem dX9_failed_7 : decode cX9_failed 7 = .ok (.iload_n 1, 1) := by decide +kernel
theorem dX9_failed_8 : decode cX9_failed 8 = .ok (.isub, 1) := by decide +kernel
theorem dX9_failed_9 : decode cX9_failed 9 = .ok (.ireturn, 1) := by decide +kernel
set_option maxRecDepth 20000 in
theorem ggX9_failedLong_X9_lost : GoodIn wsX9_failedLong wsX9_lost := goodIn_r _ [5, 6] (by decide +kernel) (by decide +kernel)
set_option maxRecDepth 20000 in
theorem gX9_failedLong_X9_lost : GoodIn wsX9_failedLong (va_wsS RX9 88 yX9_lost wsX9_lost) := goodIn_app (goodIn_of _ (by decide +kernel)) ggX9_failedLong_X9_lost
theorem dX9_failedLong_0 : decode cX9_failedLong 0 = .ok (.aload_n 0, 1) := by decide +kernel
theorem dX9_failedLong_1 : decode cX9_failedLong 1 = .ok (.iload_n 1, 1) := by decide +kernel
theorem dX9_failedLong_2 : decode cX9_failedLong 2 = .ok (.putfield 84, 3) := by decide +kernel
theorem dX9_failedLong_5 : decode cX9_failedLong 5 = .ok (.invokestatic 88, 3) := by decide +kernel
theorem dX9_failedLong_8 : decode cX9_failedLong 8 = .ok (.lreturn, 1) := by decide +kernel
set_option maxRecDepth 20000 in
theorem ggX9_noFootman_X9_in : GoodIn wsX9_noFootman wsX9_in := goodIn_r _ [5] (by decide +kernel) (by decide +kernel)
set_option maxRecDepth 20000 in
theorem gX9_noFootman_X9_in : GoodIn wsX9_noFootman (va_wsS RX9 95 yX9_in wsX9_in) := goodIn_app (goodIn_of _ (by decide +kernel)) ggX9_noFootman_X9_in
theorem dX9_noFootman_0 : decode cX9_noFootman 0 = .ok (.iload_n 1, 1) := by decide +kernel
theorem dX9_noFootman_1 : decode cX9_noFootman 1 = .ok (.i2l, 1) := by decide +kernel
theorem dX9_noFootman_2 : decode cX9_noFootman 2 = .ok (.lconst 0, 1) := by decide +kernel
theorem dX9_noFootman_3 : decode cX9_noFootman 3 = .ok (.aload_n 0, 1) := by decide +kernel
theorem dX9_noFootman_4 : decode cX9_noFootman 4 = .ok (.getfield 92, 3) := by decide +kernel
theorem dX9_noFootman_7 : decode cX9_noFootman 7 = .ok (.i2l, 1) := by decide +kernel
theorem dX9_noFootman_8 : decode cX9_noFootman 8 = .ok (.lconst 1, 1) := by decide +kernel
theorem dX9_noFootman_9 : decode cX9_noFootman 9 = .ok (.lsub, 1) := by decide +kernel
theorem dX9_noFootman_10 : decode cX9_noFootman 10 = .ok (.invokestatic 95, 3) := by decide +kernel
theorem dX9_noFootman_13 : decode cX9_noFootman 13 = .ok (.ifCond .ne 7, 3) := by decide +kernel
theorem dX9_noFootman_16 : decode cX9_noFootman 16 = .ok (.iconst 1, 1) := by decide +kernel
theorem dX9_noFootman_17 : decode cX9_noFootman 17 = .ok (.goto 4, 3) := by decide +kernel
theorem dX9_noFootman_20 : decode cX9_noFootman 20 = .ok (.iconst 0, 1) := by decide +kernel
theorem dX9_noFootman_21 : decode cX9_noFootman 21 = .ok (.ireturn, 1) := by decide +kernel
set_option maxRecDepth 20000 in
theorem ggX9_noCorner_X9_in : GoodIn wsX9_noCorner wsX9_in := goodIn_r _ [5] (by decide +kernel) (by decide +kernel)
set_option maxRecDepth 20000 in
theorem gX9_noCorner_X9_in : GoodIn wsX9_noCorner (va_wsS RX9 95 yX9_in wsX9_in) := goodIn_app (goodIn_of _ (by decide +kernel)) ggX9_noCorner_X9_in
theorem dX9_noCorner_0 : decode cX9_noCorner 0 = .ok (.iload_n 1, 1) := by decide +kernel
theorem dX9_noCorner_1 : decode cX9_noCorner 1 = .ok (.i2l, 1) := by decide +kernel
theorem dX9_noCorner_2 : decode cX9_noCorner 2 = .ok (.lconst 0, 1) := by decide +kernel
theorem dX9_noCorner_3 : decode cX9_noCorner 3 = .ok (.aload_n 0, 1) := by decide +kernel
theorem dX9_noCorner_4 : decode cX9_noCorner 4 = .ok (.getfield 99, 3) := by decide +kernel
theorem dX9_noCorner_7 : decode cX9_noCorner 7 = .ok (.i2l, 1) := by decide +kernel
theorem dX9_noCorner_8 : decode cX9_noCorner 8 = .ok (.lconst 1, 1) := by decide +kernel
theorem dX9_noCorner_9 : decode cX9_noCorner 9 = .ok (.lsub, 1) := by decide +kernel
theorem dX9_noCorner_10 : decode cX9_noCorner 10 = .ok (.invokestatic 95, 3) := by decide +kernel
theorem dX9_noCorner_13 : decode cX9_noCorner 13 = .ok (.ifCond .ne 7, 3) := by decide +kernel
theorem dX9_noCorner_16 : decode cX9_noCorner 16 = .ok (.iconst 1, 1) := by decide +kernel
theorem dX9_noCorner_17 : decode cX9_noCorner 17 = .ok (.goto 4, 3) := by decide +kernel
theorem dX9_noCorner_20 : decode cX9_noCorner 20 = .ok (.iconst 0, 1) := by decide +kernel
theorem dX9_noCorner_21 : decode cX9_noCorner 21 = .ok (.ireturn, 1) := by decide +kernel
theorem dX9_codeAt_0 : decode cX9_codeAt 0 = .ok (.aload_n 0, 1) := by decide +kernel
theorem dX9_codeAt_1 : decode cX9_codeAt 1 = .ok (.getfield 102, 3) := by decide +kernel
theorem dX9_codeAt_4 : decode cX9_codeAt 4 = .ok (.iload_n 2, 1) := by decide +kernel
theorem dX9_codeAt_5 : decode cX9_codeAt 5 = .ok (.if_icmp .ge 17, 3) := by decide +kernel
theorem dX9_codeAt_8 : decode cX9_codeAt 8 = .ok (.aload_n 0, 1) := by decide +kernel
theorem dX9_codeAt_9 : decode cX9_codeAt 9 = .ok (.getfield 76, 3) := by decide +kernel
theorem dX9_codeAt_12 : decode cX9_codeAt 12 = .ok (.iload_n 1, 1) := by decide +kernel
theorem dX9_codeAt_13 : decode cX9_codeAt 13 = .ok (.aload_n 0, 1) := by decide +kernel
theorem dX9_codeAt_14 : decode cX9_codeAt 14 = .ok (.getfield 102, 3) := by decide +kernel
theorem dX9_codeAt_17 : decode cX9_codeAt 17 = .ok (.iadd, 1) := by decide +kernel
theorem dX9_codeAt_18 : decode cX9_codeAt 18 = .ok (.iaload, 1) := by decide +kernel
theorem dX9_codeAt_19 : decode cX9_codeAt 19 = .ok (.goto 5, 3) := by decide +kernel
theorem dX9_codeAt_22 : decode cX9_codeAt 22 = .ok (.bipush (-9), 2) := by decide +kernel
theorem dX9_codeAt_24 : decode cX9_codeAt 24 = .ok (.ireturn, 1) := by decide +kernel
set_option maxRecDepth 20000 in
theorem ggX9_figure_X9_codeAt : GoodIn wsX9_figure wsX9_codeAt := goodIn_r _ [6, 1, 7, 11, 12, 13, 14, 15, 16, 17, 18, 19, 20, 21, 22, 23, 24, 25, 26, 27, 28, 29, 30, 31, 32, 33, 34, 35, 36, 37, 38, 39, 40, 41, 42, 43, 44, 45, 46, 47, 48, 49] (by decide +kernel) (by decide +kernel)
set_option maxRecDepth 20000 in
theorem gX9_figure_X9_codeAt : GoodIn wsX9_figure (wsV RX9 105 RX9 yX9_codeAt wsX9_codeAt) := goodIn_app (goodIn_of _ (by decide +kernel)) ggX9_figure_X9_codeAt
set_option maxRecDepth 20000 in
theorem ggX9_figure_X9_in : GoodIn wsX9_figure wsX9_in := goodIn_r _ [10] (by decide +kernel) (by decide +kernel)
set_option maxRecDepth 20000 in
theorem gX9_figure_X9_in : GoodIn wsX9_figure (va_wsS RX9 95 yX9_in wsX9_in) := goodIn_app (goodIn_of _ (by decide +kernel)) ggX9_figure_X9_in
theorem dX9_figure_0 : decode cX9_figure 0 = .ok (.iload_n 3, 1) := by decide +kernel
theorem dX9_figure_1 : decode cX9_figure 1 = .ok (.ifCond .ge 8, 3) := by decide +kernel
theorem dX9_figure_4 : decode cX9_figure 4 = .ok (.bipush (-9), 2) := by decide +kernel
theorem dX9_figure_6 : decode cX9_figure 6 = .ok (.goto 12, 3) := by decide +kernel
theorem dX9_figure_9 : decode cX9_figure 9 = .ok (.aload_n 0, 1) := by decide +kernel
theorem dX9_figure_10 : decode cX9_figure 10 = .ok (.iload_n 1, 1) := by decide +kernel
theorem dX9_figure_11 : decode cX9_figure 11 = .ok (.iload_n 2, 1) := by decide +kernel
theorem dX9_figure_12 : decode cX9_figure 12 = .ok (.invokevirtual 105, 3) := by decide +kernel
theorem dX9_figure_15 : decode cX9_figure 15 = .ok (.bipush 48, 2) := by decide +kernel
theorem dX9_figure_17 : decode cX9_figure 17 = .ok (.isub, 1) := by decide +kernel
theorem dX9_figure_18 : decode cX9_figure 18 = .ok (.istore 6, 2) := by decide +kernel
theorem dX9_figure_20 : decode cX9_figure 20 = .ok (.iload 6, 2) := by decide +kernel
theorem dX9_figure_22 : decode cX9_figure 22 = .ok (.i2l, 1) := by decide +kernel
theorem dX9_figure_23 : decode cX9_figure 23 = .ok (.iload 4, 2) := by decide +kernel
theorem dX9_figure_25 : decode cX9_figure 25 = .ok (.i2l, 1) := by decide +kernel
theorem dX9_figure_26 : decode cX9_figure 26 = .ok (.iload 5, 2) := by decide +kernel
theorem dX9_figure_28 : decode cX9_figure 28 = .ok (.i2l, 1) := by decide +kernel
theorem dX9_figure_29 : decode cX9_figure 29 = .ok (.invokestatic 95, 3) := by decide +kernel
theorem dX9_figure_32 : decode cX9_figure 32 = .ok (.istore 7, 2) := by decide +kernel
theorem dX9_figure_34 : decode cX9_figure 34 = .ok (.aload_n 0, 1) := by decide +kernel
theorem dX9_figure_35 : decode cX9_figure 35 = .ok (.dup, 1) := by decide +kernel
theorem dX9_figure_36 : decode cX9_figure 36 = .ok (.getfield 102, 3) := by decide +kernel
theorem dX9_figure_39 : decode cX9_figure 39 = .ok (.iload 7, 2) := by decide +kernel
theorem dX9_figure_41 : decode cX9_figure 41 = .ok (.ifCond .eq 7, 3) := by decide +kernel
theorem dX9_figure_44 : decode cX9_figure 44 = .ok (.iconst 1, 1) := by decide +kernel
theorem dX9_figure_45 : decode cX9_figure 45 = .ok (.goto 4, 3) := by decide +kernel
theorem dX9_figure_48 : decode cX9_figure 48 = .ok (.iconst 0, 1) := by decide +kernel
theorem dX9_figure_49 : decode cX9_figure 49 = .ok (.iadd, 1) := by decide +kernel
theorem dX9_figure_50 : decode cX9_figure 50 = .ok (.putfield 102, 3) := by decide +kernel
theorem dX9_figure_53 : decode cX9_figure 53 = .ok (.iload 7, 2) := by decide +kernel
theorem dX9_figure_55 : decode cX9_figure 55 = .ok (.ifCond .eq 8, 3) := by decide +kernel
theorem dX9_figure_58 : decode cX9_figure 58 = .ok (.iload 6, 2) := by decide +kernel
theorem dX9_figure_60 : decode cX9_figure 60 = .ok (.goto 5, 3) := by decide +kernel
theorem dX9_figure_63 : decode cX9_figure 63 = .ok (.bipush (-9), 2) := by decide +kernel
theorem dX9_figure_65 : decode cX9_figure 65 = .ok (.ireturn, 1) := by decide +kernel
set_option maxRecDepth 20000 in
theorem ggX9_readsStreets_X9_figure : GoodIn wsX9_readsStreets wsX9_figure := goodIn_r _ [7, 8, 9, 10, 11, 6, 12, 13, 14, 15, 16, 17, 18, 19, 20, 21, 22, 23, 24, 25, 26, 27, 28, 29, 30, 31, 32, 33, 34, 35, 36, 37, 38, 39, 40, 41, 42, 43, 44, 45, 46, 47, 48, 49, 50, 51, 52, 53, 54, 55] (by decide +kernel) (by decide +kernel)
set_option maxRecDepth 20000 in
theorem gX9_readsStreets_X9_figure : GoodIn wsX9_readsStreets (wsV RX9 109 RX9 yX9_figure wsX9_figure) := goodIn_app (goodIn_of _ (by decide +kernel)) ggX9_readsStreets_X9_figure
theorem dX9_readsStreets_0 : decode cX9_readsStreets 0 = .ok (.aload_n 0, 1) := by decide +kernel
theorem dX9_readsStreets_1 : decode cX9_readsStreets 1 = .ok (.aload_n 0, 1) := by decide +kernel
theorem dX9_readsStreets_2 : decode cX9_readsStreets 2 = .ok (.iload_n 1, 1) := by decide +kernel
theorem dX9_readsStreets_3 : decode cX9_readsStreets 3 = .ok (.iload_n 2, 1) := by decide +kernel
theorem dX9_readsStreets_4 : decode cX9_readsStreets 4 = .ok (.iconst 0, 1) := by decide +kernel
theorem dX9_readsStreets_5 : decode cX9_readsStreets 5 = .ok (.iconst 2, 1) := by decide +kernel
theorem dX9_readsStreets_6 : decode cX9_readsStreets 6 = .ok (.bipush 6, 2) := by decide +kernel
theorem dX9_readsStreets_8 : decode cX9_readsStreets 8 = .ok (.invokevirtual 109, 3) := by decide +kernel
theorem dX9_readsStreets_11 : decode cX9_readsStreets 11 = .ok (.putfield 113, 3) := by decide +kernel
theorem dX9_readsStreets_14 : decode cX9_readsStreets 14 = .ok (.aload_n 0, 1) := by decide +kernel
theorem dX9_readsStreets_15 : decode cX9_readsStreets 15 = .ok (.getfield 113, 3) := by decide +kernel
theorem dX9_readsStreets_18 : decode cX9_readsStreets 18 = .ok (.ifCond .le 7, 3) := by decide +kernel
theorem dX9_readsStreets_21 : decode cX9_readsStreets 21 = .ok (.iconst 1, 1) := by decide +kernel
theorem dX9_readsStreets_22 : decode cX9_readsStreets 22 = .ok (.goto 4, 3) := by decide +kernel
theorem dX9_readsStreets_25 : decode cX9_readsStreets 25 = .ok (.iconst 0, 1) := by decide +kernel
theorem dX9_readsStreets_26 : decode cX9_readsStreets 26 = .ok (.istore_n 3, 1) := by decide +kernel
theorem dX9_readsStreets_27 : decode cX9_readsStreets 27 = .ok (.iconst 0, 1) := by decide +kernel
theorem dX9_readsStreets_28 : decode cX9_readsStreets 28 = .ok (.istore 4, 2) := by decide +kernel
theorem dX9_readsStreets_30 : decode cX9_readsStreets 30 = .ok (.iload 4, 2) := by decide +kernel
theorem dX9_readsStreets_32 : decode cX9_readsStreets 32 = .ok (.aload_n 0, 1) := by decide +kernel
theorem dX9_readsStreets_33 : decode cX9_readsStreets 33 = .ok (.getfield 113, 3) := by decide +kernel
theorem dX9_readsStreets_36 : decode cX9_readsStreets 36 = .ok (.if_icmp .ge 119, 3) := by decide +kernel
theorem dX9_readsStreets_39 : decode cX9_readsStreets 39 = .ok (.aload_n 0, 1) := by decide +kernel
theorem dX9_readsStreets_40 : decode cX9_readsStreets 40 = .ok (.getfield 31, 3) := by decide +kernel
theorem dX9_readsStreets_43 : decode cX9_readsStreets 43 = .ok (.bipush 6, 2) := by decide +kernel
theorem dX9_readsStreets_45 : decode cX9_readsStreets 45 = .ok (.iload 4, 2) := by decide +kernel
theorem dX9_readsStreets_47 : decode cX9_readsStreets 47 = .ok (.imul, 1) := by decide +kernel
theorem dX9_readsStreets_48 : decode cX9_readsStreets 48 = .ok (.iload 4, 2) := by decide +kernel
theorem dX9_readsStreets_50 : decode cX9_readsStreets 50 = .ok (.iadd, 1) := by decide +kernel
theorem dX9_readsStreets_51 : decode cX9_readsStreets 51 = .ok (.iconst 0, 1) := by decide +kernel
theorem dX9_readsStreets_52 : decode cX9_readsStreets 52 = .ok (.iastore, 1) := by decide +kernel
theorem dX9_readsStreets_53 : decode cX9_readsStreets 53 = .ok (.iload 4, 2) := by decide +kernel
theorem dX9_readsStreets_55 : decode cX9_readsStreets 55 = .ok (.iconst 1, 1) := by decide +kernel
theorem dX9_readsStreets_56 : decode cX9_readsStreets 56 = .ok (.iadd, 1) := by decide +kernel
theorem dX9_readsStreets_57 : decode cX9_readsStreets 57 = .ok (.istore 5, 2) := by decide +kernel
theorem dX9_readsStreets_59 : decode cX9_readsStreets 59 = .ok (.iload_n 3, 1) := by decide +kernel
theorem dX9_readsStreets_60 : decode cX9_readsStreets 60 = .ok (.ifCond .eq 89, 3) := by decide +kernel
theorem dX9_readsStreets_63 : decode cX9_readsStreets 63 = .ok (.iload 5, 2) := by decide +kernel
theorem dX9_readsStreets_65 : decode cX9_readsStreets 65 = .ok (.aload_n 0, 1) := by decide +kernel
theorem dX9_readsStreets_66 : decode cX9_readsStreets 66 = .ok (.getfield 113, 3) := by decide +kernel
theorem dX9_readsStreets_69 : decode cX9_readsStreets 69 = .ok (.if_icmp .ge 80, 3) := by decide +kernel
theorem dX9_readsStreets_72 : decode cX9_readsStreets 72 = .ok (.aload_n 0, 1) := by decide +kernel
theorem dX9_readsStreets_73 : decode cX9_readsStreets 73 = .ok (.getfield 31, 3) := by decide +kernel
theorem dX9_readsStreets_76 : decode cX9_readsStreets 76 = .ok (.bipush 6, 2) := by decide +kernel
theorem dX9_readsStreets_78 : decode cX9_readsStreets 78 = .ok (.iload 4, 2) := by decide +kernel
theorem dX9_readsStreets_80 : decode cX9_readsStreets 80 = .ok (.imul, 1) := by decide +kernel
theorem dX9_readsStreets_81 : decode cX9_readsStreets 81 = .ok (.iload 5, 2) := by decide +kernel
theorem dX9_readsStreets_83 : decode cX9_readsStreets 83 = .ok (.iadd, 1) := by decide +kernel
theorem dX9_readsStreets_84 : decode cX9_readsStreets 84 = .ok (.aload_n 0, 1) := by decide +kernel
theorem dX9_readsStreets_85 : decode cX9_readsStreets 85 = .ok (.iload_n 1, 1) := by decide +kernel
theorem dX9_readsStreets_86 : decode cX9_readsStreets 86 = .ok (.iload_n 2, 1) := by decide +kernel
theorem dX9_readsStreets_87 : decode cX9_readsStreets 87 = .ok (.iconst 0, 1) := by decide +kernel
theorem dX9_readsStreets_88 : decode cX9_readsStreets 88 = .ok (.iconst 0, 1) := by decide +kernel
theorem dX9_readsStreets_89 : decode cX9_readsStreets 89 = .ok (.bipush 9, 2) := by decide +kernel
theorem dX9_readsStreets_91 : decode cX9_readsStreets 91 = .ok (.invokevirtual 109, 3) := by decide +kernel
theorem dX9_readsStreets_94 : decode cX9_readsStreets 94 = .ok (.iastore, 1) := by decide +kernel
theorem dX9_readsStreets_95 : decode cX9_readsStreets 95 = .ok (.aload_n 0, 1) := by decide +kernel
theorem dX9_readsStreets_96 : decode cX9_readsStreets 96 = .ok (.getfield 31, 3) := by decide +kernel
theorem dX9_readsStreets_99 : decode cX9_readsStreets 99 = .ok (.bipush 6, 2) := by decide +kernel
theorem dX9_readsStreets_101 : decode cX9_readsStreets 101 = .ok (.iload 5, 2) := by decide +kernel
theorem dX9_readsStreets_103 : decode cX9_readsStreets 103 = .ok (.imul, 1) := by decide +kernel
theorem dX9_readsStreets_104 : decode cX9_readsStreets 104 = .ok (.iload 4, 2) := by decide +kernel
theorem dX9_readsStreets_106 : decode cX9_readsStreets 106 = .ok (.iadd, 1) := by decide +kernel
theorem dX9_readsStreets_107 : decode cX9_readsStreets 107 = .ok (.aload_n 0, 1) := by decide +kernel
theorem dX9_readsStreets_108 : decode cX9_readsStreets 108 = .ok (.getfield 31, 3) := by decide +kernel
theorem dX9_readsStreets_111 : decode cX9_readsStreets 111 = .ok (.bipush 6, 2) := by decide +kernel
theorem dX9_readsStreets_113 : decode cX9_readsStreets 113 = .ok (.iload 4, 2) := by decide +kernel
theorem dX9_readsStreets_115 : decode cX9_readsStreets 115 = .ok (.imul, 1) := by decide +kernel
theorem dX9_readsStreets_116 : decode cX9_readsStreets 116 = .ok (.iload 5, 2) := by decide +kernel
theorem dX9_readsStreets_118 : decode cX9_readsStreets 118 = .ok (.iadd, 1) := by decide +kernel
theorem dX9_readsStreets_119 : decode cX9_readsStreets 119 = .ok (.iaload, 1) := by decide +kernel
theorem dX9_readsStreets_120 : decode cX9_readsStreets 120 = .ok (.iastore, 1) := by decide +kernel
theorem dX9_readsStreets_121 : decode cX9_readsStreets 121 = .ok (.aload_n 0, 1) := by decide +kernel
theorem dX9_readsStreets_122 : decode cX9_readsStreets 122 = .ok (.getfield 31, 3) := by decide +kernel
theorem dX9_readsStreets_125 : decode cX9_readsStreets 125 = .ok (.bipush 6, 2) := by decide +kernel
theorem dX9_readsStreets_127 : decode cX9_readsStreets 127 = .ok (.iload 4, 2) := by decide +kernel
theorem dX9_readsStreets_129 : decode cX9_readsStreets 129 = .ok (.imul, 1) := by decide +kernel
theorem dX9_readsStreets_130 : decode cX9_readsStreets 130 = .ok (.iload 5, 2) := by decide +kernel
theorem dX9_readsStreets_132 : decode cX9_readsStreets 132 = .ok (.iadd, 1) := by decide +kernel
theorem dX9_readsStreets_133 : decode cX9_readsStreets 133 = .ok (.iaload, 1) := by decide +kernel
theorem dX9_readsStreets_134 : decode cX9_readsStreets 134 = .ok (.ifCond .lt 7, 3) := by decide +kernel
theorem dX9_readsStreets_137 : decode cX9_readsStreets 137 = .ok (.iconst 1, 1) := by decide +kernel
theorem dX9_readsStreets_138 : decode cX9_readsStreets 138 = .ok (.goto 4, 3) := by decide +kernel
theorem dX9_readsStreets_141 : decode cX9_readsStreets 141 = .ok (.iconst 0, 1) := by decide +kernel
theorem dX9_readsStreets_142 : decode cX9_readsStreets 142 = .ok (.istore_n 3, 1) := by decide +kernel
theorem dX9_readsStreets_143 : decode cX9_readsStreets 143 = .ok (.iinc 5 1, 3) := by decide +kernel
theorem dX9_readsStreets_146 : decode cX9_readsStreets 146 = .ok (.goto (-87), 3) := by decide +kernel
theorem dX9_readsStreets_149 : decode cX9_readsStreets 149 = .ok (.iinc 4 1, 3) := by decide +kernel
theorem dX9_readsStreets_152 : decode cX9_readsStreets 152 = .ok (.goto (-122), 3) := by decide +kernel
theorem dX9_readsStreets_155 : decode cX9_readsStreets 155 = .ok (.iload_n 3, 1) := by decide +kernel
theorem dX9_readsStreets_156 : decode cX9_readsStreets 156 = .ok (.ireturn, 1) := by decide +kernel
set_option maxRecDepth 20000 in
theorem ggX9_readsFootman_X9_codeAt : GoodIn wsX9_readsFootman wsX9_codeAt := goodIn_r _ [12, 2, 13, 21, 22, 23, 24, 25, 26, 27, 28, 29, 30, 31, 32, 33, 34, 35, 36, 37, 38, 39, 40, 41, 42, 43, 44, 45, 46, 47, 48, 49, 50, 51, 52, 53, 54, 55, 56, 57, 58, 59] (by decide +kernel) (by decide +kernel)
set_option maxRecDepth 20000 in
theorem gX9_readsFootman_X9_codeAt : GoodIn wsX9_readsFootman (wsV RX9 105 RX9 yX9_codeAt wsX9_codeAt) := goodIn_app (goodIn_of _ (by decide +kernel)) ggX9_readsFootman_X9_codeAt
set_option maxRecDepth 20000 in
theorem ggX9_readsFootman_X9_figure : GoodIn wsX9_readsFootman wsX9_figure := goodIn_r _ [17, 2, 8, 9, 10, 11, 12, 13, 18, 19, 20, 21, 22, 23, 24, 25, 26, 27, 28, 29, 30, 31, 32, 33, 34, 35, 36, 37, 38, 39, 40, 41, 42, 43, 44, 45, 46, 47, 48, 49, 50, 51, 52, 53, 54, 55, 56, 57, 58, 59] (by decide +kernel) (by decide +kernel)
set_option maxRecDepth 20000 in
theorem gX9_readsFootman_X9_figure : GoodIn wsX9_readsFootman (wsV RX9 109 RX9 yX9_figure wsX9_figure) := goodIn_app (goodIn_of _ (by decide +kernel)) ggX9_readsFootman_X9_figure
theorem dX9_readsFootman_0 : decode cX9_readsFootman 0 = .ok (.aload_n 0, 1) := by decide +kernel
theorem dX9_readsFootman_1 : decode cX9_readsFootman 1 = .ok (.getfield 116, 3) := by decide +kernel
theorem dX9_readsFootman_4 : decode cX9_readsFootman 4 = .ok (.iconst 5, 1) := by decide +kernel
theorem dX9_readsFootman_5 : decode cX9_readsFootman 5 = .ok (.if_icmp .eq 14, 3) := by decide +kernel
theorem dX9_readsFootman_8 : decode cX9_readsFootman 8 = .ok (.aload_n 0, 1) := by decide +kernel
theorem dX9_readsFootman_9 : decode cX9_readsFootman 9 = .ok (.iload_n 1, 1) := by decide +kernel
theorem dX9_readsFootman_10 : decode cX9_readsFootman 10 = .ok (.iload_n 2, 1) := by decide +kernel
theorem dX9_readsFootman_11 : decode cX9_readsFootman 11 = .ok (.invokevirtual 105, 3) := by decide +kernel
theorem dX9_readsFootman_14 : decode cX9_readsFootman 14 = .ok (.bipush 59, 2) := by decide +kernel
theorem dX9_readsFootman_16 : decode cX9_readsFootman 16 = .ok (.if_icmp .eq 5, 3) := by decide +kernel
theorem dX9_readsFootman_19 : decode cX9_readsFootman 19 = .ok (.iconst 0, 1) := by decide +kernel
theorem dX9_readsFootman_20 : decode cX9_readsFootman 20 = .ok (.ireturn, 1) := by decide +kernel
theorem dX9_readsFootman_21 : decode cX9_readsFootman 21 = .ok (.aload_n 0, 1) := by decide +kernel
theorem dX9_readsFootman_22 : decode cX9_readsFootman 22 = .ok (.dup, 1) := by decide +kernel
theorem dX9_readsFootman_23 : decode cX9_readsFootman 23 = .ok (.getfield 102, 3) := by decide +kernel
theorem dX9_readsFootman_26 : decode cX9_readsFootman 26 = .ok (.iconst 1, 1) := by decide +kernel
theorem dX9_readsFootman_27 : decode cX9_readsFootman 27 = .ok (.iadd, 1) := by decide +kernel
theorem dX9_readsFootman_28 : decode cX9_readsFootman 28 = .ok (.putfield 102, 3) := by decide +kernel
theorem dX9_readsFootman_31 : decode cX9_readsFootman 31 = .ok (.aload_n 0, 1) := by decide +kernel
theorem dX9_readsFootman_32 : decode cX9_readsFootman 32 = .ok (.iload_n 1, 1) := by decide +kernel
theorem dX9_readsFootman_33 : decode cX9_readsFootman 33 = .ok (.iload_n 2, 1) := by decide +kernel
theorem dX9_readsFootman_34 : decode cX9_readsFootman 34 = .ok (.invokevirtual 105, 3) := by decide +kernel
theorem dX9_readsFootman_37 : decode cX9_readsFootman 37 = .ok (.istore_n 3, 1) := by decide +kernel
theorem dX9_readsFootman_38 : decode cX9_readsFootman 38 = .ok (.iload_n 3, 1) := by decide +kernel
theorem dX9_readsFootman_39 : decode cX9_readsFootman 39 = .ok (.bipush 98, 2) := by decide +kernel
theorem dX9_readsFootman_41 : decode cX9_readsFootman 41 = .ok (.if_icmp .eq 17, 3) := by decide +kernel
theorem dX9_readsFootman_44 : decode cX9_readsFootman 44 = .ok (.iload_n 3, 1) := by decide +kernel
theorem dX9_readsFootman_45 : decode cX9_readsFootman 45 = .ok (.bipush 109, 2) := by decide +kernel
theorem dX9_readsFootman_47 : decode cX9_readsFootman 47 = .ok (.if_icmp .eq 11, 3) := by decide +kernel
theorem dX9_readsFootman_50 : decode cX9_readsFootman 50 = .ok (.iload_n 3, 1) := by decide +kernel
theorem dX9_readsFootman_51 : decode cX9_readsFootman 51 = .ok (.bipush 112, 2) := by decide +kernel
theorem dX9_readsFootman_53 : decode cX9_readsFootman 53 = .ok (.if_icmp .eq 5, 3) := by decide +kernel
theorem dX9_readsFootman_56 : decode cX9_readsFootman 56 = .ok (.iconst 0, 1) := by decide +kernel
theorem dX9_readsFootman_57 : decode cX9_readsFootman 57 = .ok (.ireturn, 1) := by decide +kernel
theorem dX9_readsFootman_58 : decode cX9_readsFootman 58 = .ok (.aload_n 0, 1) := by decide +kernel
theorem dX9_readsFootman_59 : decode cX9_readsFootman 59 = .ok (.dup, 1) := by decide +kernel
theorem dX9_readsFootman_60 : decode cX9_readsFootman 60 = .ok (.getfield 102, 3) := by decide +kernel
theorem dX9_readsFootman_63 : decode cX9_readsFootman 63 = .ok (.iconst 1, 1) := by decide +kernel
theorem dX9_readsFootman_64 : decode cX9_readsFootman 64 = .ok (.iadd, 1) := by decide +kernel
theorem dX9_readsFootman_65 : decode cX9_readsFootman 65 = .ok (.putfield 102, 3) := by decide +kernel
theorem dX9_readsFootman_68 : decode cX9_readsFootman 68 = .ok (.aload_n 0, 1) := by decide +kernel
theorem dX9_readsFootman_69 : decode cX9_readsFootman 69 = .ok (.iload_n 1, 1) := by decide +kernel
theorem dX9_readsFootman_70 : decode cX9_readsFootman 70 = .ok (.iload_n 2, 1) := by decide +kernel
theorem dX9_readsFootman_71 : decode cX9_readsFootman 71 = .ok (.iconst 0, 1) := by decide +kernel
theorem dX9_readsFootman_72 : decode cX9_readsFootman 72 = .ok (.iconst 0, 1) := by decide +kernel
theorem dX9_readsFootman_73 : decode cX9_readsFootman 73 = .ok (.aload_n 0, 1) := by decide +kernel
theorem dX9_readsFootman_74 : decode cX9_readsFootman 74 = .ok (.getfield 113, 3) := by decide +kernel
theorem dX9_readsFootman_77 : decode cX9_readsFootman 77 = .ok (.iconst 1, 1) := by decide +kernel
theorem dX9_readsFootman_78 : decode cX9_readsFootman 78 = .ok (.isub, 1) := by decide +kernel
theorem dX9_readsFootman_79 : decode cX9_readsFootman 79 = .ok (.invokevirtual 109, 3) := by decide +kernel
theorem dX9_readsFootman_82 : decode cX9_readsFootman 82 = .ok (.istore 4, 2) := by decide +kernel
theorem dX9_readsFootman_84 : decode cX9_readsFootman 84 = .ok (.aload_n 0, 1) := by decide +kernel
theorem dX9_readsFootman_85 : decode cX9_readsFootman 85 = .ok (.iload_n 1, 1) := by decide +kernel
theorem dX9_readsFootman_86 : decode cX9_readsFootman 86 = .ok (.iload_n 2, 1) := by decide +kernel
theorem dX9_readsFootman_87 : decode cX9_readsFootman 87 = .ok (.iload 4, 2) := by decide +kernel
theorem dX9_readsFootman_89 : decode cX9_readsFootman 89 = .ok (.iconst 0, 1) := by decide +kernel
theorem dX9_readsFootman_90 : decode cX9_readsFootman 90 = .ok (.aload_n 0, 1) := by decide +kernel
theorem dX9_readsFootman_91 : decode cX9_readsFootman 91 = .ok (.getfield 113, 3) := by decide +kernel
theorem dX9_readsFootman_94 : decode cX9_readsFootman 94 = .ok (.iconst 1, 1) := by decide +kernel
theorem dX9_readsFootman_95 : decode cX9_readsFootman 95 = .ok (.isub, 1) := by decide +kernel
theorem dX9_readsFootman_96 : decode cX9_readsFootman 96 = .ok (.invokevirtual 109, 3) := by decide +kernel
theorem dX9_readsFootman_99 : decode cX9_readsFootman 99 = .ok (.istore 5, 2) := by decide +kernel
theorem dX9_readsFootman_101 : decode cX9_readsFootman 101 = .ok (.aload_n 0, 1) := by decide +kernel
theorem dX9_readsFootman_102 : decode cX9_readsFootman 102 = .ok (.iload_n 1, 1) := by decide +kernel
theorem dX9_readsFootman_103 : decode cX9_readsFootman 103 = .ok (.iload_n 2, 1) := by decide +kernel
theorem dX9_readsFootman_104 : decode cX9_readsFootman 104 = .ok (.iload 5, 2) := by decide +kernel
theorem dX9_readsFootman_106 : decode cX9_readsFootman 106 = .ok (.iconst 1, 1) := by decide +kernel
theorem dX9_readsFootman_107 : decode cX9_readsFootman 107 = .ok (.bipush 9, 2) := by decide +kernel
theorem dX9_readsFootman_109 : decode cX9_readsFootman 109 = .ok (.invokevirtual 109, 3) := by decide +kernel
theorem dX9_readsFootman_112 : decode cX9_readsFootman 112 = .ok (.istore 6, 2) := by decide +kernel
theorem dX9_readsFootman_114 : decode cX9_readsFootman 114 = .ok (.aload_n 0, 1) := by decide +kernel
theorem dX9_readsFootman_115 : decode cX9_readsFootman 115 = .ok (.getfield 34, 3) := by decide +kernel
theorem dX9_readsFootman_118 : decode cX9_readsFootman 118 = .ok (.aload_n 0, 1) := by decide +kernel
theorem dX9_readsFootman_119 : decode cX9_readsFootman 119 = .ok (.getfield 116, 3) := by decide +kernel
theorem dX9_readsFootman_122 : decode cX9_readsFootman 122 = .ok (.iload_n 3, 1) := by decide +kernel
theorem dX9_readsFootman_123 : decode cX9_readsFootman 123 = .ok (.bipush 98, 2) := by decide +kernel
theorem dX9_readsFootman_125 : decode cX9_readsFootman 125 = .ok (.if_icmp .ne 7, 3) := by decide +kernel
theorem dX9_readsFootman_128 : decode cX9_readsFootman 128 = .ok (.iconst 0, 1) := by decide +kernel
theorem dX9_readsFootman_129 : decode cX9_readsFootman 129 = .ok (.goto 14, 3) := by decide +kernel
theorem dX9_readsFootman_132 : decode cX9_readsFootman 132 = .ok (.iload_n 3, 1) := by decide +kernel
theorem dX9_readsFootman_133 : decode cX9_readsFootman 133 = .ok (.bipush 109, 2) := by decide +kernel
theorem dX9_readsFootman_135 : decode cX9_readsFootman 135 = .ok (.if_icmp .ne 7, 3) := by decide +kernel
theorem dX9_readsFootman_138 : decode cX9_readsFootman 138 = .ok (.iconst 1, 1) := by decide +kernel
theorem dX9_readsFootman_139 : decode cX9_readsFootman 139 = .ok (.goto 4, 3) := by decide +kernel
theorem dX9_readsFootman_142 : decode cX9_readsFootman 142 = .ok (.iconst 2, 1) := by decide +kernel
theorem dX9_readsFootman_143 : decode cX9_readsFootman 143 = .ok (.iastore, 1) := by decide +kernel
theorem dX9_readsFootman_144 : decode cX9_readsFootman 144 = .ok (.aload_n 0, 1) := by decide +kernel
theorem dX9_readsFootman_145 : decode cX9_readsFootman 145 = .ok (.getfield 37, 3) := by decide +kernel
theorem dX9_readsFootman_148 : decode cX9_readsFootman 148 = .ok (.aload_n 0, 1) := by decide +kernel
theorem dX9_readsFootman_149 : decode cX9_readsFootman 149 = .ok (.getfield 116, 3) := by decide +kernel
theorem dX9_readsFootman_152 : decode cX9_readsFootman 152 = .ok (.iload 4, 2) := by decide +kernel
theorem dX9_readsFootman_154 : decode cX9_readsFootman 154 = .ok (.iastore, 1) := by decide +kernel
theorem dX9_readsFootman_155 : decode cX9_readsFootman 155 = .ok (.aload_n 0, 1) := by decide +kernel
theorem dX9_readsFootman_156 : decode cX9_readsFootman 156 = .ok (.getfield 40, 3) := by decide +kernel
theorem dX9_readsFootman_159 : decode cX9_readsFootman 159 = .ok (.aload_n 0, 1) := by decide +kernel
theorem dX9_readsFootman_160 : decode cX9_readsFootman 160 = .ok (.getfield 116, 3) := by decide +kernel
theorem dX9_readsFootman_163 : decode cX9_readsFootman 163 = .ok (.iload 5, 2) := by decide +kernel
theorem dX9_readsFootman_165 : decode cX9_readsFootman 165 = .ok (.iastore, 1) := by decide +kernel
theorem dX9_readsFootman_166 : decode cX9_readsFootman 166 = .ok (.aload_n 0, 1) := by decide +kernel
theorem dX9_readsFootman_167 : decode cX9_readsFootman 167 = .ok (.getfield 43, 3) := by decide +kernel
theorem dX9_readsFootman_170 : decode cX9_readsFootman 170 = .ok (.aload_n 0, 1) := by decide +kernel
theorem dX9_readsFootman_171 : decode cX9_readsFootman 171 = .ok (.getfield 116, 3) := by decide +kernel
theorem dX9_readsFootman_174 : decode cX9_readsFootman 174 = .ok (.iload 6, 2) := by decide +kernel
theorem dX9_readsFootman_176 : decode cX9_readsFootman 176 = .ok (.iastore, 1) := by decide +kernel
theorem dX9_readsFootman_177 : decode cX9_readsFootman 177 = .ok (.aload_n 0, 1) := by decide +kernel
theorem dX9_readsFootman_178 : decode cX9_readsFootman 178 = .ok (.dup, 1) := by decide +kernel
theorem dX9_readsFootman_179 : decode cX9_readsFootman 179 = .ok (.getfield 116, 3) := by decide +kernel
theorem dX9_readsFootman_182 : decode cX9_readsFootman 182 = .ok (.iconst 1, 1) := by decide +kernel
theorem dX9_readsFootman_183 : decode cX9_readsFootman 183 = .ok (.iadd, 1) := by decide +kernel
theorem dX9_readsFootman_184 : decode cX9_readsFootman 184 = .ok (.putfield 116, 3) := by decide +kernel
theorem dX9_readsFootman_187 : decode cX9_readsFootman 187 = .ok (.iload 6, 2) := by decide +kernel
theorem dX9_readsFootman_189 : decode cX9_readsFootman 189 = .ok (.ifCond .lt 7, 3) := by decide +kernel
theorem dX9_readsFootman_192 : decode cX9_readsFootman 192 = .ok (.iconst 1, 1) := by decide +kernel
theorem dX9_readsFootman_193 : decode cX9_readsFootman 193 = .ok (.goto 4, 3) := by decide +kernel
theorem dX9_readsFootman_196 : decode cX9_readsFootman 196 = .ok (.iconst 0, 1) := by decide +kernel
theorem dX9_readsFootman_197 : decode cX9_readsFootman 197 = .ok (.ireturn, 1) := by decide +kernel
set_option maxRecDepth 20000 in
theorem ggX9_readsTown_X9_codeAt : GoodIn wsX9_readsTown wsX9_codeAt := goodIn_r _ [7, 1, 8, 30, 31, 32, 33, 34, 35, 36, 37, 38, 39, 40, 41, 42, 43, 44, 45, 46, 47, 48, 49, 50, 51, 52, 53, 54, 55, 56, 57, 58, 59, 60, 61, 62, 63, 64, 65, 66, 67, 68] (by decide +kernel) (by decide +kernel)
set_option maxRecDepth 20000 in
theorem gX9_readsTown_X9_codeAt : GoodIn wsX9_readsTown (wsV RX9 105 RX9 yX9_codeAt wsX9_codeAt) := goodIn_app (goodIn_of _ (by decide +kernel)) ggX9_readsTown_X9_codeAt
set_option maxRecDepth 20000 in
theorem ggX9_readsTown_X9_readsStreets : GoodIn wsX9_readsTown wsX9_readsStreets := goodIn_r _ [12, 13, 14, 15, 16, 17, 6, 18, 1, 3, 4, 5, 7, 8, 19, 20, 21, 30, 31, 32, 33, 34, 35, 36, 37, 38, 39, 40, 41, 42, 43, 44, 45, 46, 47, 48, 49, 50, 51, 52, 53, 54, 55, 56, 57, 58, 59, 60, 61, 62, 63, 64, 65, 66, 67, 68] (by decide +kernel) (by decide +kernel)
set_option maxRecDepth 20000 in
theorem gX9_readsTown_X9_readsStreets : GoodIn wsX9_readsTown (wsV RX9 119 RX9 yX9_readsStreets wsX9_readsStreets) := goodIn_app (goodIn_of _ (by decide +kernel)) ggX9_readsTown_X9_readsStreets
set_option maxRecDepth 20000 in
theorem ggX9_readsTown_X9_readsFootman : GoodIn wsX9_readsTown wsX9_readsFootman := goodIn_r _ [25, 2, 1, 13, 26, 27, 28, 29, 3, 4, 5, 6, 7, 8, 15, 16, 17, 18, 19, 20, 21, 30, 31, 32, 33, 34, 35, 36, 37, 38, 39, 40, 41, 42, 43, 44, 45, 46, 47, 48, 49, 50, 51, 52, 53, 54, 55, 56, 57, 58, 59, 60, 61, 62, 63, 64, 65, 66, 67, 68] (by decide +kernel) (by decide +kernel)
set_option maxRecDepth 20000 in
theorem gX9_readsTown_X9_readsFootman : GoodIn wsX9_readsTown (wsV RX9 123 RX9 yX9_readsFootman wsX9_readsFootman) := goodIn_app (goodIn_of _ (by decide +kernel)) ggX9_readsTown_X9_readsFootman
theorem dX9_readsTown_0 : decode cX9_readsTown 0 = .ok (.aload_n 0, 1) := by decide +kernel
theorem dX9_readsTown_1 : decode cX9_readsTown 1 = .ok (.iconst 0, 1) := by decide +kernel
theorem dX9_readsTown_2 : decode cX9_readsTown 2 = .ok (.putfield 102, 3) := by decide +kernel
theorem dX9_readsTown_5 : decode cX9_readsTown 5 = .ok (.aload_n 0, 1) := by decide +kernel
theorem dX9_readsTown_6 : decode cX9_readsTown 6 = .ok (.iconst 0, 1) := by decide +kernel
theorem dX9_readsTown_7 : decode cX9_readsTown 7 = .ok (.putfield 116, 3) := by decide +kernel
theorem dX9_readsTown_10 : decode cX9_readsTown 10 = .ok (.aload_n 0, 1) := by decide +kernel
theorem dX9_readsTown_11 : decode cX9_readsTown 11 = .ok (.iload_n 1, 1) := by decide +kernel
theorem dX9_readsTown_12 : decode cX9_readsTown 12 = .ok (.iload_n 2, 1) := by decide +kernel
theorem dX9_readsTown_13 : decode cX9_readsTown 13 = .ok (.invokevirtual 105, 3) := by decide +kernel
theorem dX9_readsTown_16 : decode cX9_readsTown 16 = .ok (.bipush 116, 2) := by decide +kernel
theorem dX9_readsTown_18 : decode cX9_readsTown 18 = .ok (.if_icmp .eq 5, 3) := by decide +kernel
theorem dX9_readsTown_21 : decode cX9_readsTown 21 = .ok (.iconst 0, 1) := by decide +kernel
theorem dX9_readsTown_22 : decode cX9_readsTown 22 = .ok (.ireturn, 1) := by decide +kernel
theorem dX9_readsTown_23 : decode cX9_readsTown 23 = .ok (.aload_n 0, 1) := by decide +kernel
theorem dX9_readsTown_24 : decode cX9_readsTown 24 = .ok (.dup, 1) := by decide +kernel
theorem dX9_readsTown_25 : decode cX9_readsTown 25 = .ok (.getfield 102, 3) := by decide +kernel
theorem dX9_readsTown_28 : decode cX9_readsTown 28 = .ok (.iconst 1, 1) := by decide +kernel
theorem dX9_readsTown_29 : decode cX9_readsTown 29 = .ok (.iadd, 1) := by decide +kernel
theorem dX9_readsTown_30 : decode cX9_readsTown 30 = .ok (.putfield 102, 3) := by decide +kernel
theorem dX9_readsTown_33 : decode cX9_readsTown 33 = .ok (.aload_n 0, 1) := by decide +kernel
theorem dX9_readsTown_34 : decode cX9_readsTown 34 = .ok (.iload_n 1, 1) := by decide +kernel
theorem dX9_readsTown_35 : decode cX9_readsTown 35 = .ok (.iload_n 2, 1) := by decide +kernel
theorem dX9_readsTown_36 : decode cX9_readsTown 36 = .ok (.invokevirtual 119, 3) := by decide +kernel
theorem dX9_readsTown_39 : decode cX9_readsTown 39 = .ok (.istore_n 3, 1) := by decide +kernel
theorem dX9_readsTown_40 : decode cX9_readsTown 40 = .ok (.iload_n 3, 1) := by decide +kernel
theorem dX9_readsTown_41 : decode cX9_readsTown 41 = .ok (.ifCond .eq 29, 3) := by decide +kernel
theorem dX9_readsTown_44 : decode cX9_readsTown 44 = .ok (.aload_n 0, 1) := by decide +kernel
theorem dX9_readsTown_45 : decode cX9_readsTown 45 = .ok (.getfield 116, 3) := by decide +kernel
theorem dX9_readsTown_48 : decode cX9_readsTown 48 = .ok (.iconst 1, 1) := by decide +kernel
theorem dX9_readsTown_49 : decode cX9_readsTown 49 = .ok (.if_icmp .lt 11, 3) := by decide +kernel
theorem dX9_readsTown_52 : decode cX9_readsTown 52 = .ok (.aload_n 0, 1) := by decide +kernel
theorem dX9_readsTown_53 : decode cX9_readsTown 53 = .ok (.getfield 102, 3) := by decide +kernel
theorem dX9_readsTown_56 : decode cX9_readsTown 56 = .ok (.iload_n 2, 1) := by decide +kernel
theorem dX9_readsTown_57 : decode cX9_readsTown 57 = .ok (.if_icmp .ge 13, 3) := by decide +kernel
theorem dX9_readsTown_60 : decode cX9_readsTown 60 = .ok (.aload_n 0, 1) := by decide +kernel
theorem dX9_readsTown_61 : decode cX9_readsTown 61 = .ok (.iload_n 1, 1) := by decide +kernel
theorem dX9_readsTown_62 : decode cX9_readsTown 62 = .ok (.iload_n 2, 1) := by decide +kernel
theorem dX9_readsTown_63 : decode cX9_readsTown 63 = .ok (.invokevirtual 123, 3) := by decide +kernel
theorem dX9_readsTown_66 : decode cX9_readsTown 66 = .ok (.istore_n 3, 1) := by decide +kernel
theorem dX9_readsTown_67 : decode cX9_readsTown 67 = .ok (.goto (-27), 3) := by decide +kernel
theorem dX9_readsTown_70 : decode cX9_readsTown 70 = .ok (.iload_n 3, 1) := by decide +kernel
theorem dX9_readsTown_71 : decode cX9_readsTown 71 = .ok (.ireturn, 1) := by decide +kernel
set_option maxRecDepth 20000 in
theorem ggX9_cellsBarred_X9_failed : GoodIn wsX9_cellsBarred wsX9_failed := goodIn_r _ [7, 8, 12, 13, 14, 15, 16, 17, 18, 19, 20, 21, 22, 23, 24, 25, 26, 27, 28, 29, 30, 31, 32, 33, 34, 35, 36, 37, 38, 39, 40, 41, 42, 43, 44, 45, 46, 47, 48, 49, 50] (by decide +kernel) (by decide +kernel)
set_option maxRecDepth 20000 in
theorem gX9_cellsBarred_X9_failed : GoodIn wsX9_cellsBarred (wsV RX9 126 RX9 yX9_failed wsX9_failed) := goodIn_app (goodIn_of _ (by decide +kernel)) ggX9_cellsBarred_X9_failed
set_option maxRecDepth 20000 in
theorem ggX9_cellsBarred_X9_isBeyond : GoodIn wsX9_cellsBarred wsX9_isBeyond := goodIn_r _ [11] (by decide +kernel) (by decide +kernel)
set_option maxRecDepth 20000 in
theorem gX9_cellsBarred_X9_isBeyond : GoodIn wsX9_cellsBarred (va_wsS RX9 130 yX9_isBeyond wsX9_isBeyond) := goodIn_app (goodIn_of _ (by decide +kernel)) ggX9_cellsBarred_X9_isBeyond
theorem dX9_cellsBarred_0 : decode cX9_cellsBarred 0 = .ok (.aload_n 0, 1) := by decide +kernel
theorem dX9_cellsBarred_1 : decode cX9_cellsBarred 1 = .ok (.getfield 70, 3) := by decide +kernel
theorem dX9_cellsBarred_4 : decode cX9_cellsBarred 4 = .ok (.iload_n 1, 1) := by decide +kernel
theorem dX9_cellsBarred_5 : decode cX9_cellsBarred 5 = .ok (.iaload, 1) := by decide +kernel
theorem dX9_cellsBarred_6 : decode cX9_cellsBarred 6 = .ok (.ifCond .lt 19, 3) := by decide +kernel
theorem dX9_cellsBarred_9 : decode cX9_cellsBarred 9 = .ok (.aload_n 0, 1) := by decide +kernel
theorem dX9_cellsBarred_10 : decode cX9_cellsBarred 10 = .ok (.getfield 73, 3) := by decide +kernel
theorem dX9_cellsBarred_13 : decode cX9_cellsBarred 13 = .ok (.iload_n 1, 1) := by decide +kernel
theorem dX9_cellsBarred_14 : decode cX9_cellsBarred 14 = .ok (.iaload, 1) := by decide +kernel
theorem dX9_cellsBarred_15 : decode cX9_cellsBarred 15 = .ok (.iload_n 2, 1) := by decide +kernel
theorem dX9_cellsBarred_16 : decode cX9_cellsBarred 16 = .ok (.if_icmp .eq 9, 3) := by decide +kernel
theorem dX9_cellsBarred_19 : decode cX9_cellsBarred 19 = .ok (.aload_n 0, 1) := by decide +kernel
theorem dX9_cellsBarred_20 : decode cX9_cellsBarred 20 = .ok (.iconst 2, 1) := by decide +kernel
theorem dX9_cellsBarred_21 : decode cX9_cellsBarred 21 = .ok (.invokevirtual 126, 3) := by decide +kernel
theorem dX9_cellsBarred_24 : decode cX9_cellsBarred 24 = .ok (.ireturn, 1) := by decide +kernel
theorem dX9_cellsBarred_25 : decode cX9_cellsBarred 25 = .ok (.aload_n 0, 1) := by decide +kernel
theorem dX9_cellsBarred_26 : decode cX9_cellsBarred 26 = .ok (.getfield 70, 3) := by decide +kernel
theorem dX9_cellsBarred_29 : decode cX9_cellsBarred 29 = .ok (.iload_n 1, 1) := by decide +kernel
theorem dX9_cellsBarred_30 : decode cX9_cellsBarred 30 = .ok (.iaload, 1) := by decide +kernel
theorem dX9_cellsBarred_31 : decode cX9_cellsBarred 31 = .ok (.ifCond .ge 9, 3) := by decide +kernel
theorem dX9_cellsBarred_34 : decode cX9_cellsBarred 34 = .ok (.aload_n 0, 1) := by decide +kernel
theorem dX9_cellsBarred_35 : decode cX9_cellsBarred 35 = .ok (.iconst 1, 1) := by decide +kernel
theorem dX9_cellsBarred_36 : decode cX9_cellsBarred 36 = .ok (.invokevirtual 126, 3) := by decide +kernel
theorem dX9_cellsBarred_39 : decode cX9_cellsBarred 39 = .ok (.ireturn, 1) := by decide +kernel
theorem dX9_cellsBarred_40 : decode cX9_cellsBarred 40 = .ok (.lload 4, 2) := by decide +kernel
theorem dX9_cellsBarred_42 : decode cX9_cellsBarred 42 = .ok (.lconst 0, 1) := by decide +kernel
theorem dX9_cellsBarred_43 : decode cX9_cellsBarred 43 = .ok (.lcmp, 1) := by decide +kernel
theorem dX9_cellsBarred_44 : decode cX9_cellsBarred 44 = .ok (.ifCond .ge 9, 3) := by decide +kernel
theorem dX9_cellsBarred_47 : decode cX9_cellsBarred 47 = .ok (.aload_n 0, 1) := by decide +kernel
theorem dX9_cellsBarred_48 : decode cX9_cellsBarred 48 = .ok (.iconst 4, 1) := by decide +kernel
theorem dX9_cellsBarred_49 : decode cX9_cellsBarred 49 = .ok (.invokevirtual 126, 3) := by decide +kernel
theorem dX9_cellsBarred_52 : decode cX9_cellsBarred 52 = .ok (.ireturn, 1) := by decide +kernel
theorem dX9_cellsBarred_53 : decode cX9_cellsBarred 53 = .ok (.iload_n 3, 1) := by decide +kernel
theorem dX9_cellsBarred_54 : decode cX9_cellsBarred 54 = .ok (.lload 4, 2) := by decide +kernel
theorem dX9_cellsBarred_56 : decode cX9_cellsBarred 56 = .ok (.aload_n 0, 1) := by decide +kernel
theorem dX9_cellsBarred_57 : decode cX9_cellsBarred 57 = .ok (.getfield 70, 3) := by decide +kernel
theorem dX9_cellsBarred_60 : decode cX9_cellsBarred 60 = .ok (.iload_n 1, 1) := by decide +kernel
theorem dX9_cellsBarred_61 : decode cX9_cellsBarred 61 = .ok (.iaload, 1) := by decide +kernel
theorem dX9_cellsBarred_62 : decode cX9_cellsBarred 62 = .ok (.invokestatic 130, 3) := by decide +kernel
theorem dX9_cellsBarred_65 : decode cX9_cellsBarred 65 = .ok (.ifCond .eq 11, 3) := by decide +kernel
theorem dX9_cellsBarred_68 : decode cX9_cellsBarred 68 = .ok (.aload_n 0, 1) := by decide +kernel
theorem dX9_cellsBarred_69 : decode cX9_cellsBarred 69 = .ok (.iconst 3, 1) := by decide +kernel
theorem dX9_cellsBarred_70 : decode cX9_cellsBarred 70 = .ok (.invokevirtual 126, 3) := by decide +kernel
theorem dX9_cellsBarred_73 : decode cX9_cellsBarred 73 = .ok (.goto 4, 3) := by decide +kernel
theorem dX9_cellsBarred_76 : decode cX9_cellsBarred 76 = .ok (.iconst 0, 1) := by decide +kernel
theorem dX9_cellsBarred_77 : decode cX9_cellsBarred 77 = .ok (.ireturn, 1) := by decide +kernel
set_option maxRecDepth 20000 in
theorem ggX9_town_X9_noSheet : GoodIn wsX9_town wsX9_noSheet := goodIn_r _ [24, 25, 26, 27, 23, 28] (by decide +kernel) (by decide +kernel)
set_option maxRecDepth 20000 in
theorem gX9_town_X9_noSheet : GoodIn wsX9_town (va_wsS RX9 134 yX9_noSheet wsX9_noSheet) := goodIn_app (goodIn_of _ (by decide +kernel)) ggX9_town_X9_noSheet
set_option maxRecDepth 20000 in
theorem ggX9_town_X9_refused : GoodIn wsX9_town wsX9_refused := goodIn_r _ [32, 33, 73, 74, 75, 76, 77, 78, 79, 80, 81, 82, 83, 84, 85, 86, 87, 88, 89, 90, 91, 92, 93, 94, 95, 96, 97, 98, 99, 100, 101, 102, 103, 104, 105, 106, 107, 108, 109, 110, 111] (by decide +kernel) (by decide +kernel)
set_option maxRecDepth 20000 in
theorem gX9_town_X9_refused : GoodIn wsX9_town (wsV RX9 138 RX9 yX9_refused wsX9_refused) := goodIn_app (goodIn_of _ (by decide +kernel)) ggX9_town_X9_refused
set_option maxRecDepth 20000 in
theorem ggX9_town_X9_in : GoodIn wsX9_town wsX9_in := goodIn_r _ [28] (by decide +kernel) (by decide +kernel)
set_option maxRecDepth 20000 in
theorem gX9_town_X9_in : GoodIn wsX9_town (va_wsS RX9 95 yX9_in wsX9_in) := goodIn_app (goodIn_of _ (by decide +kernel)) ggX9_town_X9_in
set_option maxRecDepth 20000 in
theorem ggX9_town_X9_cellsBarred : GoodIn wsX9_town wsX9_cellsBarred := goodIn_r _ [37, 38, 39, 40, 41, 42, 23, 43, 33, 44, 45, 46, 73, 74, 75, 76, 77, 78, 79, 80, 81, 82, 83, 84, 85, 86, 87, 88, 89, 90, 91, 92, 93, 94, 95, 96, 97, 98, 99, 100, 101, 102, 103, 104, 105, 106, 107, 108, 109, 110, 111] (by decide +kernel) (by decide +kernel)
set_option maxRecDepth 20000 in
theorem gX9_town_X9_cellsBarred : GoodIn wsX9_town (wsV RX9 143 RX9 yX9_cellsBarred wsX9_cellsBarred) := goodIn_app (goodIn_of _ (by decide +kernel)) ggX9_town_X9_cellsBarred
set_option maxRecDepth 20000 in
theorem ggX9_town_X9_readsTown : GoodIn wsX9_town wsX9_readsTown := goodIn_r _ [50, 2, 5, 51, 52, 53, 23, 54, 55, 56, 57, 58, 59, 3, 10, 60, 61, 62, 63, 26, 27, 28, 64, 65, 66, 67, 12, 14, 16, 18, 73, 74, 75, 76, 77, 78, 79, 80, 81, 82, 83, 84, 85, 86, 87, 88, 89, 90, 91, 92, 93, 94, 95, 96, 97, 98, 99, 100, 101, 102, 103, 104, 105, 106, 107, 108, 109, 110, 111] (by decide +kernel) (by decide +kernel)
set_option maxRecDepth 20000 in
theorem gX9_town_X9_readsTown : GoodIn wsX9_town (wsV RX9 147 RX9 yX9_readsTown wsX9_readsTown) := goodIn_app (goodIn_of _ (by decide +kernel)) ggX9_town_X9_readsTown
set_option maxRecDepth 20000 in
theorem ggX9_town_X9_measures : GoodIn wsX9_town wsX9_measures := goodIn_r _ [71, 72, 9, 4, 73, 74, 75, 76, 77, 78, 79, 80, 81, 82, 83, 84, 85, 86, 87, 88, 89, 90, 91, 92, 93, 94, 95, 96, 97, 98, 99, 100, 101, 102, 103, 104, 105, 106, 107, 108, 109, 110, 111] (by decide +kernel) (by decide +kernel)
set_option maxRecDepth 20000 in
theorem gX9_town_X9_measures : GoodIn wsX9_town (wsV RX9 159 RX9 yX9_measures wsX9_measures) := goodIn_app (goodIn_of _ (by decide +kernel)) ggX9_town_X9_measures
theorem dX9_town_0 : decode cX9_town 0 = .ok (.iload_n 1, 1) := by decide +kernel
theorem dX9_town_1 : decode cX9_town 1 = .ok (.invokestatic 134, 3) := by decide +kernel
theorem dX9_town_4 : decode cX9_town 4 = .ok (.ifCond .eq 9, 3) := by decide +kernel
theorem dX9_town_7 : decode cX9_town 7 = .ok (.aload_n 0, 1) := by decide +kernel
theorem dX9_town_8 : decode cX9_town 8 = .ok (.iconst (-1), 1) := by decide +kernel
theorem dX9_town_9 : decode cX9_town 9 = .ok (.invokevirtual 138, 3) := by decide +kernel
theorem dX9_town_12 : decode cX9_town 12 = .ok (.ireturn, 1) := by decide +kernel
theorem dX9_town_13 : decode cX9_town 13 = .ok (.iload_n 2, 1) := by decide +kernel
theorem dX9_town_14 : decode cX9_town 14 = .ok (.i2l, 1) := by decide +kernel
theorem dX9_town_15 : decode cX9_town 15 = .ok (.lconst 0, 1) := by decide +kernel
theorem dX9_town_16 : decode cX9_town 16 = .ok (.ldc2_w 141, 3) := by decide +kernel
theorem dX9_town_19 : decode cX9_town 19 = .ok (.invokestatic 95, 3) := by decide +kernel
theorem dX9_town_22 : decode cX9_town 22 = .ok (.ifCond .ne 10, 3) := by decide +kernel
theorem dX9_town_25 : decode cX9_town 25 = .ok (.aload_n 0, 1) := by decide +kernel
theorem dX9_town_26 : decode cX9_town 26 = .ok (.bipush (-2), 2) := by decide +kernel
theorem dX9_town_28 : decode cX9_town 28 = .ok (.invokevirtual 138, 3) := by decide +kernel
theorem dX9_town_31 : decode cX9_town 31 = .ok (.ireturn, 1) := by decide +kernel
theorem dX9_town_32 : decode cX9_town 32 = .ok (.aload_n 0, 1) := by decide +kernel
theorem dX9_town_33 : decode cX9_town 33 = .ok (.iload_n 1, 1) := by decide +kernel
theorem dX9_town_34 : decode cX9_town 34 = .ok (.iload_n 2, 1) := by decide +kernel
theorem dX9_town_35 : decode cX9_town 35 = .ok (.iload_n 3, 1) := by decide +kernel
theorem dX9_town_36 : decode cX9_town 36 = .ok (.iload 4, 2) := by decide +kernel
theorem dX9_town_38 : decode cX9_town 38 = .ok (.i2l, 1) := by decide +kernel
theorem dX9_town_39 : decode cX9_town 39 = .ok (.invokevirtual 143, 3) := by decide +kernel
theorem dX9_town_42 : decode cX9_town 42 = .ok (.istore 5, 2) := by decide +kernel
theorem dX9_town_44 : decode cX9_town 44 = .ok (.iload 5, 2) := by decide +kernel
theorem dX9_town_46 : decode cX9_town 46 = .ok (.ifCond .ge 6, 3) := by decide +kernel
theorem dX9_town_49 : decode cX9_town 49 = .ok (.iload 5, 2) := by decide +kernel
theorem dX9_town_51 : decode cX9_town 51 = .ok (.ireturn, 1) := by decide +kernel
theorem dX9_town_52 : decode cX9_town 52 = .ok (.aload_n 0, 1) := by decide +kernel
theorem dX9_town_53 : decode cX9_town 53 = .ok (.bipush 60, 2) := by decide +kernel
theorem dX9_town_55 : decode cX9_town 55 = .ok (.iload_n 1, 1) := by decide +kernel
theorem dX9_town_56 : decode cX9_town 56 = .ok (.imul, 1) := by decide +kernel
theorem dX9_town_57 : decode cX9_town 57 = .ok (.iload_n 3, 1) := by decide +kernel
theorem dX9_town_58 : decode cX9_town 58 = .ok (.iadd, 1) := by decide +kernel
theorem dX9_town_59 : decode cX9_town 59 = .ok (.iload 4, 2) := by decide +kernel
theorem dX9_town_61 : decode cX9_town 61 = .ok (.invokevirtual 147, 3) := by decide +kernel
theorem dX9_town_64 : decode cX9_town 64 = .ok (.ifCond .ne 15, 3) := by decide +kernel
theorem dX9_town_67 : decode cX9_town 67 = .ok (.aload_n 0, 1) := by decide +kernel
theorem dX9_town_68 : decode cX9_town 68 = .ok (.bipush (-100), 2) := by decide +kernel
theorem dX9_town_70 : decode cX9_town 70 = .ok (.aload_n 0, 1) := by decide +kernel
theorem dX9_town_71 : decode cX9_town 71 = .ok (.getfield 102, 3) := by decide +kernel
theorem dX9_town_74 : decode cX9_town 74 = .ok (.isub, 1) := by decide +kernel
theorem dX9_town_75 : decode cX9_town 75 = .ok (.invokevirtual 138, 3) := by decide +kernel
theorem dX9_town_78 : decode cX9_town 78 = .ok (.ireturn, 1) := by decide +kernel
theorem dX9_town_79 : decode cX9_town 79 = .ok (.aload_n 0, 1) := by decide +kernel
theorem dX9_town_80 : decode cX9_town 80 = .ok (.aload_n 0, 1) := by decide +kernel
theorem dX9_town_81 : decode cX9_town 81 = .ok (.getfield 113, 3) := by decide +kernel
theorem dX9_town_84 : decode cX9_town 84 = .ok (.putfield 99, 3) := by decide +kernel
theorem dX9_town_87 : decode cX9_town 87 = .ok (.aload_n 0, 1) := by decide +kernel
theorem dX9_town_88 : decode cX9_town 88 = .ok (.aload_n 0, 1) := by decide +kernel
theorem dX9_town_89 : decode cX9_town 89 = .ok (.getfield 116, 3) := by decide +kernel
theorem dX9_town_92 : decode cX9_town 92 = .ok (.putfield 92, 3) := by decide +kernel
theorem dX9_town_95 : decode cX9_town 95 = .ok (.aload_n 0, 1) := by decide +kernel
theorem dX9_town_96 : decode cX9_town 96 = .ok (.iconst 0, 1) := by decide +kernel
theorem dX9_town_97 : decode cX9_town 97 = .ok (.putfield 150, 3) := by decide +kernel
theorem dX9_town_100 : decode cX9_town 100 = .ok (.aload_n 0, 1) := by decide +kernel
theorem dX9_town_101 : decode cX9_town 101 = .ok (.iconst 0, 1) := by decide +kernel
theorem dX9_town_102 : decode cX9_town 102 = .ok (.putfield 153, 3) := by decide +kernel
theorem dX9_town_105 : decode cX9_town 105 = .ok (.iconst 0, 1) := by decide +kernel
theorem dX9_town_106 : decode cX9_town 106 = .ok (.istore 6, 2) := by decide +kernel
theorem dX9_town_108 : decode cX9_town 108 = .ok (.iload 6, 2) := by decide +kernel
theorem dX9_town_110 : decode cX9_town 110 = .ok (.bipush 36, 2) := by decide +kernel
theorem dX9_town_112 : decode cX9_town 112 = .ok (.if_icmp .ge 23, 3) := by decide +kernel
theorem dX9_town_115 : decode cX9_town 115 = .ok (.aload_n 0, 1) := by decide +kernel
theorem dX9_town_116 : decode cX9_town 116 = .ok (.getfield 7, 3) := by decide +kernel
theorem dX9_town_119 : decode cX9_town 119 = .ok (.iload 6, 2) := by decide +kernel
theorem dX9_town_121 : decode cX9_town 121 = .ok (.aload_n 0, 1) := by decide +kernel
theorem dX9_town_122 : decode cX9_town 122 = .ok (.getfield 31, 3) := by decide +kernel
theorem dX9_town_125 : decode cX9_town 125 = .ok (.iload 6, 2) := by decide +kernel
theorem dX9_town_127 : decode cX9_town 127 = .ok (.iaload, 1) := by decide +kernel
theorem dX9_town_128 : decode cX9_town 128 = .ok (.iastore, 1) := by decide +kernel
theorem dX9_town_129 : decode cX9_town 129 = .ok (.iinc 6 1, 3) := by decide +kernel
theorem dX9_town_132 : decode cX9_town 132 = .ok (.goto (-24), 3) := by decide +kernel
theorem dX9_town_135 : decode cX9_town 135 = .ok (.iconst 0, 1) := by decide +kernel
theorem dX9_town_136 : decode cX9_town 136 = .ok (.istore 6, 2) := by decide +kernel
theorem dX9_town_138 : decode cX9_town 138 = .ok (.iload 6, 2) := by decide +kernel
theorem dX9_town_140 : decode cX9_town 140 = .ok (.aload_n 0, 1) := by decide +kernel
theorem dX9_town_141 : decode cX9_town 141 = .ok (.getfield 92, 3) := by decide +kernel
theorem dX9_town_144 : decode cX9_town 144 = .ok (.if_icmp .ge 73, 3) := by decide +kernel
theorem dX9_town_147 : decode cX9_town 147 = .ok (.aload_n 0, 1) := by decide +kernel
theorem dX9_town_148 : decode cX9_town 148 = .ok (.getfield 16, 3) := by decide +kernel
theorem dX9_town_151 : decode cX9_town 151 = .ok (.iload 6, 2) := by decide +kernel
theorem dX9_town_153 : decode cX9_town 153 = .ok (.aload_n 0, 1) := by decide +kernel
theorem dX9_town_154 : decode cX9_town 154 = .ok (.getfield 34, 3) := by decide +kernel
theorem dX9_town_157 : decode cX9_town 157 = .ok (.iload 6, 2) := by decide +kernel
theorem dX9_town_159 : decode cX9_town 159 = .ok (.iaload, 1) := by decide +kernel
theorem dX9_town_160 : decode cX9_town 160 = .ok (.iastore, 1) := by decide +kernel
theorem dX9_town_161 : decode cX9_town 161 = .ok (.aload_n 0, 1) := by decide +kernel
theorem dX9_town_162 : decode cX9_town 162 = .ok (.getfield 19, 3) := by decide +kernel
theorem dX9_town_165 : decode cX9_town 165 = .ok (.iload 6, 2) := by decide +kernel
theorem dX9_town_167 : decode cX9_town 167 = .ok (.aload_n 0, 1) := by decide +kernel
theorem dX9_town_168 : decode cX9_town 168 = .ok (.getfield 37, 3) := by decide +kernel
theorem dX9_town_171 : decode cX9_town 171 = .ok (.iload 6, 2) := by decide +kernel
theorem dX9_town_173 : decode cX9_town 173 = .ok (.iaload, 1) := by decide +kernel
theorem dX9_town_174 : decode cX9_town 174 = .ok (.iastore, 1) := by decide +kernel
theorem dX9_town_175 : decode cX9_town 175 = .ok (.aload_n 0, 1) := by decide +kernel
theorem dX9_town_176 : decode cX9_town 176 = .ok (.getfield 22, 3) := by decide +kernel
theorem dX9_town_179 : decode cX9_town 179 = .ok (.iload 6, 2) := by decide +kernel
theorem dX9_town_181 : decode cX9_town 181 = .ok (.aload_n 0, 1) := by decide +kernel
theorem dX9_town_182 : decode cX9_town 182 = .ok (.getfield 40, 3) := by decide +kernel
theorem dX9_town_185 : decode cX9_town 185 = .ok (.iload 6, 2) := by decide +kernel
theorem dX9_town_187 : decode cX9_town 187 = .ok (.iaload, 1) := by decide +kernel
theorem dX9_town_188 : decode cX9_town 188 = .ok (.iastore, 1) := by decide +kernel
theorem dX9_town_189 : decode cX9_town 189 = .ok (.aload_n 0, 1) := by decide +kernel
theorem dX9_town_190 : decode cX9_town 190 = .ok (.getfield 25, 3) := by decide +kernel
theorem dX9_town_193 : decode cX9_town 193 = .ok (.iload 6, 2) := by decide +kernel
theorem dX9_town_195 : decode cX9_town 195 = .ok (.aload_n 0, 1) := by decide +kernel
theorem dX9_town_196 : decode cX9_town 196 = .ok (.getfield 43, 3) := by decide +kernel
theorem dX9_town_199 : decode cX9_town 199 = .ok (.iload 6, 2) := by decide +kernel
theorem dX9_town_201 : decode cX9_town 201 = .ok (.iaload, 1) := by decide +kernel
theorem dX9_town_202 : decode cX9_town 202 = .ok (.iastore, 1) := by decide +kernel
theorem dX9_town_203 : decode cX9_town 203 = .ok (.aload_n 0, 1) := by decide +kernel
theorem dX9_town_204 : decode cX9_town 204 = .ok (.getfield 28, 3) := by decide +kernel
theorem dX9_town_207 : decode cX9_town 207 = .ok (.iload 6, 2) := by decide +kernel
theorem dX9_town_209 : decode cX9_town 209 = .ok (.iconst 0, 1) := by decide +kernel
theorem dX9_town_210 : decode cX9_town 210 = .ok (.iastore, 1) := by decide +kernel
theorem dX9_town_211 : decode cX9_town 211 = .ok (.iinc 6 1, 3) := by decide +kernel
theorem dX9_town_214 : decode cX9_town 214 = .ok (.goto (-76), 3) := by decide +kernel
theorem dX9_town_217 : decode cX9_town 217 = .ok (.aload_n 0, 1) := by decide +kernel
theorem dX9_town_218 : decode cX9_town 218 = .ok (.iconst 0, 1) := by decide +kernel
theorem dX9_town_219 : decode cX9_town 219 = .ok (.putfield 156, 3) := by decide +kernel
theorem dX9_town_222 : decode cX9_town 222 = .ok (.aload_n 0, 1) := by decide +kernel
theorem dX9_town_223 : decode cX9_town 223 = .ok (.invokevirtual 159, 3) := by decide +kernel
theorem dX9_town_226 : decode cX9_town 226 = .ok (.aload_n 0, 1) := by decide +kernel
theorem dX9_town_227 : decode cX9_town 227 = .ok (.aload_n 0, 1) := by decide +kernel
theorem dX9_town_228 : decode cX9_town 228 = .ok (.getfield 92, 3) := by decide +kernel
theorem dX9_town_231 : decode cX9_town 231 = .ok (.invokevirtual 138, 3) := by decide +kernel
theorem dX9_town_234 : decode cX9_town 234 = .ok (.ireturn, 1) := by decide +kernel
theorem dX9_measures_0 : decode cX9_measures 0 = .ok (.iconst 0, 1) := by decide +kernel
theorem dX9_measures_1 : decode cX9_measures 1 = .ok (.istore_n 1, 1) := by decide +kernel
theorem dX9_measures_2 : decode cX9_measures 2 = .ok (.iload_n 1, 1) := by decide +kernel
theorem dX9_measures_3 : decode cX9_measures 3 = .ok (.bipush 36, 2) := by decide +kernel
theorem dX9_measures_5 : decode cX9_measures 5 = .ok (.if_icmp .ge 46, 3) := by decide +kernel
theorem dX9_measures_8 : decode cX9_measures 8 = .ok (.aload_n 0, 1) := by decide +kernel
theorem dX9_measures_9 : decode cX9_measures 9 = .ok (.getfield 13, 3) := by decide +kernel
theorem dX9_measures_12 : decode cX9_measures 12 = .ok (.iload_n 1, 1) := by decide +kernel
theorem dX9_measures_13 : decode cX9_measures 13 = .ok (.iload_n 1, 1) := by decide +kernel
theorem dX9_measures_14 : decode cX9_measures 14 = .ok (.bipush 7, 2) := by decide +kernel
theorem dX9_measures_16 : decode cX9_measures 16 = .ok (.irem, 1) := by decide +kernel
theorem dX9_measures_17 : decode cX9_measures 17 = .ok (.ifCond .ne 7, 3) := by decide +kernel
theorem dX9_measures_20 : decode cX9_measures 20 = .ok (.iconst 0, 1) := by decide +kernel
theorem dX9_measures_21 : decode cX9_measures 21 = .ok (.goto 23, 3) := by decide +kernel
theorem dX9_measures_24 : decode cX9_measures 24 = .ok (.aload_n 0, 1) := by decide +kernel
theorem dX9_measures_25 : decode cX9_measures 25 = .ok (.getfield 7, 3) := by decide +kernel
theorem dX9_measures_28 : decode cX9_measures 28 = .ok (.iload_n 1, 1) := by decide +kernel
theorem dX9_measures_29 : decode cX9_measures 29 = .ok (.iaload, 1) := by decide +kernel
theorem dX9_measures_30 : decode cX9_measures 30 = .ok (.ifCond .le 12, 3) := by decide +kernel
theorem dX9_measures_33 : decode cX9_measures 33 = .ok (.aload_n 0, 1) := by decide +kernel
theorem dX9_measures_34 : decode cX9_measures 34 = .ok (.getfield 7, 3) := by decide +kernel
theorem dX9_measures_37 : decode cX9_measures 37 = .ok (.iload_n 1, 1) := by decide +kernel
theorem dX9_measures_38 : decode cX9_measures 38 = .ok (.iaload, 1) := by decide +kernel
theorem dX9_measures_39 : decode cX9_measures 39 = .ok (.goto 5, 3) := by decide +kernel
theorem dX9_measures_42 : decode cX9_measures 42 = .ok (.bipush (-9), 2) := by decide +kernel
theorem dX9_measures_44 : decode cX9_measures 44 = .ok (.iastore, 1) := by decide +kernel
theorem dX9_measures_45 : decode cX9_measures 45 = .ok (.iinc 1 1, 3) := by decide +kernel
theorem dX9_measures_48 : decode cX9_measures 48 = .ok (.goto (-46), 3) := by decide +kernel
theorem dX9_measures_51 : decode cX9_measures 51 = .ok (.iconst 0, 1) := by decide +kernel
theorem dX9_measures_52 : decode cX9_measures 52 = .ok (.istore_n 1, 1) := by decide +kernel
theorem dX9_measures_53 : decode cX9_measures 53 = .ok (.iload_n 1, 1) := by decide +kernel
theorem dX9_measures_54 : decode cX9_measures 54 = .ok (.aload_n 0, 1) := by decide +kernel
theorem dX9_measures_55 : decode cX9_measures 55 = .ok (.getfield 99, 3) := by decide +kernel
theorem dX9_measures_58 : decode cX9_measures 58 = .ok (.if_icmp .ge 164, 3) := by decide +kernel
theorem dX9_measures_61 : decode cX9_measures 61 = .ok (.iconst 0, 1) := by decide +kernel
theorem dX9_measures_62 : decode cX9_measures 62 = .ok (.istore_n 2, 1) := by decide +kernel
theorem dX9_measures_63 : decode cX9_measures 63 = .ok (.iload_n 2, 1) := by decide +kernel
theorem dX9_measures_64 : decode cX9_measures 64 = .ok (.aload_n 0, 1) := by decide +kernel
theorem dX9_measures_65 : decode cX9_measures 65 = .ok (.getfield 99, 3) := by decide +kernel
theorem dX9_measures_68 : decode cX9_measures 68 = .ok (.if_icmp .ge 148, 3) := by decide +kernel
theorem dX9_measures_71 : decode cX9_measures 71 = .ok (.iconst 0, 1) := by decide +kernel
theorem dX9_measures_72 : decode cX9_measures 72 = .ok (.istore_n 3, 1) := by decide +kernel
theorem dX9_measures_73 : decode cX9_measures 73 = .ok (.iload_n 3, 1) := by decide +kernel
theorem dX9_measures_74 : decode cX9_measures 74 = .ok (.aload_n 0, 1) := by decide +kernel
theorem dX9_measures_75 : decode cX9_measures 75 = .ok (.getfield 99, 3) := by decide +kernel
theorem dX9_measures_78 : decode cX9_measures 78 = .ok (.if_icmp .ge 132, 3) := by decide +kernel
theorem dX9_measures_81 : decode cX9_measures 81 = .ok (.aload_n 0, 1) := by decide +kernel
theorem dX9_measures_82 : decode cX9_measures 82 = .ok (.getfield 13, 3) := by decide +kernel
theorem dX9_measures_85 : decode cX9_measures 85 = .ok (.bipush 6, 2) := by decide +kernel
theorem dX9_measures_87 : decode cX9_measures 87 = .ok (.iload_n 2, 1) := by decide +kernel
theorem dX9_measures_88 : decode cX9_measures 88 = .ok (.imul, 1) := by decide +kernel
theorem dX9_measures_89 : decode cX9_measures 89 = .ok (.iload_n 1, 1) := by decide +kernel
theorem dX9_measures_90 : decode cX9_measures 90 = .ok (.iadd, 1) := by decide +kernel
theorem dX9_measures_91 : decode cX9_measures 91 = .ok (.iaload, 1) := by decide +kernel
theorem dX9_measures_92 : decode cX9_measures 92 = .ok (.istore 4, 2) := by decide +kernel
theorem dX9_measures_94 : decode cX9_measures 94 = .ok (.aload_n 0, 1) := by decide +kernel
theorem dX9_measures_95 : decode cX9_measures 95 = .ok (.getfield 13, 3) := by decide +kernel
theorem dX9_measures_98 : decode cX9_measures 98 = .ok (.bipush 6, 2) := by decide +kernel
theorem dX9_measures_100 : decode cX9_measures 100 = .ok (.iload_n 1, 1) := by decide +kernel
theorem dX9_measures_101 : decode cX9_measures 101 = .ok (.imul, 1) := by decide +kernel
theorem dX9_measures_102 : decode cX9_measures 102 = .ok (.iload_n 3, 1) := by decide +kernel
theorem dX9_measures_103 : decode cX9_measures 103 = .ok (.iadd, 1) := by decide +kernel
theorem dX9_measures_104 : decode cX9_measures 104 = .ok (.iaload, 1) := by decide +kernel
theorem dX9_measures_105 : decode cX9_measures 105 = .ok (.istore 5, 2) := by decide +kernel
theorem dX9_measures_107 : decode cX9_measures 107 = .ok (.iload 4, 2) := by decide +kernel
theorem dX9_measures_109 : decode cX9_measures 109 = .ok (.ifCond .lt 12, 3) := by decide +kernel
theorem dX9_measures_112 : decode cX9_measures 112 = .ok (.iload 5, 2) := by decide +kernel
theorem dX9_measures_114 : decode cX9_measures 114 = .ok (.ifCond .lt 7, 3) := by decide +kernel
theorem dX9_measures_117 : decode cX9_measures 117 = .ok (.iconst 1, 1) := by decide +kernel
theorem dX9_measures_118 : decode cX9_measures 118 = .ok (.goto 4, 3) := by decide +kernel
theorem dX9_measures_121 : decode cX9_measures 121 = .ok (.iconst 0, 1) := by decide +kernel
theorem dX9_measures_122 : decode cX9_measures 122 = .ok (.istore 6, 2) := by decide +kernel
theorem dX9_measures_124 : decode cX9_measures 124 = .ok (.iload 6, 2) := by decide +kernel
theorem dX9_measures_126 : decode cX9_measures 126 = .ok (.ifCond .eq 40, 3) := by decide +kernel
theorem dX9_measures_129 : decode cX9_measures 129 = .ok (.aload_n 0, 1) := by decide +kernel
theorem dX9_measures_130 : decode cX9_measures 130 = .ok (.getfield 13, 3) := by decide +kernel
theorem dX9_measures_133 : decode cX9_measures 133 = .ok (.bipush 6, 2) := by decide +kernel
theorem dX9_measures_135 : decode cX9_measures 135 = .ok (.iload_n 2, 1) := by decide +kernel
theorem dX9_measures_136 : decode cX9_measures 136 = .ok (.imul, 1) := by decide +kernel
theorem dX9_measures_137 : decode cX9_measures 137 = .ok (.iload_n 3, 1) := by decide +kernel
theorem dX9_measures_138 : decode cX9_measures 138 = .ok (.iadd, 1) := by decide +kernel
theorem dX9_measures_139 : decode cX9_measures 139 = .ok (.iaload, 1) := by decide +kernel
theorem dX9_measures_140 : decode cX9_measures 140 = .ok (.ifCond .lt 22, 3) := by decide +kernel
theorem dX9_measures_143 : decode cX9_measures 143 = .ok (.iload 4, 2) := by decide +kernel
theorem dX9_measures_145 : decode cX9_measures 145 = .ok (.iload 5, 2) := by decide +kernel
theorem dX9_measures_147 : decode cX9_measures 147 = .ok (.iadd, 1) := by decide +kernel
theorem dX9_measures_148 : decode cX9_measures 148 = .ok (.aload_n 0, 1) := by decide +kernel
theorem dX9_measures_149 : decode cX9_measures 149 = .ok (.getfield 13, 3) := by decide +kernel
theorem dX9_measures_152 : decode cX9_measures 152 = .ok (.bipush 6, 2) := by decide +kernel
theorem dX9_measures_154 : decode cX9_measures 154 = .ok (.iload_n 2, 1) := by decide +kernel
theorem dX9_measures_155 : decode cX9_measures 155 = .ok (.imul, 1) := by decide +kernel
theorem dX9_measures_156 : decode cX9_measures 156 = .ok (.iload_n 3, 1) := by decide +kernel
theorem dX9_measures_157 : decode cX9_measures 157 = .ok (.iadd, 1) := by decide +kernel
theorem dX9_measures_158 : decode cX9_measures 158 = .ok (.iaload, 1) := by decide +kernel
theorem dX9_measures_159 : decode cX9_measures 159 = .ok (.if_icmp .ge 7, 3) := by decide +kernel
theorem dX9_measures_162 : decode cX9_measures 162 = .ok (.iconst 1, 1) := by decide +kernel
theorem dX9_measures_163 : decode cX9_measures 163 = .ok (.goto 4, 3) := by decide +kernel
theorem dX9_measures_166 : decode cX9_measures 166 = .ok (.iconst 0, 1) := by decide +kernel
theorem dX9_measures_167 : decode cX9_measures 167 = .ok (.istore 7, 2) := by decide +kernel
theorem dX9_measures_169 : decode cX9_measures 169 = .ok (.aload_n 0, 1) := by decide +kernel
theorem dX9_measures_170 : decode cX9_measures 170 = .ok (.getfield 13, 3) := by decide +kernel
theorem dX9_measures_173 : decode cX9_measures 173 = .ok (.bipush 6, 2) := by decide +kernel
theorem dX9_measures_175 : decode cX9_measures 175 = .ok (.iload_n 2, 1) := by decide +kernel
theorem dX9_measures_176 : decode cX9_measures 176 = .ok (.imul, 1) := by decide +kernel
theorem dX9_measures_177 : decode cX9_measures 177 = .ok (.iload_n 3, 1) := by decide +kernel
theorem dX9_measures_178 : decode cX9_measures 178 = .ok (.iadd, 1) := by decide +kernel
theorem dX9_measures_179 : decode cX9_measures 179 = .ok (.iload 7, 2) := by decide +kernel
theorem dX9_measures_181 : decode cX9_measures 181 = .ok (.ifCond .eq 11, 3) := by decide +kernel
theorem dX9_measures_184 : decode cX9_measures 184 = .ok (.iload 4, 2) := by decide +kernel
theorem dX9_measures_186 : decode cX9_measures 186 = .ok (.iload 5, 2) := by decide +kernel
theorem dX9_measures_188 : decode cX9_measures 188 = .ok (.iadd, 1) := by decide +kernel
theorem dX9_measures_189 : decode cX9_measures 189 = .ok (.goto 14, 3) := by decide +kernel
theorem dX9_measures_192 : decode cX9_measures 192 = .ok (.aload_n 0, 1) := by decide +kernel
theorem dX9_measures_193 : decode cX9_measures 193 = .ok (.getfield 13, 3) := by decide +kernel
theorem dX9_measures_196 : decode cX9_measures 196 = .ok (.bipush 6, 2) := by decide +kernel
theorem dX9_measures_198 : decode cX9_measures 198 = .ok (.iload_n 2, 1) := by decide +kernel
theorem dX9_measures_199 : decode cX9_measures 199 = .ok (.imul, 1) := by decide +kernel
theorem dX9_measures_200 : decode cX9_measures 200 = .ok (.iload_n 3, 1) := by decide +kernel
theorem dX9_measures_201 : decode cX9_measures 201 = .ok (.iadd, 1) := by decide +kernel
theorem dX9_measures_202 : decode cX9_measures 202 = .ok (.iaload, 1) := by decide +kernel
theorem dX9_measures_203 : decode cX9_measures 203 = .ok (.iastore, 1) := by decide +kernel
theorem dX9_measures_204 : decode cX9_measures 204 = .ok (.iinc 3 1, 3) := by decide +kernel
theorem dX9_measures_207 : decode cX9_measures 207 = .ok (.goto (-134), 3) := by decide +kernel
theorem dX9_measures_210 : decode cX9_measures 210 = .ok (.iinc 2 1, 3) := by decide +kernel
theorem dX9_measures_213 : decode cX9_measures 213 = .ok (.goto (-150), 3) := by decide +kernel
theorem dX9_measures_216 : decode cX9_measures 216 = .ok (.iinc 1 1, 3) := by decide +kernel
theorem dX9_measures_219 : decode cX9_measures 219 = .ok (.goto (-166), 3) := by decide +kernel
theorem dX9_measures_222 : decode cX9_measures 222 = .ok (.return_, 1) := by decide +kernel
theorem dX9_farFrom_0 : decode cX9_farFrom 0 = .ok (.aload_n 0, 1) := by decide +kernel
theorem dX9_farFrom_1 : decode cX9_farFrom 1 = .ok (.getfield 13, 3) := by decide +kernel
theorem dX9_farFrom_4 : decode cX9_farFrom 4 = .ok (.bipush 6, 2) := by decide +kernel
theorem dX9_farFrom_6 : decode cX9_farFrom 6 = .ok (.iload_n 1, 1) := by decide +kernel
theorem dX9_farFrom_7 : decode cX9_farFrom 7 = .ok (.imul, 1) := by decide +kernel
theorem dX9_farFrom_8 : decode cX9_farFrom 8 = .ok (.iload_n 2, 1) := by decide +kernel
theorem dX9_farFrom_9 : decode cX9_farFrom 9 = .ok (.iadd, 1) := by decide +kernel
theorem dX9_farFrom_10 : decode cX9_farFrom 10 = .ok (.iaload, 1) := by decide +kernel
theorem dX9_farFrom_11 : decode cX9_farFrom 11 = .ok (.ireturn, 1) := by decide +kernel
theorem dX9_paceOf_0 : decode cX9_paceOf 0 = .ok (.aload_n 0, 1) := by decide +kernel
theorem dX9_paceOf_1 : decode cX9_paceOf 1 = .ok (.getfield 25, 3) := by decide +kernel
theorem dX9_paceOf_4 : decode cX9_paceOf 4 = .ok (.iload_n 1, 1) := by decide +kernel
theorem dX9_paceOf_5 : decode cX9_paceOf 5 = .ok (.iaload, 1) := by decide +kernel
theorem dX9_paceOf_6 : decode cX9_paceOf 6 = .ok (.iconst 1, 1) := by decide +kernel
theorem dX9_paceOf_7 : decode cX9_paceOf 7 = .ok (.iadd, 1) := by decide +kernel
theorem dX9_paceOf_8 : decode cX9_paceOf 8 = .ok (.istore_n 2, 1) := by decide +kernel
theorem dX9_paceOf_9 : decode cX9_paceOf 9 = .ok (.aload_n 0, 1) := by decide +kernel
theorem dX9_paceOf_10 : decode cX9_paceOf 10 = .ok (.getfield 16, 3) := by decide +kernel
theorem dX9_paceOf_13 : decode cX9_paceOf 13 = .ok (.iload_n 1, 1) := by decide +kernel
theorem dX9_paceOf_14 : decode cX9_paceOf 14 = .ok (.iaload, 1) := by decide +kernel
theorem dX9_paceOf_15 : decode cX9_paceOf 15 = .ok (.ifCond .ne 12, 3) := by decide +kernel
theorem dX9_paceOf_18 : decode cX9_paceOf 18 = .ok (.aload_n 0, 1) := by decide +kernel
theorem dX9_paceOf_19 : decode cX9_paceOf 19 = .ok (.getfield 25, 3) := by decide +kernel
theorem dX9_paceOf_22 : decode cX9_paceOf 22 = .ok (.iload_n 1, 1) := by decide +kernel
theorem dX9_paceOf_23 : decode cX9_paceOf 23 = .ok (.iaload, 1) := by decide +kernel
theorem dX9_paceOf_24 : decode cX9_paceOf 24 = .ok (.goto 20, 3) := by decide +kernel
theorem dX9_paceOf_27 : decode cX9_paceOf 27 = .ok (.aload_n 0, 1) := by decide +kernel
theorem dX9_paceOf_28 : decode cX9_paceOf 28 = .ok (.getfield 16, 3) := by decide +kernel
theorem dX9_paceOf_31 : decode cX9_paceOf 31 = .ok (.iload_n 1, 1) := by decide +kernel
theorem dX9_paceOf_32 : decode cX9_paceOf 32 = .ok (.iaload, 1) := by decide +kernel
theorem dX9_paceOf_33 : decode cX9_paceOf 33 = .ok (.iconst 1, 1) := by decide +kernel
theorem dX9_paceOf_34 : decode cX9_paceOf 34 = .ok (.if_icmp .ne 7, 3) := by decide +kernel
theorem dX9_paceOf_37 : decode cX9_paceOf 37 = .ok (.iload_n 2, 1) := by decide +kernel
theorem dX9_paceOf_38 : decode cX9_paceOf 38 = .ok (.goto 6, 3) := by decide +kernel
theorem dX9_paceOf_41 : decode cX9_paceOf 41 = .ok (.iload_n 2, 1) := by decide +kernel
theorem dX9_paceOf_42 : decode cX9_paceOf 42 = .ok (.iconst 2, 1) := by decide +kernel
theorem dX9_paceOf_43 : decode cX9_paceOf 43 = .ok (.idiv, 1) := by decide +kernel
theorem dX9_paceOf_44 : decode cX9_paceOf 44 = .ok (.ireturn, 1) := by decide +kernel
set_option maxRecDepth 20000 in
theorem ggX9_hasArrived_X9_farFrom : GoodIn wsX9_hasArrived wsX9_farFrom := goodIn_r _ [8, 9, 10, 11, 12, 13, 14, 15, 16, 17, 18, 19, 20, 21, 22, 23, 24, 25, 26, 27, 28, 29, 30, 31, 32, 33, 34, 35, 36, 37, 38, 39, 40, 41, 42, 43, 44, 45, 46, 47, 48] (by decide +kernel) (by decide +kernel)
set_option maxRecDepth 20000 in
theorem gX9_hasArrived_X9_farFrom : GoodIn wsX9_hasArrived (wsV RX9 162 RX9 yX9_farFrom wsX9_farFrom) := goodIn_app (goodIn_of _ (by decide +kernel)) ggX9_hasArrived_X9_farFrom
theorem dX9_hasArrived_0 : decode cX9_hasArrived 0 = .ok (.aload_n 0, 1) := by decide +kernel
theorem dX9_hasArrived_1 : decode cX9_hasArrived 1 = .ok (.aload_n 0, 1) := by decide +kernel
theorem dX9_hasArrived_2 : decode cX9_hasArrived 2 = .ok (.getfield 19, 3) := by decide +kernel
theorem dX9_hasArrived_5 : decode cX9_hasArrived 5 = .ok (.iload_n 1, 1) := by decide +kernel
theorem dX9_hasArrived_6 : decode cX9_hasArrived 6 = .ok (.iaload, 1) := by decide +kernel
theorem dX9_hasArrived_7 : decode cX9_hasArrived 7 = .ok (.aload_n 0, 1) := by decide +kernel
theorem dX9_hasArrived_8 : decode cX9_hasArrived 8 = .ok (.getfield 22, 3) := by decide +kernel
theorem dX9_hasArrived_11 : decode cX9_hasArrived 11 = .ok (.iload_n 1, 1) := by decide +kernel
theorem dX9_hasArrived_12 : decode cX9_hasArrived 12 = .ok (.iaload, 1) := by decide +kernel
theorem dX9_hasArrived_13 : decode cX9_hasArrived 13 = .ok (.invokevirtual 162, 3) := by decide +kernel
theorem dX9_hasArrived_16 : decode cX9_hasArrived 16 = .ok (.istore_n 2, 1) := by decide +kernel
theorem dX9_hasArrived_17 : decode cX9_hasArrived 17 = .ok (.iload_n 2, 1) := by decide +kernel
theorem dX9_hasArrived_18 : decode cX9_hasArrived 18 = .ok (.ifCond .lt 17, 3) := by decide +kernel
theorem dX9_hasArrived_21 : decode cX9_hasArrived 21 = .ok (.aload_n 0, 1) := by decide +kernel
theorem dX9_hasArrived_22 : decode cX9_hasArrived 22 = .ok (.getfield 28, 3) := by decide +kernel
theorem dX9_hasArrived_25 : decode cX9_hasArrived 25 = .ok (.iload_n 1, 1) := by decide +kernel
theorem dX9_hasArrived_26 : decode cX9_hasArrived 26 = .ok (.iaload, 1) := by decide +kernel
theorem dX9_hasArrived_27 : decode cX9_hasArrived 27 = .ok (.iload_n 2, 1) := by decide +kernel
theorem dX9_hasArrived_28 : decode cX9_hasArrived 28 = .ok (.if_icmp .lt 7, 3) := by decide +kernel
theorem dX9_hasArrived_31 : decode cX9_hasArrived 31 = .ok (.iconst 1, 1) := by decide +kernel
theorem dX9_hasArrived_32 : decode cX9_hasArrived 32 = .ok (.goto 4, 3) := by decide +kernel
theorem dX9_hasArrived_35 : decode cX9_hasArrived 35 = .ok (.iconst 0, 1) := by decide +kernel
theorem dX9_hasArrived_36 : decode cX9_hasArrived 36 = .ok (.ireturn, 1) := by decide +kernel
set_option maxRecDepth 20000 in
theorem ggX9_ofFootman_X9_noFootman : GoodIn wsX9_ofFootman wsX9_noFootman := goodIn_r _ [11, 12, 13, 14, 10, 15, 29, 30, 31, 32, 33, 34, 35, 36, 37, 38, 39, 40, 41, 42, 43, 44, 45, 46, 47, 48, 49, 50, 51, 52, 53, 54, 55, 56, 57, 58, 59, 60, 61, 62, 63, 64, 65, 66, 67] (by decide +kernel) (by decide +kernel)
set_option maxRecDepth 20000 in
theorem gX9_ofFootman_X9_noFootman : GoodIn wsX9_ofFootman (wsV RX9 165 RX9 yX9_noFootman wsX9_noFootman) := goodIn_app (goodIn_of _ (by decide +kernel)) ggX9_ofFootman_X9_noFootman
set_option maxRecDepth 20000 in
theorem ggX9_ofFootman_X9_paceOf : GoodIn wsX9_ofFootman wsX9_paceOf := goodIn_r _ [19, 4, 1, 29, 30, 31, 32, 33, 34, 35, 36, 37, 38, 39, 40, 41, 42, 43, 44, 45, 46, 47, 48, 49, 50, 51, 52, 53, 54, 55, 56, 57, 58, 59, 60, 61, 62, 63, 64, 65, 66, 67] (by decide +kernel) (by decide +kernel)
set_option maxRecDepth 20000 in
theorem gX9_ofFootman_X9_paceOf : GoodIn wsX9_ofFootman (wsV RX9 168 RX9 yX9_paceOf wsX9_paceOf) := goodIn_app (goodIn_of _ (by decide +kernel)) ggX9_ofFootman_X9_paceOf
set_option maxRecDepth 20000 in
theorem ggX9_ofFootman_X9_hasArrived : GoodIn wsX9_ofFootman wsX9_hasArrived := goodIn_r _ [23, 2, 3, 5, 24, 25, 26, 10, 27, 28, 29, 30, 31, 32, 33, 34, 35, 36, 37, 38, 39, 40, 41, 42, 43, 44, 45, 46, 47, 48, 49, 50, 51, 52, 53, 54, 55, 56, 57, 58, 59, 60, 61, 62, 63, 64, 65, 66, 67] (by decide +kernel) (by decide +kernel)
set_option maxRecDepth 20000 in
theorem gX9_ofFootman_X9_hasArrived : GoodIn wsX9_ofFootman (wsV RX9 171 RX9 yX9_hasArrived wsX9_hasArrived) := goodIn_app (goodIn_of _ (by decide +kernel)) ggX9_ofFootman_X9_hasArrived
theorem dX9_ofFootman_0 : decode cX9_ofFootman 0 = .ok (.aload_n 0, 1) := by decide +kernel
theorem dX9_ofFootman_1 : decode cX9_ofFootman 1 = .ok (.iload_n 1, 1) := by decide +kernel
theorem dX9_ofFootman_2 : decode cX9_ofFootman 2 = .ok (.invokevirtual 165, 3) := by decide +kernel
theorem dX9_ofFootman_5 : decode cX9_ofFootman 5 = .ok (.ifCond .eq 5, 3) := by decide +kernel
theorem dX9_ofFootman_8 : decode cX9_ofFootman 8 = .ok (.iconst (-1), 1) := by decide +kernel
theorem dX9_ofFootman_9 : decode cX9_ofFootman 9 = .ok (.ireturn, 1) := by decide +kernel
theorem dX9_ofFootman_10 : decode cX9_ofFootman 10 = .ok (.iload_n 2, 1) := by decide +kernel
theorem dX9_ofFootman_11 : decode cX9_ofFootman 11 = .ok (.tableswitch 109 0 7 #[45, 52, 59, 66, 73, 79, 86, 95], 45) := by decide +kernel
theorem dX9_ofFootman_56 : decode cX9_ofFootman 56 = .ok (.aload_n 0, 1) := by decide +kernel
theorem dX9_ofFootman_57 : decode cX9_ofFootman 57 = .ok (.getfield 16, 3) := by decide +kernel
theorem dX9_ofFootman_60 : decode cX9_ofFootman 60 = .ok (.iload_n 1, 1) := by decide +kernel
theorem dX9_ofFootman_61 : decode cX9_ofFootman 61 = .ok (.iaload, 1) := by decide +kernel
theorem dX9_ofFootman_62 : decode cX9_ofFootman 62 = .ok (.ireturn, 1) := by decide +kernel
theorem dX9_ofFootman_63 : decode cX9_ofFootman 63 = .ok (.aload_n 0, 1) := by decide +kernel
theorem dX9_ofFootman_64 : decode cX9_ofFootman 64 = .ok (.getfield 19, 3) := by decide +kernel
theorem dX9_ofFootman_67 : decode cX9_ofFootman 67 = .ok (.iload_n 1, 1) := by decide +kernel
theorem dX9_ofFootman_68 : decode cX9_ofFootman 68 = .ok (.iaload, 1) := by decide +kernel
theorem dX9_ofFootman_69 : decode cX9_ofFootman 69 = .ok (.ireturn, 1) := by decide +kernel
theorem dX9_ofFootman_70 : decode cX9_ofFootman 70 = .ok (.aload_n 0, 1) := by decide +kernel
theorem dX9_ofFootman_71 : decode cX9_ofFootman 71 = .ok (.getfield 22, 3) := by decide +kernel
theorem dX9_ofFootman_74 : decode cX9_ofFootman 74 = .ok (.iload_n 1, 1) := by decide +kernel
theorem dX9_ofFootman_75 : decode cX9_ofFootman 75 = .ok (.iaload, 1) := by decide +kernel
theorem dX9_ofFootman_76 : decode cX9_ofFootman 76 = .ok (.ireturn, 1) := by decide +kernel
theorem dX9_ofFootman_77 : decode cX9_ofFootman 77 = .ok (.aload_n 0, 1) := by decide +kernel
theorem dX9_ofFootman_78 : decode cX9_ofFootman 78 = .ok (.getfield 25, 3) := by decide +kernel
theorem dX9_ofFootman_81 : decode cX9_ofFootman 81 = .ok (.iload_n 1, 1) := by decide +kernel
theorem dX9_ofFootman_82 : decode cX9_ofFootman 82 = .ok (.iaload, 1) := by decide +kernel
theorem dX9_ofFootman_83 : decode cX9_ofFootman 83 = .ok (.ireturn, 1) := by decide +kernel
theorem dX9_ofFootman_84 : decode cX9_ofFootman 84 = .ok (.aload_n 0, 1) := by decide +kernel
theorem dX9_ofFootman_85 : decode cX9_ofFootman 85 = .ok (.iload_n 1, 1) := by decide +kernel
theorem dX9_ofFootman_86 : decode cX9_ofFootman 86 = .ok (.invokevirtual 168, 3) := by decide +kernel
theorem dX9_ofFootman_89 : decode cX9_ofFootman 89 = .ok (.ireturn, 1) := by decide +kernel
theorem dX9_ofFootman_90 : decode cX9_ofFootman 90 = .ok (.aload_n 0, 1) := by decide +kernel
theorem dX9_ofFootman_91 : decode cX9_ofFootman 91 = .ok (.getfield 28, 3) := by decide +kernel
theorem dX9_ofFootman_94 : decode cX9_ofFootman 94 = .ok (.iload_n 1, 1) := by decide +kernel
theorem dX9_ofFootman_95 : decode cX9_ofFootman 95 = .ok (.iaload, 1) := by decide +kernel
theorem dX9_ofFootman_96 : decode cX9_ofFootman 96 = .ok (.ireturn, 1) := by decide +kernel
theorem dX9_ofFootman_97 : decode cX9_ofFootman 97 = .ok (.aload_n 0, 1) := by decide +kernel
theorem dX9_ofFootman_98 : decode cX9_ofFootman 98 = .ok (.getfield 153, 3) := by decide +kernel
theorem dX9_ofFootman_101 : decode cX9_ofFootman 101 = .ok (.iload_n 1, 1) := by decide +kernel
theorem dX9_ofFootman_102 : decode cX9_ofFootman 102 = .ok (.ishr, 1) := by decide +kernel
theorem dX9_ofFootman_103 : decode cX9_ofFootman 103 = .ok (.iconst 1, 1) := by decide +kernel
theorem dX9_ofFootman_104 : decode cX9_ofFootman 104 = .ok (.iand, 1) := by decide +kernel
theorem dX9_ofFootman_105 : decode cX9_ofFootman 105 = .ok (.ireturn, 1) := by decide +kernel
theorem dX9_ofFootman_106 : decode cX9_ofFootman 106 = .ok (.aload_n 0, 1) := by decide +kernel
theorem dX9_ofFootman_107 : decode cX9_ofFootman 107 = .ok (.iload_n 1, 1) := by decide +kernel
theorem dX9_ofFootman_108 : decode cX9_ofFootman 108 = .ok (.invokevirtual 171, 3) := by decide +kernel
theorem dX9_ofFootman_111 : decode cX9_ofFootman 111 = .ok (.ifCond .eq 7, 3) := by decide +kernel
theorem dX9_ofFootman_114 : decode cX9_ofFootman 114 = .ok (.iconst 1, 1) := by decide +kernel
theorem dX9_ofFootman_115 : decode cX9_ofFootman 115 = .ok (.goto 4, 3) := by decide +kernel
theorem dX9_ofFootman_118 : decode cX9_ofFootman 118 = .ok (.iconst 0, 1) := by decide +kernel
theorem dX9_ofFootman_119 : decode cX9_ofFootman 119 = .ok (.ireturn, 1) := by decide +kernel
theorem dX9_ofFootman_120 : decode cX9_ofFootman 120 = .ok (.bipush (-2), 2) := by decide +kernel
theorem dX9_ofFootman_122 : decode cX9_ofFootman 122 = .ok (.ireturn, 1) := by decide +kernel
set_option maxRecDepth 20000 in
theorem ggX9_street_X9_noCorner : GoodIn wsX9_street wsX9_noCorner := goodIn_r _ [6, 7, 8, 9, 5, 10, 11, 12, 13, 14, 15, 16, 17, 18, 19, 20, 21, 22, 23, 24, 25, 26, 27, 28, 29, 30, 31, 32, 33, 34, 35, 36, 37, 38, 39, 40, 41, 42, 43, 44, 45, 46, 47, 48, 49] (by decide +kernel) (by decide +kernel)
set_option maxRecDepth 20000 in
theorem gX9_street_X9_noCorner : GoodIn wsX9_street (wsV RX9 174 RX9 yX9_noCorner wsX9_noCorner) := goodIn_app (goodIn_of _ (by decide +kernel)) ggX9_street_X9_noCorner
theorem dX9_street_0 : decode cX9_street 0 = .ok (.aload_n 0, 1) := by decide +kernel
theorem dX9_street_1 : decode cX9_street 1 = .ok (.iload_n 1, 1) := by decide +kernel
theorem dX9_street_2 : decode cX9_street 2 = .ok (.invokevirtual 174, 3) := by decide +kernel
theorem dX9_street_5 : decode cX9_street 5 = .ok (.ifCond .ne 16, 3) := by decide +kernel
theorem dX9_street_8 : decode cX9_street 8 = .ok (.aload_n 0, 1) := by decide +kernel
theorem dX9_street_9 : decode cX9_street 9 = .ok (.iload_n 2, 1) := by decide +kernel
theorem dX9_street_10 : decode cX9_street 10 = .ok (.invokevirtual 174, 3) := by decide +kernel
theorem dX9_street_13 : decode cX9_street 13 = .ok (.ifCond .ne 8, 3) := by decide +kernel
theorem dX9_street_16 : decode cX9_street 16 = .ok (.iload_n 1, 1) := by decide +kernel
theorem dX9_street_17 : decode cX9_street 17 = .ok (.iload_n 2, 1) := by decide +kernel
theorem dX9_street_18 : decode cX9_street 18 = .ok (.if_icmp .ne 7, 3) := by decide +kernel
theorem dX9_street_21 : decode cX9_street 21 = .ok (.iconst (-1), 1) := by decide +kernel
theorem dX9_street_22 : decode cX9_street 22 = .ok (.goto 14, 3) := by decide +kernel
theorem dX9_street_25 : decode cX9_street 25 = .ok (.aload_n 0, 1) := by decide +kernel
theorem dX9_street_26 : decode cX9_street 26 = .ok (.getfield 7, 3) := by decide +kernel
theorem dX9_street_29 : decode cX9_street 29 = .ok (.bipush 6, 2) := by decide +kernel
theorem dX9_street_31 : decode cX9_street 31 = .ok (.iload_n 1, 1) := by decide +kernel
theorem dX9_street_32 : decode cX9_street 32 = .ok (.imul, 1) := by decide +kernel
theorem dX9_street_33 : decode cX9_street 33 = .ok (.iload_n 2, 1) := by decide +kernel
theorem dX9_street_34 : decode cX9_street 34 = .ok (.iadd, 1) := by decide +kernel
theorem dX9_street_35 : decode cX9_street 35 = .ok (.iaload, 1) := by decide +kernel
theorem dX9_street_36 : decode cX9_street 36 = .ok (.ireturn, 1) := by decide +kernel
set_option maxRecDepth 20000 in
theorem ggX9_pave_X9_noCorner : GoodIn wsX9_pave wsX9_noCorner := goodIn_r _ [7, 8, 9, 10, 6, 11, 17, 18, 19, 20, 21, 22, 23, 24, 25, 26, 27, 28, 29, 30, 31, 32, 33, 34, 35, 36, 37, 38, 39, 40, 41, 42, 43, 44, 45, 46, 47, 48, 49, 50, 51, 52, 53, 54, 55] (by decide +kernel) (by decide +kernel)
set_option maxRecDepth 20000 in
theorem gX9_pave_X9_noCorner : GoodIn wsX9_pave (wsV RX9 174 RX9 yX9_noCorner wsX9_noCorner) := goodIn_app (goodIn_of _ (by decide +kernel)) ggX9_pave_X9_noCorner
set_option maxRecDepth 20000 in
theorem ggX9_pave_X9_in : GoodIn wsX9_pave wsX9_in := goodIn_r _ [11] (by decide +kernel) (by decide +kernel)
set_option maxRecDepth 20000 in
theorem gX9_pave_X9_in : GoodIn wsX9_pave (va_wsS RX9 95 yX9_in wsX9_in) := goodIn_app (goodIn_of _ (by decide +kernel)) ggX9_pave_X9_in
set_option maxRecDepth 20000 in
theorem ggX9_pave_X9_measures : GoodIn wsX9_pave wsX9_measures := goodIn_r _ [15, 16, 2, 8, 17, 18, 19, 20, 21, 22, 23, 24, 25, 26, 27, 28, 29, 30, 31, 32, 33, 34, 35, 36, 37, 38, 39, 40, 41, 42, 43, 44, 45, 46, 47, 48, 49, 50, 51, 52, 53, 54, 55] (by decide +kernel) (by decide +kernel)
set_option maxRecDepth 20000 in
theorem gX9_pave_X9_measures : GoodIn wsX9_pave (wsV RX9 159 RX9 yX9_measures wsX9_measures) := goodIn_app (goodIn_of _ (by decide +kernel)) ggX9_pave_X9_measures
theorem dX9_pave_0 : decode cX9_pave 0 = .ok (.aload_n 0, 1) := by decide +kernel
theorem dX9_pave_1 : decode cX9_pave 1 = .ok (.iload_n 1, 1) := by decide +kernel
theorem dX9_pave_2 : decode cX9_pave 2 = .ok (.invokevirtual 174, 3) := by decide +kernel
theorem dX9_pave_5 : decode cX9_pave 5 = .ok (.ifCond .ne 16, 3) := by decide +kernel
theorem dX9_pave_8 : decode cX9_pave 8 = .ok (.aload_n 0, 1) := by decide +kernel
theorem dX9_pave_9 : decode cX9_pave 9 = .ok (.iload_n 2, 1) := by decide +kernel
theorem dX9_pave_10 : decode cX9_pave 10 = .ok (.invokevirtual 174, 3) := by decide +kernel
theorem dX9_pave_13 : decode cX9_pave 13 = .ok (.ifCond .ne 8, 3) := by decide +kernel
theorem dX9_pave_16 : decode cX9_pave 16 = .ok (.iload_n 1, 1) := by decide +kernel
theorem dX9_pave_17 : decode cX9_pave 17 = .ok (.iload_n 2, 1) := by decide +kernel
theorem dX9_pave_18 : decode cX9_pave 18 = .ok (.if_icmp .ne 5, 3) := by decide +kernel
theorem dX9_pave_21 : decode cX9_pave 21 = .ok (.iconst (-1), 1) := by decide +kernel
theorem dX9_pave_22 : decode cX9_pave 22 = .ok (.ireturn, 1) := by decide +kernel
theorem dX9_pave_23 : decode cX9_pave 23 = .ok (.iload_n 3, 1) := by decide +kernel
theorem dX9_pave_24 : decode cX9_pave 24 = .ok (.i2l, 1) := by decide +kernel
theorem dX9_pave_25 : decode cX9_pave 25 = .ok (.lconst 0, 1) := by decide +kernel
theorem dX9_pave_26 : decode cX9_pave 26 = .ok (.ldc2_w 177, 3) := by decide +kernel
theorem dX9_pave_29 : decode cX9_pave 29 = .ok (.invokestatic 95, 3) := by decide +kernel
theorem dX9_pave_32 : decode cX9_pave 32 = .ok (.ifCond .ne 6, 3) := by decide +kernel
theorem dX9_pave_35 : decode cX9_pave 35 = .ok (.bipush (-2), 2) := by decide +kernel
theorem dX9_pave_37 : decode cX9_pave 37 = .ok (.ireturn, 1) := by decide +kernel
theorem dX9_pave_38 : decode cX9_pave 38 = .ok (.aload_n 0, 1) := by decide +kernel
theorem dX9_pave_39 : decode cX9_pave 39 = .ok (.getfield 7, 3) := by decide +kernel
theorem dX9_pave_42 : decode cX9_pave 42 = .ok (.bipush 6, 2) := by decide +kernel
theorem dX9_pave_44 : decode cX9_pave 44 = .ok (.iload_n 1, 1) := by decide +kernel
theorem dX9_pave_45 : decode cX9_pave 45 = .ok (.imul, 1) := by decide +kernel
theorem dX9_pave_46 : decode cX9_pave 46 = .ok (.iload_n 2, 1) := by decide +kernel
theorem dX9_pave_47 : decode cX9_pave 47 = .ok (.iadd, 1) := by decide +kernel
theorem dX9_pave_48 : decode cX9_pave 48 = .ok (.iaload, 1) := by decide +kernel
theorem dX9_pave_49 : decode cX9_pave 49 = .ok (.istore 4, 2) := by decide +kernel
theorem dX9_pave_51 : decode cX9_pave 51 = .ok (.aload_n 0, 1) := by decide +kernel
theorem dX9_pave_52 : decode cX9_pave 52 = .ok (.getfield 7, 3) := by decide +kernel
theorem dX9_pave_55 : decode cX9_pave 55 = .ok (.bipush 6, 2) := by decide +kernel
theorem dX9_pave_57 : decode cX9_pave 57 = .ok (.iload_n 1, 1) := by decide +kernel
theorem dX9_pave_58 : decode cX9_pave 58 = .ok (.imul, 1) := by decide +kernel
theorem dX9_pave_59 : decode cX9_pave 59 = .ok (.iload_n 2, 1) := by decide +kernel
theorem dX9_pave_60 : decode cX9_pave 60 = .ok (.iadd, 1) := by decide +kernel
theorem dX9_pave_61 : decode cX9_pave 61 = .ok (.iload_n 3, 1) := by decide +kernel
theorem dX9_pave_62 : decode cX9_pave 62 = .ok (.iastore, 1) := by decide +kernel
theorem dX9_pave_63 : decode cX9_pave 63 = .ok (.aload_n 0, 1) := by decide +kernel
theorem dX9_pave_64 : decode cX9_pave 64 = .ok (.getfield 7, 3) := by decide +kernel
theorem dX9_pave_67 : decode cX9_pave 67 = .ok (.bipush 6, 2) := by decide +kernel
theorem dX9_pave_69 : decode cX9_pave 69 = .ok (.iload_n 2, 1) := by decide +kernel
theorem dX9_pave_70 : decode cX9_pave 70 = .ok (.imul, 1) := by decide +kernel
theorem dX9_pave_71 : decode cX9_pave 71 = .ok (.iload_n 1, 1) := by decide +kernel
theorem dX9_pave_72 : decode cX9_pave 72 = .ok (.iadd, 1) := by decide +kernel
theorem dX9_pave_73 : decode cX9_pave 73 = .ok (.iload_n 3, 1) := by decide +kernel
theorem dX9_pave_74 : decode cX9_pave 74 = .ok (.iastore, 1) := by decide +kernel
theorem dX9_pave_75 : decode cX9_pave 75 = .ok (.aload_n 0, 1) := by decide +kernel
theorem dX9_pave_76 : decode cX9_pave 76 = .ok (.invokevirtual 159, 3) := by decide +kernel
theorem dX9_pave_79 : decode cX9_pave 79 = .ok (.iload 4, 2) := by decide +kernel
theorem dX9_pave_81 : decode cX9_pave 81 = .ok (.ireturn, 1) := by decide +kernel
set_option maxRecDepth 20000 in
theorem ggX9_far_X9_noCorner : GoodIn wsX9_far wsX9_noCorner := goodIn_r _ [5, 6, 7, 8, 4, 9, 15, 16, 17, 18, 19, 20, 21, 22, 23, 24, 25, 26, 27, 28, 29, 30, 31, 32, 33, 34, 35, 36, 37, 38, 39, 40, 41, 42, 43, 44, 45, 46, 47, 48, 49, 50, 51, 52, 53] (by decide +kernel) (by decide +kernel)
set_option maxRecDepth 20000 in
theorem gX9_far_X9_noCorner : GoodIn wsX9_far (wsV RX9 174 RX9 yX9_noCorner wsX9_noCorner) := goodIn_app (goodIn_of _ (by decide +kernel)) ggX9_far_X9_noCorner
set_option maxRecDepth 20000 in
theorem ggX9_far_X9_farFrom : GoodIn wsX9_far wsX9_farFrom := goodIn_r _ [13, 14, 15, 16, 17, 18, 19, 20, 21, 22, 23, 24, 25, 26, 27, 28, 29, 30, 31, 32, 33, 34, 35, 36, 37, 38, 39, 40, 41, 42, 43, 44, 45, 46, 47, 48, 49, 50, 51, 52, 53] (by decide +kernel) (by decide +kernel)
set_option maxRecDepth 20000 in
theorem gX9_far_X9_farFrom : GoodIn wsX9_far (wsV RX9 162 RX9 yX9_farFrom wsX9_farFrom) := goodIn_app (goodIn_of _ (by decide +kernel)) ggX9_far_X9_farFrom
theorem dX9_far_0 : decode cX9_far 0 = .ok (.aload_n 0, 1) := by decide +kernel
theorem dX9_far_1 : decode cX9_far 1 = .ok (.iload_n 1, 1) := by decide +kernel
theorem dX9_far_2 : decode cX9_far 2 = .ok (.invokevirtual 174, 3) := by decide +kernel
theorem dX9_far_5 : decode cX9_far 5 = .ok (.ifCond .ne 11, 3) := by decide +kernel
theorem dX9_far_8 : decode cX9_far 8 = .ok (.aload_n 0, 1) := by decide +kernel
theorem dX9_far_9 : decode cX9_far 9 = .ok (.iload_n 2, 1) := by decide +kernel
theorem dX9_far_10 : decode cX9_far 10 = .ok (.invokevirtual 174, 3) := by decide +kernel
theorem dX9_far_13 : decode cX9_far 13 = .ok (.ifCond .eq 7, 3) := by decide +kernel
theorem dX9_far_16 : decode cX9_far 16 = .ok (.iconst (-1), 1) := by decide +kernel
theorem dX9_far_17 : decode cX9_far 17 = .ok (.goto 9, 3) := by decide +kernel
theorem dX9_far_20 : decode cX9_far 20 = .ok (.aload_n 0, 1) := by decide +kernel
theorem dX9_far_21 : decode cX9_far 21 = .ok (.iload_n 1, 1) := by decide +kernel
theorem dX9_far_22 : decode cX9_far 22 = .ok (.iload_n 2, 1) := by decide +kernel
theorem dX9_far_23 : decode cX9_far 23 = .ok (.invokevirtual 162, 3) := by decide +kernel
theorem dX9_far_26 : decode cX9_far 26 = .ok (.ireturn, 1) := by decide +kernel
set_option maxRecDepth 20000 in
theorem ggX9_arrived_X9_hasArrived : GoodIn wsX9_arrived wsX9_hasArrived := goodIn_r _ [6, 7, 8, 9, 10, 11, 12, 5, 13, 14, 15, 16, 17, 18, 19, 20, 21, 22, 23, 24, 25, 26, 27, 28, 29, 30, 31, 32, 33, 34, 35, 36, 37, 38, 39, 40, 41, 42, 43, 44, 45, 46, 47, 48, 49, 50, 51, 52, 53] (by decide +kernel) (by decide +kernel)
set_option maxRecDepth 20000 in
theorem gX9_arrived_X9_hasArrived : GoodIn wsX9_arrived (wsV RX9 171 RX9 yX9_hasArrived wsX9_hasArrived) := goodIn_app (goodIn_of _ (by decide +kernel)) ggX9_arrived_X9_hasArrived
theorem dX9_arrived_0 : decode cX9_arrived 0 = .ok (.iconst 0, 1) := by decide +kernel
theorem dX9_arrived_1 : decode cX9_arrived 1 = .ok (.istore_n 1, 1) := by decide +kernel
theorem dX9_arrived_2 : decode cX9_arrived 2 = .ok (.iconst 0, 1) := by decide +kernel
theorem dX9_arrived_3 : decode cX9_arrived 3 = .ok (.istore_n 2, 1) := by decide +kernel
theorem dX9_arrived_4 : decode cX9_arrived 4 = .ok (.iload_n 2, 1) := by decide +kernel
theorem dX9_arrived_5 : decode cX9_arrived 5 = .ok (.aload_n 0, 1) := by decide +kernel
theorem dX9_arrived_6 : decode cX9_arrived 6 = .ok (.getfield 92, 3) := by decide +kernel
theorem dX9_arrived_9 : decode cX9_arrived 9 = .ok (.if_icmp .ge 25, 3) := by decide +kernel
theorem dX9_arrived_12 : decode cX9_arrived 12 = .ok (.iload_n 1, 1) := by decide +kernel
theorem dX9_arrived_13 : decode cX9_arrived 13 = .ok (.aload_n 0, 1) := by decide +kernel
theorem dX9_arrived_14 : decode cX9_arrived 14 = .ok (.iload_n 2, 1) := by decide +kernel
theorem dX9_arrived_15 : decode cX9_arrived 15 = .ok (.invokevirtual 171, 3) := by decide +kernel
theorem dX9_arrived_18 : decode cX9_arrived 18 = .ok (.ifCond .eq 7, 3) := by decide +kernel
theorem dX9_arrived_21 : decode cX9_arrived 21 = .ok (.iconst 1, 1) := by decide +kernel
theorem dX9_arrived_22 : decode cX9_arrived 22 = .ok (.goto 4, 3) := by decide +kernel
theorem dX9_arrived_25 : decode cX9_arrived 25 = .ok (.iconst 0, 1) := by decide +kernel
theorem dX9_arrived_26 : decode cX9_arrived 26 = .ok (.iadd, 1) := by decide +kernel
theorem dX9_arrived_27 : decode cX9_arrived 27 = .ok (.istore_n 1, 1) := by decide +kernel
theorem dX9_arrived_28 : decode cX9_arrived 28 = .ok (.iinc 2 1, 3) := by decide +kernel
