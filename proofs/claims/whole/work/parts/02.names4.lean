theorem dX4_layDays_89 : decode cX4_layDays 89 = .ok (.iconst 1, 1) := by decide +kernel
theorem dX4_layDays_90 : decode cX4_layDays 90 = .ok (.iadd, 1) := by decide +kernel
theorem dX4_layDays_91 : decode cX4_layDays 91 = .ok (.iaload, 1) := by decide +kernel
theorem dX4_layDays_92 : decode cX4_layDays 92 = .ok (.iastore, 1) := by decide +kernel
theorem dX4_layDays_93 : decode cX4_layDays 93 = .ok (.aload_n 0, 1) := by decide +kernel
theorem dX4_layDays_94 : decode cX4_layDays 94 = .ok (.aload_n 0, 1) := by decide +kernel
theorem dX4_layDays_95 : decode cX4_layDays 95 = .ok (.getfield 43, 3) := by decide +kernel
theorem dX4_layDays_98 : decode cX4_layDays 98 = .ok (.iload 6, 2) := by decide +kernel
theorem dX4_layDays_100 : decode cX4_layDays 100 = .ok (.iaload, 1) := by decide +kernel
theorem dX4_layDays_101 : decode cX4_layDays 101 = .ok (.invokevirtual 122, 3) := by decide +kernel
theorem dX4_layDays_104 : decode cX4_layDays 104 = .ok (.ifCond .eq 17, 3) := by decide +kernel
theorem dX4_layDays_107 : decode cX4_layDays 107 = .ok (.aload_n 0, 1) := by decide +kernel
theorem dX4_layDays_108 : decode cX4_layDays 108 = .ok (.aload_n 0, 1) := by decide +kernel
theorem dX4_layDays_109 : decode cX4_layDays 109 = .ok (.getfield 46, 3) := by decide +kernel
theorem dX4_layDays_112 : decode cX4_layDays 112 = .ok (.iload 6, 2) := by decide +kernel
theorem dX4_layDays_114 : decode cX4_layDays 114 = .ok (.iaload, 1) := by decide +kernel
theorem dX4_layDays_115 : decode cX4_layDays 115 = .ok (.invokevirtual 128, 3) := by decide +kernel
theorem dX4_layDays_118 : decode cX4_layDays 118 = .ok (.ifCond .ne 5, 3) := by decide +kernel
theorem dX4_layDays_121 : decode cX4_layDays 121 = .ok (.iconst (-1), 1) := by decide +kernel
theorem dX4_layDays_122 : decode cX4_layDays 122 = .ok (.ireturn, 1) := by decide +kernel
theorem dX4_layDays_123 : decode cX4_layDays 123 = .ok (.iinc 6 1, 3) := by decide +kernel
theorem dX4_layDays_126 : decode cX4_layDays 126 = .ok (.goto (-88), 3) := by decide +kernel
theorem dX4_layDays_129 : decode cX4_layDays 129 = .ok (.aload_n 0, 1) := by decide +kernel
theorem dX4_layDays_130 : decode cX4_layDays 130 = .ok (.iload 4, 2) := by decide +kernel
theorem dX4_layDays_132 : decode cX4_layDays 132 = .ok (.putfield 140, 3) := by decide +kernel
theorem dX4_layDays_135 : decode cX4_layDays 135 = .ok (.iconst 0, 1) := by decide +kernel
theorem dX4_layDays_136 : decode cX4_layDays 136 = .ok (.ireturn, 1) := by decide +kernel
set_option maxRecDepth 20000 in
theorem ggX4_goDays_X4_asNow : GoodIn wsX4_goDays wsX4_asNow := goodIn_r _ [10, 11, 3, 12, 34, 35, 36, 37, 38, 39, 40, 41, 42, 43, 44, 45, 46, 47, 48, 49, 50, 51, 52, 53, 54, 55, 56, 57, 58] (by decide +kernel) (by decide +kernel)
set_option maxRecDepth 20000 in
theorem gX4_goDays_X4_asNow : GoodIn wsX4_goDays (wsV RX4 134 RX4 yX4_asNow wsX4_asNow) := goodIn_app (goodIn_of _ (by decide +kernel)) ggX4_goDays_X4_asNow
set_option maxRecDepth 20000 in
theorem ggX4_goDays_X4_tells : GoodIn wsX4_goDays wsX4_tells := goodIn_r _ [16, 17, 3, 18, 19, 20, 9, 21, 11, 22, 23, 24, 25, 26, 27, 28, 29, 30, 31, 32, 33, 34, 35, 36, 37, 38, 39, 40, 41, 42, 43, 44, 45, 46, 47, 48, 49, 50, 51, 52, 53, 54, 55, 56, 57, 58] (by decide +kernel) (by decide +kernel)
set_option maxRecDepth 20000 in
theorem gX4_goDays_X4_tells : GoodIn wsX4_goDays (wsV RX4 137 RX4 yX4_tells wsX4_tells) := goodIn_app (goodIn_of _ (by decide +kernel)) ggX4_goDays_X4_tells
theorem dX4_goDays_0 : decode cX4_goDays 0 = .ok (.aload_n 0, 1) := by decide +kernel
theorem dX4_goDays_1 : decode cX4_goDays 1 = .ok (.invokevirtual 134, 3) := by decide +kernel
theorem dX4_goDays_4 : decode cX4_goDays 4 = .ok (.aload_n 0, 1) := by decide +kernel
theorem dX4_goDays_5 : decode cX4_goDays 5 = .ok (.iconst 0, 1) := by decide +kernel
theorem dX4_goDays_6 : decode cX4_goDays 6 = .ok (.putfield 143, 3) := by decide +kernel
theorem dX4_goDays_9 : decode cX4_goDays 9 = .ok (.iconst 0, 1) := by decide +kernel
theorem dX4_goDays_10 : decode cX4_goDays 10 = .ok (.istore_n 1, 1) := by decide +kernel
theorem dX4_goDays_11 : decode cX4_goDays 11 = .ok (.iload_n 1, 1) := by decide +kernel
theorem dX4_goDays_12 : decode cX4_goDays 12 = .ok (.aload_n 0, 1) := by decide +kernel
theorem dX4_goDays_13 : decode cX4_goDays 13 = .ok (.getfield 140, 3) := by decide +kernel
theorem dX4_goDays_16 : decode cX4_goDays 16 = .ok (.if_icmp .ge 68, 3) := by decide +kernel
theorem dX4_goDays_19 : decode cX4_goDays 19 = .ok (.aload_n 0, 1) := by decide +kernel
theorem dX4_goDays_20 : decode cX4_goDays 20 = .ok (.getfield 40, 3) := by decide +kernel
theorem dX4_goDays_23 : decode cX4_goDays 23 = .ok (.aload_n 0, 1) := by decide +kernel
theorem dX4_goDays_24 : decode cX4_goDays 24 = .ok (.getfield 43, 3) := by decide +kernel
theorem dX4_goDays_27 : decode cX4_goDays 27 = .ok (.iload_n 1, 1) := by decide +kernel
theorem dX4_goDays_28 : decode cX4_goDays 28 = .ok (.iaload, 1) := by decide +kernel
theorem dX4_goDays_29 : decode cX4_goDays 29 = .ok (.iaload, 1) := by decide +kernel
theorem dX4_goDays_30 : decode cX4_goDays 30 = .ok (.aload_n 0, 1) := by decide +kernel
theorem dX4_goDays_31 : decode cX4_goDays 31 = .ok (.getfield 46, 3) := by decide +kernel
theorem dX4_goDays_34 : decode cX4_goDays 34 = .ok (.iload_n 1, 1) := by decide +kernel
theorem dX4_goDays_35 : decode cX4_goDays 35 = .ok (.iaload, 1) := by decide +kernel
theorem dX4_goDays_36 : decode cX4_goDays 36 = .ok (.ishr, 1) := by decide +kernel
theorem dX4_goDays_37 : decode cX4_goDays 37 = .ok (.iconst 1, 1) := by decide +kernel
theorem dX4_goDays_38 : decode cX4_goDays 38 = .ok (.iand, 1) := by decide +kernel
theorem dX4_goDays_39 : decode cX4_goDays 39 = .ok (.iconst 1, 1) := by decide +kernel
theorem dX4_goDays_40 : decode cX4_goDays 40 = .ok (.if_icmp .ne 5, 3) := by decide +kernel
theorem dX4_goDays_43 : decode cX4_goDays 43 = .ok (.iload_n 1, 1) := by decide +kernel
theorem dX4_goDays_44 : decode cX4_goDays 44 = .ok (.ireturn, 1) := by decide +kernel
theorem dX4_goDays_45 : decode cX4_goDays 45 = .ok (.aload_n 0, 1) := by decide +kernel
theorem dX4_goDays_46 : decode cX4_goDays 46 = .ok (.dup, 1) := by decide +kernel
theorem dX4_goDays_47 : decode cX4_goDays 47 = .ok (.getfield 143, 3) := by decide +kernel
theorem dX4_goDays_50 : decode cX4_goDays 50 = .ok (.aload_n 0, 1) := by decide +kernel
theorem dX4_goDays_51 : decode cX4_goDays 51 = .ok (.aload_n 0, 1) := by decide +kernel
theorem dX4_goDays_52 : decode cX4_goDays 52 = .ok (.getfield 43, 3) := by decide +kernel
theorem dX4_goDays_55 : decode cX4_goDays 55 = .ok (.iload_n 1, 1) := by decide +kernel
theorem dX4_goDays_56 : decode cX4_goDays 56 = .ok (.iaload, 1) := by decide +kernel
theorem dX4_goDays_57 : decode cX4_goDays 57 = .ok (.aload_n 0, 1) := by decide +kernel
theorem dX4_goDays_58 : decode cX4_goDays 58 = .ok (.getfield 46, 3) := by decide +kernel
theorem dX4_goDays_61 : decode cX4_goDays 61 = .ok (.iload_n 1, 1) := by decide +kernel
theorem dX4_goDays_62 : decode cX4_goDays 62 = .ok (.iaload, 1) := by decide +kernel
theorem dX4_goDays_63 : decode cX4_goDays 63 = .ok (.invokevirtual 137, 3) := by decide +kernel
theorem dX4_goDays_66 : decode cX4_goDays 66 = .ok (.ifCond .eq 7, 3) := by decide +kernel
theorem dX4_goDays_69 : decode cX4_goDays 69 = .ok (.iconst 1, 1) := by decide +kernel
theorem dX4_goDays_70 : decode cX4_goDays 70 = .ok (.goto 4, 3) := by decide +kernel
theorem dX4_goDays_73 : decode cX4_goDays 73 = .ok (.iconst 0, 1) := by decide +kernel
theorem dX4_goDays_74 : decode cX4_goDays 74 = .ok (.iadd, 1) := by decide +kernel
theorem dX4_goDays_75 : decode cX4_goDays 75 = .ok (.putfield 143, 3) := by decide +kernel
theorem dX4_goDays_78 : decode cX4_goDays 78 = .ok (.iinc 1 1, 3) := by decide +kernel
theorem dX4_goDays_81 : decode cX4_goDays 81 = .ok (.goto (-70), 3) := by decide +kernel
theorem dX4_goDays_84 : decode cX4_goDays 84 = .ok (.bipush (-9), 2) := by decide +kernel
theorem dX4_goDays_86 : decode cX4_goDays 86 = .ok (.ireturn, 1) := by decide +kernel
set_option maxRecDepth 20000 in
theorem ggX4_days_X4_isSheet : GoodIn wsX4_days wsX4_isSheet := goodIn_r _ [5, 6, 7, 4, 8] (by decide +kernel) (by decide +kernel)
set_option maxRecDepth 20000 in
theorem gX4_days_X4_isSheet : GoodIn wsX4_days (va_wsS RX4 74 yX4_isSheet wsX4_isSheet) := goodIn_app (goodIn_of _ (by decide +kernel)) ggX4_days_X4_isSheet
set_option maxRecDepth 20000 in
theorem ggX4_days_X4_isRow : GoodIn wsX4_days wsX4_isRow := goodIn_r _ [11, 12, 13, 4, 14, 6, 7, 8] (by decide +kernel) (by decide +kernel)
set_option maxRecDepth 20000 in
theorem gX4_days_X4_isRow : GoodIn wsX4_days (va_wsS RX4 146 yX4_isRow wsX4_isRow) := goodIn_app (goodIn_of _ (by decide +kernel)) ggX4_days_X4_isRow
set_option maxRecDepth 20000 in
theorem ggX4_days_X4_within : GoodIn wsX4_days wsX4_within := goodIn_r _ [8] (by decide +kernel) (by decide +kernel)
set_option maxRecDepth 20000 in
theorem gX4_days_X4_within : GoodIn wsX4_days (va_wsS RX4 61 yX4_within wsX4_within) := goodIn_app (goodIn_of _ (by decide +kernel)) ggX4_days_X4_within
set_option maxRecDepth 20000 in
theorem ggX4_days_X4_layDays : GoodIn wsX4_days wsX4_layDays := goodIn_r _ [18, 19, 20, 21, 22, 23, 24, 25, 26, 4, 27, 28, 29, 30, 31, 32, 33, 1, 34, 35, 36, 37, 38, 39, 40, 41, 42, 78, 79, 80, 81, 82, 83, 84, 85, 86, 87, 88, 89, 90, 91, 92, 93, 94, 95, 96, 97, 98, 99, 100, 101, 102] (by decide +kernel) (by decide +kernel)
set_option maxRecDepth 20000 in
theorem gX4_days_X4_layDays : GoodIn wsX4_days (wsV RX4 149 RX4 yX4_layDays wsX4_layDays) := goodIn_app (goodIn_of _ (by decide +kernel)) ggX4_days_X4_layDays
set_option maxRecDepth 20000 in
theorem ggX4_days_X4_goDays : GoodIn wsX4_days wsX4_goDays := goodIn_r _ [46, 47, 23, 48, 20, 22, 49, 50, 51, 4, 52, 19, 53, 54, 55, 56, 57, 58, 59, 60, 61, 62, 63, 64, 65, 66, 67, 42, 68, 69, 70, 71, 72, 73, 78, 79, 80, 81, 82, 83, 84, 85, 86, 87, 88, 89, 90, 91, 92, 93, 94, 95, 96, 97, 98, 99, 100, 101, 102] (by decide +kernel) (by decide +kernel)
set_option maxRecDepth 20000 in
theorem gX4_days_X4_goDays : GoodIn wsX4_days (wsV RX4 152 RX4 yX4_goDays wsX4_goDays) := goodIn_app (goodIn_of _ (by decide +kernel)) ggX4_days_X4_goDays
set_option maxRecDepth 20000 in
theorem ggX4_days_X4_tellDays : GoodIn wsX4_days wsX4_tellDays := goodIn_r _ [77, 47, 19, 48, 64, 65, 66, 4, 67, 42, 68, 69, 70, 71, 72, 73, 34, 35, 36, 37, 78, 79, 80, 81, 82, 83, 84, 85, 86, 87, 88, 89, 90, 91, 92, 93, 94, 95, 96, 97, 98, 99, 100, 101, 102] (by decide +kernel) (by decide +kernel)
set_option maxRecDepth 20000 in
theorem gX4_days_X4_tellDays : GoodIn wsX4_days (wsV RX4 156 RX4 yX4_tellDays wsX4_tellDays) := goodIn_app (goodIn_of _ (by decide +kernel)) ggX4_days_X4_tellDays
theorem dX4_days_0 : decode cX4_days 0 = .ok (.aload_n 0, 1) := by decide +kernel
theorem dX4_days_1 : decode cX4_days 1 = .ok (.iconst 0, 1) := by decide +kernel
theorem dX4_days_2 : decode cX4_days 2 = .ok (.putfield 55, 3) := by decide +kernel
theorem dX4_days_5 : decode cX4_days 5 = .ok (.iload_n 1, 1) := by decide +kernel
theorem dX4_days_6 : decode cX4_days 6 = .ok (.invokestatic 74, 3) := by decide +kernel
theorem dX4_days_9 : decode cX4_days 9 = .ok (.ifCond .ne 5, 3) := by decide +kernel
theorem dX4_days_12 : decode cX4_days 12 = .ok (.iconst (-1), 1) := by decide +kernel
theorem dX4_days_13 : decode cX4_days 13 = .ok (.ireturn, 1) := by decide +kernel
theorem dX4_days_14 : decode cX4_days 14 = .ok (.iload_n 2, 1) := by decide +kernel
theorem dX4_days_15 : decode cX4_days 15 = .ok (.iload 4, 2) := by decide +kernel
theorem dX4_days_17 : decode cX4_days 17 = .ok (.invokestatic 146, 3) := by decide +kernel
theorem dX4_days_20 : decode cX4_days 20 = .ok (.ifCond .eq 37, 3) := by decide +kernel
theorem dX4_days_23 : decode cX4_days 23 = .ok (.iload 5, 2) := by decide +kernel
theorem dX4_days_25 : decode cX4_days 25 = .ok (.iconst 0, 1) := by decide +kernel
theorem dX4_days_26 : decode cX4_days 26 = .ok (.iconst 2, 1) := by decide +kernel
theorem dX4_days_27 : decode cX4_days 27 = .ok (.invokestatic 61, 3) := by decide +kernel
theorem dX4_days_30 : decode cX4_days 30 = .ok (.ifCond .ne 30, 3) := by decide +kernel
theorem dX4_days_33 : decode cX4_days 33 = .ok (.iload 5, 2) := by decide +kernel
theorem dX4_days_35 : decode cX4_days 35 = .ok (.bipush 10, 2) := by decide +kernel
theorem dX4_days_37 : decode cX4_days 37 = .ok (.bipush 13, 2) := by decide +kernel
theorem dX4_days_39 : decode cX4_days 39 = .ok (.invokestatic 61, 3) := by decide +kernel
theorem dX4_days_42 : decode cX4_days 42 = .ok (.ifCond .ne 18, 3) := by decide +kernel
theorem dX4_days_45 : decode cX4_days 45 = .ok (.iload 5, 2) := by decide +kernel
theorem dX4_days_47 : decode cX4_days 47 = .ok (.bipush 20, 2) := by decide +kernel
theorem dX4_days_49 : decode cX4_days 49 = .ok (.bipush 23, 2) := by decide +kernel
theorem dX4_days_51 : decode cX4_days 51 = .ok (.invokestatic 61, 3) := by decide +kernel
theorem dX4_days_54 : decode cX4_days 54 = .ok (.ifCond .ne 6, 3) := by decide +kernel
theorem dX4_days_57 : decode cX4_days 57 = .ok (.bipush (-2), 2) := by decide +kernel
theorem dX4_days_59 : decode cX4_days 59 = .ok (.ireturn, 1) := by decide +kernel
theorem dX4_days_60 : decode cX4_days 60 = .ok (.aload_n 0, 1) := by decide +kernel
theorem dX4_days_61 : decode cX4_days 61 = .ok (.iload_n 1, 1) := by decide +kernel
theorem dX4_days_62 : decode cX4_days 62 = .ok (.iload_n 2, 1) := by decide +kernel
theorem dX4_days_63 : decode cX4_days 63 = .ok (.iload_n 3, 1) := by decide +kernel
theorem dX4_days_64 : decode cX4_days 64 = .ok (.iload 4, 2) := by decide +kernel
theorem dX4_days_66 : decode cX4_days 66 = .ok (.invokevirtual 149, 3) := by decide +kernel
theorem dX4_days_69 : decode cX4_days 69 = .ok (.istore 6, 2) := by decide +kernel
theorem dX4_days_71 : decode cX4_days 71 = .ok (.iload 6, 2) := by decide +kernel
theorem dX4_days_73 : decode cX4_days 73 = .ok (.ifCond .eq 6, 3) := by decide +kernel
theorem dX4_days_76 : decode cX4_days 76 = .ok (.iload 6, 2) := by decide +kernel
theorem dX4_days_78 : decode cX4_days 78 = .ok (.ireturn, 1) := by decide +kernel
theorem dX4_days_79 : decode cX4_days 79 = .ok (.aload_n 0, 1) := by decide +kernel
theorem dX4_days_80 : decode cX4_days 80 = .ok (.invokevirtual 152, 3) := by decide +kernel
theorem dX4_days_83 : decode cX4_days 83 = .ok (.istore 7, 2) := by decide +kernel
theorem dX4_days_85 : decode cX4_days 85 = .ok (.iload 5, 2) := by decide +kernel
theorem dX4_days_87 : decode cX4_days 87 = .ok (.iconst 1, 1) := by decide +kernel
theorem dX4_days_88 : decode cX4_days 88 = .ok (.if_icmp .ne 6, 3) := by decide +kernel
theorem dX4_days_91 : decode cX4_days 91 = .ok (.iload 7, 2) := by decide +kernel
theorem dX4_days_93 : decode cX4_days 93 = .ok (.ireturn, 1) := by decide +kernel
theorem dX4_days_94 : decode cX4_days 94 = .ok (.iload 7, 2) := by decide +kernel
theorem dX4_days_96 : decode cX4_days 96 = .ok (.bipush (-9), 2) := by decide +kernel
theorem dX4_days_98 : decode cX4_days 98 = .ok (.if_icmp .ne 12, 3) := by decide +kernel
theorem dX4_days_101 : decode cX4_days 101 = .ok (.aload_n 0, 1) := by decide +kernel
theorem dX4_days_102 : decode cX4_days 102 = .ok (.iload 5, 2) := by decide +kernel
theorem dX4_days_104 : decode cX4_days 104 = .ok (.invokevirtual 156, 3) := by decide +kernel
theorem dX4_days_107 : decode cX4_days 107 = .ok (.goto 8, 3) := by decide +kernel
theorem dX4_days_110 : decode cX4_days 110 = .ok (.bipush (-100), 2) := by decide +kernel
theorem dX4_days_112 : decode cX4_days 112 = .ok (.iload 7, 2) := by decide +kernel
theorem dX4_days_114 : decode cX4_days 114 = .ok (.isub, 1) := by decide +kernel
theorem dX4_days_115 : decode cX4_days 115 = .ok (.ireturn, 1) := by decide +kernel
set_option maxRecDepth 20000 in
theorem ggX4_tellDays_X4_floorBy : GoodIn wsX4_tellDays wsX4_floorBy := goodIn_r _ [8, 9, 10, 11, 12, 7, 13, 14, 15, 20, 21, 22, 23, 24, 25, 26, 27, 28, 29, 30, 31, 32, 33, 34, 35, 36, 37, 38, 39, 40, 41, 42, 43, 44] (by decide +kernel) (by decide +kernel)
set_option maxRecDepth 20000 in
theorem gX4_tellDays_X4_floorBy : GoodIn wsX4_tellDays (wsV RX4 125 RX4 yX4_floorBy wsX4_floorBy) := goodIn_app (goodIn_of _ (by decide +kernel)) ggX4_tellDays_X4_floorBy
set_option maxRecDepth 20000 in
theorem ggX4_tellDays_X4_isPerson : GoodIn wsX4_tellDays wsX4_isPerson := goodIn_r _ [19, 2, 20, 21, 22, 23, 24, 25, 26, 27, 28, 29, 30, 31, 32, 33, 34, 35, 36, 37, 38, 39, 40, 41, 42, 43, 44] (by decide +kernel) (by decide +kernel)
set_option maxRecDepth 20000 in
theorem gX4_tellDays_X4_isPerson : GoodIn wsX4_tellDays (wsV RX4 122 RX4 yX4_isPerson wsX4_isPerson) := goodIn_app (goodIn_of _ (by decide +kernel)) ggX4_tellDays_X4_isPerson
theorem dX4_tellDays_0 : decode cX4_tellDays 0 = .ok (.iload_n 1, 1) := by decide +kernel
theorem dX4_tellDays_1 : decode cX4_tellDays 1 = .ok (.ifCond .ne 8, 3) := by decide +kernel
theorem dX4_tellDays_4 : decode cX4_tellDays 4 = .ok (.aload_n 0, 1) := by decide +kernel
theorem dX4_tellDays_5 : decode cX4_tellDays 5 = .ok (.getfield 143, 3) := by decide +kernel
theorem dX4_tellDays_8 : decode cX4_tellDays 8 = .ok (.ireturn, 1) := by decide +kernel
theorem dX4_tellDays_9 : decode cX4_tellDays 9 = .ok (.iload_n 1, 1) := by decide +kernel
theorem dX4_tellDays_10 : decode cX4_tellDays 10 = .ok (.iconst 2, 1) := by decide +kernel
theorem dX4_tellDays_11 : decode cX4_tellDays 11 = .ok (.if_icmp .ne 49, 3) := by decide +kernel
theorem dX4_tellDays_14 : decode cX4_tellDays 14 = .ok (.iconst 0, 1) := by decide +kernel
theorem dX4_tellDays_15 : decode cX4_tellDays 15 = .ok (.istore_n 2, 1) := by decide +kernel
theorem dX4_tellDays_16 : decode cX4_tellDays 16 = .ok (.iconst 0, 1) := by decide +kernel
theorem dX4_tellDays_17 : decode cX4_tellDays 17 = .ok (.istore_n 3, 1) := by decide +kernel
theorem dX4_tellDays_18 : decode cX4_tellDays 18 = .ok (.iload_n 3, 1) := by decide +kernel
theorem dX4_tellDays_19 : decode cX4_tellDays 19 = .ok (.aload_n 0, 1) := by decide +kernel
theorem dX4_tellDays_20 : decode cX4_tellDays 20 = .ok (.getfield 68, 3) := by decide +kernel
theorem dX4_tellDays_23 : decode cX4_tellDays 23 = .ok (.if_icmp .ge 35, 3) := by decide +kernel
theorem dX4_tellDays_26 : decode cX4_tellDays 26 = .ok (.aload_n 0, 1) := by decide +kernel
theorem dX4_tellDays_27 : decode cX4_tellDays 27 = .ok (.iload_n 3, 1) := by decide +kernel
theorem dX4_tellDays_28 : decode cX4_tellDays 28 = .ok (.aload_n 0, 1) := by decide +kernel
theorem dX4_tellDays_29 : decode cX4_tellDays 29 = .ok (.getfield 40, 3) := by decide +kernel
theorem dX4_tellDays_32 : decode cX4_tellDays 32 = .ok (.iload_n 3, 1) := by decide +kernel
theorem dX4_tellDays_33 : decode cX4_tellDays 33 = .ok (.iaload, 1) := by decide +kernel
theorem dX4_tellDays_34 : decode cX4_tellDays 34 = .ok (.invokevirtual 125, 3) := by decide +kernel
theorem dX4_tellDays_37 : decode cX4_tellDays 37 = .ok (.istore 4, 2) := by decide +kernel
theorem dX4_tellDays_39 : decode cX4_tellDays 39 = .ok (.iload 4, 2) := by decide +kernel
theorem dX4_tellDays_41 : decode cX4_tellDays 41 = .ok (.iload_n 2, 1) := by decide +kernel
theorem dX4_tellDays_42 : decode cX4_tellDays 42 = .ok (.if_icmp .le 8, 3) := by decide +kernel
theorem dX4_tellDays_45 : decode cX4_tellDays 45 = .ok (.iload 4, 2) := by decide +kernel
theorem dX4_tellDays_47 : decode cX4_tellDays 47 = .ok (.goto 4, 3) := by decide +kernel
theorem dX4_tellDays_50 : decode cX4_tellDays 50 = .ok (.iload_n 2, 1) := by decide +kernel
theorem dX4_tellDays_51 : decode cX4_tellDays 51 = .ok (.istore_n 2, 1) := by decide +kernel
theorem dX4_tellDays_52 : decode cX4_tellDays 52 = .ok (.iinc 3 1, 3) := by decide +kernel
theorem dX4_tellDays_55 : decode cX4_tellDays 55 = .ok (.goto (-37), 3) := by decide +kernel
theorem dX4_tellDays_58 : decode cX4_tellDays 58 = .ok (.iload_n 2, 1) := by decide +kernel
theorem dX4_tellDays_59 : decode cX4_tellDays 59 = .ok (.ireturn, 1) := by decide +kernel
theorem dX4_tellDays_60 : decode cX4_tellDays 60 = .ok (.iload_n 1, 1) := by decide +kernel
theorem dX4_tellDays_61 : decode cX4_tellDays 61 = .ok (.bipush 10, 2) := by decide +kernel
theorem dX4_tellDays_63 : decode cX4_tellDays 63 = .ok (.irem, 1) := by decide +kernel
theorem dX4_tellDays_64 : decode cX4_tellDays 64 = .ok (.istore_n 2, 1) := by decide +kernel
theorem dX4_tellDays_65 : decode cX4_tellDays 65 = .ok (.aload_n 0, 1) := by decide +kernel
theorem dX4_tellDays_66 : decode cX4_tellDays 66 = .ok (.iload_n 2, 1) := by decide +kernel
theorem dX4_tellDays_67 : decode cX4_tellDays 67 = .ok (.invokevirtual 122, 3) := by decide +kernel
theorem dX4_tellDays_70 : decode cX4_tellDays 70 = .ok (.ifCond .ne 6, 3) := by decide +kernel
theorem dX4_tellDays_73 : decode cX4_tellDays 73 = .ok (.bipush (-9), 2) := by decide +kernel
theorem dX4_tellDays_75 : decode cX4_tellDays 75 = .ok (.ireturn, 1) := by decide +kernel
theorem dX4_tellDays_76 : decode cX4_tellDays 76 = .ok (.iload_n 1, 1) := by decide +kernel
theorem dX4_tellDays_77 : decode cX4_tellDays 77 = .ok (.bipush 20, 2) := by decide +kernel
theorem dX4_tellDays_79 : decode cX4_tellDays 79 = .ok (.if_icmp .ge 17, 3) := by decide +kernel
theorem dX4_tellDays_82 : decode cX4_tellDays 82 = .ok (.aload_n 0, 1) := by decide +kernel
theorem dX4_tellDays_83 : decode cX4_tellDays 83 = .ok (.iload_n 2, 1) := by decide +kernel
theorem dX4_tellDays_84 : decode cX4_tellDays 84 = .ok (.aload_n 0, 1) := by decide +kernel
theorem dX4_tellDays_85 : decode cX4_tellDays 85 = .ok (.getfield 40, 3) := by decide +kernel
theorem dX4_tellDays_88 : decode cX4_tellDays 88 = .ok (.iload_n 2, 1) := by decide +kernel
theorem dX4_tellDays_89 : decode cX4_tellDays 89 = .ok (.iaload, 1) := by decide +kernel
theorem dX4_tellDays_90 : decode cX4_tellDays 90 = .ok (.invokevirtual 125, 3) := by decide +kernel
theorem dX4_tellDays_93 : decode cX4_tellDays 93 = .ok (.goto 9, 3) := by decide +kernel
theorem dX4_tellDays_96 : decode cX4_tellDays 96 = .ok (.aload_n 0, 1) := by decide +kernel
theorem dX4_tellDays_97 : decode cX4_tellDays 97 = .ok (.getfield 40, 3) := by decide +kernel
theorem dX4_tellDays_100 : decode cX4_tellDays 100 = .ok (.iload_n 2, 1) := by decide +kernel
theorem dX4_tellDays_101 : decode cX4_tellDays 101 = .ok (.iaload, 1) := by decide +kernel
theorem dX4_tellDays_102 : decode cX4_tellDays 102 = .ok (.ireturn, 1) := by decide +kernel
theorem dX4_size_0 : decode cX4_size 0 = .ok (.iconst 0, 1) := by decide +kernel
theorem dX4_size_1 : decode cX4_size 1 = .ok (.istore_n 1, 1) := by decide +kernel
theorem dX4_size_2 : decode cX4_size 2 = .ok (.iload_n 0, 1) := by decide +kernel
theorem dX4_size_3 : decode cX4_size 3 = .ok (.istore_n 2, 1) := by decide +kernel
theorem dX4_size_4 : decode cX4_size 4 = .ok (.iload_n 2, 1) := by decide +kernel
theorem dX4_size_5 : decode cX4_size 5 = .ok (.ifCond .le 16, 3) := by decide +kernel
theorem dX4_size_8 : decode cX4_size 8 = .ok (.iload_n 1, 1) := by decide +kernel
theorem dX4_size_9 : decode cX4_size 9 = .ok (.iload_n 2, 1) := by decide +kernel
theorem dX4_size_10 : decode cX4_size 10 = .ok (.iconst 1, 1) := by decide +kernel
theorem dX4_size_11 : decode cX4_size 11 = .ok (.iand, 1) := by decide +kernel
theorem dX4_size_12 : decode cX4_size 12 = .ok (.iadd, 1) := by decide +kernel
theorem dX4_size_13 : decode cX4_size 13 = .ok (.istore_n 1, 1) := by decide +kernel
theorem dX4_size_14 : decode cX4_size 14 = .ok (.iload_n 2, 1) := by decide +kernel
theorem dX4_size_15 : decode cX4_size 15 = .ok (.iconst 1, 1) := by decide +kernel
theorem dX4_size_16 : decode cX4_size 16 = .ok (.ishr, 1) := by decide +kernel
theorem dX4_size_17 : decode cX4_size 17 = .ok (.istore_n 2, 1) := by decide +kernel
theorem dX4_size_18 : decode cX4_size 18 = .ok (.goto (-14), 3) := by decide +kernel
theorem dX4_size_21 : decode cX4_size 21 = .ok (.iload_n 1, 1) := by decide +kernel
theorem dX4_size_22 : decode cX4_size 22 = .ok (.ireturn, 1) := by decide +kernel
theorem dX4_isTruths_0 : decode cX4_isTruths 0 = .ok (.iload_n 2, 1) := by decide +kernel
theorem dX4_isTruths_1 : decode cX4_isTruths 1 = .ok (.aload_n 0, 1) := by decide +kernel
theorem dX4_isTruths_2 : decode cX4_isTruths 2 = .ok (.getfield 25, 3) := by decide +kernel
theorem dX4_isTruths_5 : decode cX4_isTruths 5 = .ok (.iload_n 1, 1) := by decide +kernel
theorem dX4_isTruths_6 : decode cX4_isTruths 6 = .ok (.iaload, 1) := by decide +kernel
theorem dX4_isTruths_7 : decode cX4_isTruths 7 = .ok (.iconst (-1), 1) := by decide +kernel
theorem dX4_isTruths_8 : decode cX4_isTruths 8 = .ok (.ixor, 1) := by decide +kernel
theorem dX4_isTruths_9 : decode cX4_isTruths 9 = .ok (.iand, 1) := by decide +kernel
theorem dX4_isTruths_10 : decode cX4_isTruths 10 = .ok (.ifCond .ne 7, 3) := by decide +kernel
theorem dX4_isTruths_13 : decode cX4_isTruths 13 = .ok (.iconst 1, 1) := by decide +kernel
theorem dX4_isTruths_14 : decode cX4_isTruths 14 = .ok (.goto 4, 3) := by decide +kernel
theorem dX4_isTruths_17 : decode cX4_isTruths 17 = .ok (.iconst 0, 1) := by decide +kernel
theorem dX4_isTruths_18 : decode cX4_isTruths 18 = .ok (.ireturn, 1) := by decide +kernel
set_option maxRecDepth 20000 in
theorem ggX4_way_X4_isPerson : GoodIn wsX4_way wsX4_isPerson := goodIn_r _ [6, 7, 26, 27, 28, 29, 30, 31, 32, 33, 34, 35, 36, 37, 38, 39, 40, 41, 42, 43, 44, 45, 46, 47, 48, 49, 50] (by decide +kernel) (by decide +kernel)
set_option maxRecDepth 20000 in
theorem gX4_way_X4_isPerson : GoodIn wsX4_way (wsV RX4 122 RX4 yX4_isPerson wsX4_isPerson) := goodIn_app (goodIn_of _ (by decide +kernel)) ggX4_way_X4_isPerson
set_option maxRecDepth 20000 in
theorem ggX4_way_X4_isTruths : GoodIn wsX4_way wsX4_isTruths := goodIn_r _ [11, 12, 26, 27, 28, 29, 30, 31, 32, 33, 34, 35, 36, 37, 38, 39, 40, 41, 42, 43, 44, 45, 46, 47, 48, 49, 50] (by decide +kernel) (by decide +kernel)
set_option maxRecDepth 20000 in
theorem gX4_way_X4_isTruths : GoodIn wsX4_way (wsV RX4 159 RX4 yX4_isTruths wsX4_isTruths) := goodIn_app (goodIn_of _ (by decide +kernel)) ggX4_way_X4_isTruths
set_option maxRecDepth 20000 in
theorem ggX4_way_X4_floorBy : GoodIn wsX4_way wsX4_floorBy := goodIn_r _ [16, 1, 17, 18, 19, 5, 20, 21, 22, 26, 27, 28, 29, 30, 31, 32, 33, 34, 35, 36, 37, 38, 39, 40, 41, 42, 43, 44, 45, 46, 47, 48, 49, 50] (by decide +kernel) (by decide +kernel)
set_option maxRecDepth 20000 in
theorem gX4_way_X4_floorBy : GoodIn wsX4_way (wsV RX4 125 RX4 yX4_floorBy wsX4_floorBy) := goodIn_app (goodIn_of _ (by decide +kernel)) ggX4_way_X4_floorBy
set_option maxRecDepth 20000 in
theorem ggX4_way_X4_size : GoodIn wsX4_way wsX4_size := goodIn_r _ [25] (by decide +kernel) (by decide +kernel)
set_option maxRecDepth 20000 in
theorem gX4_way_X4_size : GoodIn wsX4_way (va_wsS RX4 162 yX4_size wsX4_size) := goodIn_app (goodIn_of _ (by decide +kernel)) ggX4_way_X4_size
theorem dX4_way_0 : decode cX4_way 0 = .ok (.aload_n 0, 1) := by decide +kernel
theorem dX4_way_1 : decode cX4_way 1 = .ok (.iload_n 1, 1) := by decide +kernel
theorem dX4_way_2 : decode cX4_way 2 = .ok (.invokevirtual 122, 3) := by decide +kernel
theorem dX4_way_5 : decode cX4_way 5 = .ok (.ifCond .ne 5, 3) := by decide +kernel
theorem dX4_way_8 : decode cX4_way 8 = .ok (.iconst (-1), 1) := by decide +kernel
theorem dX4_way_9 : decode cX4_way 9 = .ok (.ireturn, 1) := by decide +kernel
theorem dX4_way_10 : decode cX4_way 10 = .ok (.iload_n 2, 1) := by decide +kernel
theorem dX4_way_11 : decode cX4_way 11 = .ok (.ifCond .ge 6, 3) := by decide +kernel
theorem dX4_way_14 : decode cX4_way 14 = .ok (.bipush (-2), 2) := by decide +kernel
theorem dX4_way_16 : decode cX4_way 16 = .ok (.ireturn, 1) := by decide +kernel
theorem dX4_way_17 : decode cX4_way 17 = .ok (.bipush (-9), 2) := by decide +kernel
theorem dX4_way_19 : decode cX4_way 19 = .ok (.istore_n 3, 1) := by decide +kernel
theorem dX4_way_20 : decode cX4_way 20 = .ok (.iconst 0, 1) := by decide +kernel
theorem dX4_way_21 : decode cX4_way 21 = .ok (.istore 4, 2) := by decide +kernel
theorem dX4_way_23 : decode cX4_way 23 = .ok (.iload 4, 2) := by decide +kernel
theorem dX4_way_25 : decode cX4_way 25 = .ok (.iconst 1, 1) := by decide +kernel
theorem dX4_way_26 : decode cX4_way 26 = .ok (.aload_n 0, 1) := by decide +kernel
theorem dX4_way_27 : decode cX4_way 27 = .ok (.getfield 65, 3) := by decide +kernel
theorem dX4_way_30 : decode cX4_way 30 = .ok (.ishl, 1) := by decide +kernel
theorem dX4_way_31 : decode cX4_way 31 = .ok (.if_icmp .ge 51, 3) := by decide +kernel
theorem dX4_way_34 : decode cX4_way 34 = .ok (.aload_n 0, 1) := by decide +kernel
theorem dX4_way_35 : decode cX4_way 35 = .ok (.iload_n 1, 1) := by decide +kernel
theorem dX4_way_36 : decode cX4_way 36 = .ok (.iload 4, 2) := by decide +kernel
theorem dX4_way_38 : decode cX4_way 38 = .ok (.invokevirtual 159, 3) := by decide +kernel
theorem dX4_way_41 : decode cX4_way 41 = .ok (.ifCond .eq 35, 3) := by decide +kernel
theorem dX4_way_44 : decode cX4_way 44 = .ok (.aload_n 0, 1) := by decide +kernel
theorem dX4_way_45 : decode cX4_way 45 = .ok (.iload_n 1, 1) := by decide +kernel
theorem dX4_way_46 : decode cX4_way 46 = .ok (.iload 4, 2) := by decide +kernel
theorem dX4_way_48 : decode cX4_way 48 = .ok (.invokevirtual 125, 3) := by decide +kernel
theorem dX4_way_51 : decode cX4_way 51 = .ok (.iload_n 2, 1) := by decide +kernel
theorem dX4_way_52 : decode cX4_way 52 = .ok (.if_icmp .ne 24, 3) := by decide +kernel
theorem dX4_way_55 : decode cX4_way 55 = .ok (.iload_n 3, 1) := by decide +kernel
theorem dX4_way_56 : decode cX4_way 56 = .ok (.bipush (-9), 2) := by decide +kernel
theorem dX4_way_58 : decode cX4_way 58 = .ok (.if_icmp .eq 15, 3) := by decide +kernel
theorem dX4_way_61 : decode cX4_way 61 = .ok (.iload 4, 2) := by decide +kernel
theorem dX4_way_63 : decode cX4_way 63 = .ok (.invokestatic 162, 3) := by decide +kernel
theorem dX4_way_66 : decode cX4_way 66 = .ok (.iload_n 3, 1) := by decide +kernel
theorem dX4_way_67 : decode cX4_way 67 = .ok (.invokestatic 162, 3) := by decide +kernel
theorem dX4_way_70 : decode cX4_way 70 = .ok (.if_icmp .ge 6, 3) := by decide +kernel
theorem dX4_way_73 : decode cX4_way 73 = .ok (.iload 4, 2) := by decide +kernel
theorem dX4_way_75 : decode cX4_way 75 = .ok (.istore_n 3, 1) := by decide +kernel
theorem dX4_way_76 : decode cX4_way 76 = .ok (.iinc 4 1, 3) := by decide +kernel
theorem dX4_way_79 : decode cX4_way 79 = .ok (.goto (-56), 3) := by decide +kernel
theorem dX4_way_82 : decode cX4_way 82 = .ok (.iload_n 3, 1) := by decide +kernel
theorem dX4_way_83 : decode cX4_way 83 = .ok (.ireturn, 1) := by decide +kernel
set_option maxRecDepth 20000 in
theorem ggX4_kept_X4_isPerson : GoodIn wsX4_kept wsX4_isPerson := goodIn_r _ [6, 7, 23, 24, 25, 26, 27, 28, 29, 30, 31, 32, 33, 34, 35, 36, 37, 38, 39, 40, 41, 42, 43, 44, 45, 46, 47] (by decide +kernel) (by decide +kernel)
set_option maxRecDepth 20000 in
theorem gX4_kept_X4_isPerson : GoodIn wsX4_kept (wsV RX4 122 RX4 yX4_isPerson wsX4_isPerson) := goodIn_app (goodIn_of _ (by decide +kernel)) ggX4_kept_X4_isPerson
set_option maxRecDepth 20000 in
theorem ggX4_kept_X4_isTruths : GoodIn wsX4_kept wsX4_isTruths := goodIn_r _ [11, 12, 23, 24, 25, 26, 27, 28, 29, 30, 31, 32, 33, 34, 35, 36, 37, 38, 39, 40, 41, 42, 43, 44, 45, 46, 47] (by decide +kernel) (by decide +kernel)
set_option maxRecDepth 20000 in
theorem gX4_kept_X4_isTruths : GoodIn wsX4_kept (wsV RX4 159 RX4 yX4_isTruths wsX4_isTruths) := goodIn_app (goodIn_of _ (by decide +kernel)) ggX4_kept_X4_isTruths
set_option maxRecDepth 20000 in
theorem ggX4_kept_X4_floorBy : GoodIn wsX4_kept wsX4_floorBy := goodIn_r _ [16, 1, 17, 18, 19, 5, 20, 21, 22, 23, 24, 25, 26, 27, 28, 29, 30, 31, 32, 33, 34, 35, 36, 37, 38, 39, 40, 41, 42, 43, 44, 45, 46, 47] (by decide +kernel) (by decide +kernel)
set_option maxRecDepth 20000 in
theorem gX4_kept_X4_floorBy : GoodIn wsX4_kept (wsV RX4 125 RX4 yX4_floorBy wsX4_floorBy) := goodIn_app (goodIn_of _ (by decide +kernel)) ggX4_kept_X4_floorBy
theorem dX4_kept_0 : decode cX4_kept 0 = .ok (.aload_n 0, 1) := by decide +kernel
theorem dX4_kept_1 : decode cX4_kept 1 = .ok (.iload_n 1, 1) := by decide +kernel
theorem dX4_kept_2 : decode cX4_kept 2 = .ok (.invokevirtual 122, 3) := by decide +kernel
theorem dX4_kept_5 : decode cX4_kept 5 = .ok (.ifCond .ne 5, 3) := by decide +kernel
theorem dX4_kept_8 : decode cX4_kept 8 = .ok (.iconst (-1), 1) := by decide +kernel
theorem dX4_kept_9 : decode cX4_kept 9 = .ok (.ireturn, 1) := by decide +kernel
theorem dX4_kept_10 : decode cX4_kept 10 = .ok (.iload_n 2, 1) := by decide +kernel
theorem dX4_kept_11 : decode cX4_kept 11 = .ok (.ifCond .ge 6, 3) := by decide +kernel
theorem dX4_kept_14 : decode cX4_kept 14 = .ok (.bipush (-2), 2) := by decide +kernel
theorem dX4_kept_16 : decode cX4_kept 16 = .ok (.ireturn, 1) := by decide +kernel
theorem dX4_kept_17 : decode cX4_kept 17 = .ok (.bipush (-9), 2) := by decide +kernel
theorem dX4_kept_19 : decode cX4_kept 19 = .ok (.istore_n 3, 1) := by decide +kernel
theorem dX4_kept_20 : decode cX4_kept 20 = .ok (.iconst 0, 1) := by decide +kernel
theorem dX4_kept_21 : decode cX4_kept 21 = .ok (.istore 4, 2) := by decide +kernel
theorem dX4_kept_23 : decode cX4_kept 23 = .ok (.iload 4, 2) := by decide +kernel
theorem dX4_kept_25 : decode cX4_kept 25 = .ok (.iconst 1, 1) := by decide +kernel
theorem dX4_kept_26 : decode cX4_kept 26 = .ok (.aload_n 0, 1) := by decide +kernel
theorem dX4_kept_27 : decode cX4_kept 27 = .ok (.getfield 65, 3) := by decide +kernel
theorem dX4_kept_30 : decode cX4_kept 30 = .ok (.ishl, 1) := by decide +kernel
theorem dX4_kept_31 : decode cX4_kept 31 = .ok (.if_icmp .ge 46, 3) := by decide +kernel
theorem dX4_kept_34 : decode cX4_kept 34 = .ok (.aload_n 0, 1) := by decide +kernel
theorem dX4_kept_35 : decode cX4_kept 35 = .ok (.iload_n 1, 1) := by decide +kernel
theorem dX4_kept_36 : decode cX4_kept 36 = .ok (.iload 4, 2) := by decide +kernel
theorem dX4_kept_38 : decode cX4_kept 38 = .ok (.invokevirtual 159, 3) := by decide +kernel
theorem dX4_kept_41 : decode cX4_kept 41 = .ok (.ifCond .eq 30, 3) := by decide +kernel
theorem dX4_kept_44 : decode cX4_kept 44 = .ok (.aload_n 0, 1) := by decide +kernel
theorem dX4_kept_45 : decode cX4_kept 45 = .ok (.iload_n 1, 1) := by decide +kernel
theorem dX4_kept_46 : decode cX4_kept 46 = .ok (.iload 4, 2) := by decide +kernel
theorem dX4_kept_48 : decode cX4_kept 48 = .ok (.invokevirtual 125, 3) := by decide +kernel
theorem dX4_kept_51 : decode cX4_kept 51 = .ok (.iload_n 2, 1) := by decide +kernel
theorem dX4_kept_52 : decode cX4_kept 52 = .ok (.if_icmp .ne 19, 3) := by decide +kernel
theorem dX4_kept_55 : decode cX4_kept 55 = .ok (.iload_n 3, 1) := by decide +kernel
theorem dX4_kept_56 : decode cX4_kept 56 = .ok (.bipush (-9), 2) := by decide +kernel
theorem dX4_kept_58 : decode cX4_kept 58 = .ok (.if_icmp .ne 8, 3) := by decide +kernel
theorem dX4_kept_61 : decode cX4_kept 61 = .ok (.iload 4, 2) := by decide +kernel
theorem dX4_kept_63 : decode cX4_kept 63 = .ok (.goto 7, 3) := by decide +kernel
theorem dX4_kept_66 : decode cX4_kept 66 = .ok (.iload_n 3, 1) := by decide +kernel
theorem dX4_kept_67 : decode cX4_kept 67 = .ok (.iload 4, 2) := by decide +kernel
theorem dX4_kept_69 : decode cX4_kept 69 = .ok (.iand, 1) := by decide +kernel
theorem dX4_kept_70 : decode cX4_kept 70 = .ok (.istore_n 3, 1) := by decide +kernel
theorem dX4_kept_71 : decode cX4_kept 71 = .ok (.iinc 4 1, 3) := by decide +kernel
theorem dX4_kept_74 : decode cX4_kept 74 = .ok (.goto (-51), 3) := by decide +kernel
theorem dX4_kept_77 : decode cX4_kept 77 = .ok (.iload_n 3, 1) := by decide +kernel
theorem dX4_kept_78 : decode cX4_kept 78 = .ok (.ireturn, 1) := by decide +kernel
set_option maxRecDepth 20000 in
theorem ggX4_roof_X4_isPerson : GoodIn wsX4_roof wsX4_isPerson := goodIn_r _ [6, 7, 19, 20, 21, 22, 23, 24, 25, 26, 27, 28, 29, 30, 31, 32, 33, 34, 35, 36, 37, 38, 39, 40, 41, 42, 43] (by decide +kernel) (by decide +kernel)
set_option maxRecDepth 20000 in
theorem gX4_roof_X4_isPerson : GoodIn wsX4_roof (wsV RX4 122 RX4 yX4_isPerson wsX4_isPerson) := goodIn_app (goodIn_of _ (by decide +kernel)) ggX4_roof_X4_isPerson
set_option maxRecDepth 20000 in
theorem ggX4_roof_X4_floorBy : GoodIn wsX4_roof wsX4_floorBy := goodIn_r _ [11, 12, 13, 14, 15, 5, 16, 17, 18, 19, 20, 21, 22, 23, 24, 25, 26, 27, 28, 29, 30, 31, 32, 33, 34, 35, 36, 37, 38, 39, 40, 41, 42, 43] (by decide +kernel) (by decide +kernel)
set_option maxRecDepth 20000 in
theorem gX4_roof_X4_floorBy : GoodIn wsX4_roof (wsV RX4 125 RX4 yX4_floorBy wsX4_floorBy) := goodIn_app (goodIn_of _ (by decide +kernel)) ggX4_roof_X4_floorBy
theorem dX4_roof_0 : decode cX4_roof 0 = .ok (.aload_n 0, 1) := by decide +kernel
theorem dX4_roof_1 : decode cX4_roof 1 = .ok (.iload_n 1, 1) := by decide +kernel
theorem dX4_roof_2 : decode cX4_roof 2 = .ok (.invokevirtual 122, 3) := by decide +kernel
theorem dX4_roof_5 : decode cX4_roof 5 = .ok (.ifCond .eq 17, 3) := by decide +kernel
theorem dX4_roof_8 : decode cX4_roof 8 = .ok (.aload_n 0, 1) := by decide +kernel
theorem dX4_roof_9 : decode cX4_roof 9 = .ok (.iload_n 1, 1) := by decide +kernel
theorem dX4_roof_10 : decode cX4_roof 10 = .ok (.aload_n 0, 1) := by decide +kernel
theorem dX4_roof_11 : decode cX4_roof 11 = .ok (.getfield 25, 3) := by decide +kernel
theorem dX4_roof_14 : decode cX4_roof 14 = .ok (.iload_n 1, 1) := by decide +kernel
theorem dX4_roof_15 : decode cX4_roof 15 = .ok (.iaload, 1) := by decide +kernel
theorem dX4_roof_16 : decode cX4_roof 16 = .ok (.invokevirtual 125, 3) := by decide +kernel
theorem dX4_roof_19 : decode cX4_roof 19 = .ok (.goto 4, 3) := by decide +kernel
theorem dX4_roof_22 : decode cX4_roof 22 = .ok (.iconst (-1), 1) := by decide +kernel
theorem dX4_roof_23 : decode cX4_roof 23 = .ok (.ireturn, 1) := by decide +kernel
set_option maxRecDepth 20000 in
theorem ggX4_safe_X4_isPerson : GoodIn wsX4_safe wsX4_isPerson := goodIn_r _ [8, 9, 30, 31, 32, 33, 34, 35, 36, 37, 38, 39, 40, 41, 42, 43, 44, 45, 46, 47, 48, 49, 50, 51, 52, 53, 54] (by decide +kernel) (by decide +kernel)
set_option maxRecDepth 20000 in
theorem gX4_safe_X4_isPerson : GoodIn wsX4_safe (wsV RX4 122 RX4 yX4_isPerson wsX4_isPerson) := goodIn_app (goodIn_of _ (by decide +kernel)) ggX4_safe_X4_isPerson
set_option maxRecDepth 20000 in
theorem ggX4_safe_X4_asNow : GoodIn wsX4_safe wsX4_asNow := goodIn_r _ [13, 9, 14, 2, 30, 31, 32, 33, 34, 35, 36, 37, 38, 39, 40, 41, 42, 43, 44, 45, 46, 47, 48, 49, 50, 51, 52, 53, 54] (by decide +kernel) (by decide +kernel)
set_option maxRecDepth 20000 in
theorem gX4_safe_X4_asNow : GoodIn wsX4_safe (wsV RX4 134 RX4 yX4_asNow wsX4_asNow) := goodIn_app (goodIn_of _ (by decide +kernel)) ggX4_safe_X4_asNow
set_option maxRecDepth 20000 in
theorem ggX4_safe_X4_isKnown : GoodIn wsX4_safe wsX4_isKnown := goodIn_r _ [18, 14, 9, 19, 20, 21, 22, 7, 23, 1, 24, 25, 26, 27, 28, 29, 30, 31, 32, 33, 34, 35, 36, 37, 38, 39, 40, 41, 42, 43, 44, 45, 46, 47, 48, 49, 50, 51, 52, 53, 54] (by decide +kernel) (by decide +kernel)
set_option maxRecDepth 20000 in
theorem gX4_safe_X4_isKnown : GoodIn wsX4_safe (wsV RX4 131 RX4 yX4_isKnown wsX4_isKnown) := goodIn_app (goodIn_of _ (by decide +kernel)) ggX4_safe_X4_isKnown
theorem dX4_safe_0 : decode cX4_safe 0 = .ok (.aload_n 0, 1) := by decide +kernel
theorem dX4_safe_1 : decode cX4_safe 1 = .ok (.iload_n 1, 1) := by decide +kernel
theorem dX4_safe_2 : decode cX4_safe 2 = .ok (.invokevirtual 122, 3) := by decide +kernel
theorem dX4_safe_5 : decode cX4_safe 5 = .ok (.ifCond .ne 5, 3) := by decide +kernel
theorem dX4_safe_8 : decode cX4_safe 8 = .ok (.iconst (-1), 1) := by decide +kernel
theorem dX4_safe_9 : decode cX4_safe 9 = .ok (.ireturn, 1) := by decide +kernel
theorem dX4_safe_10 : decode cX4_safe 10 = .ok (.aload_n 0, 1) := by decide +kernel
theorem dX4_safe_11 : decode cX4_safe 11 = .ok (.invokevirtual 134, 3) := by decide +kernel
theorem dX4_safe_14 : decode cX4_safe 14 = .ok (.iconst 1, 1) := by decide +kernel
theorem dX4_safe_15 : decode cX4_safe 15 = .ok (.aload_n 0, 1) := by decide +kernel
theorem dX4_safe_16 : decode cX4_safe 16 = .ok (.getfield 65, 3) := by decide +kernel
theorem dX4_safe_19 : decode cX4_safe 19 = .ok (.ishl, 1) := by decide +kernel
theorem dX4_safe_20 : decode cX4_safe 20 = .ok (.iconst 1, 1) := by decide +kernel
theorem dX4_safe_21 : decode cX4_safe 21 = .ok (.isub, 1) := by decide +kernel
theorem dX4_safe_22 : decode cX4_safe 22 = .ok (.aload_n 0, 1) := by decide +kernel
theorem dX4_safe_23 : decode cX4_safe 23 = .ok (.getfield 31, 3) := by decide +kernel
theorem dX4_safe_26 : decode cX4_safe 26 = .ok (.iload_n 1, 1) := by decide +kernel
theorem dX4_safe_27 : decode cX4_safe 27 = .ok (.iaload, 1) := by decide +kernel
theorem dX4_safe_28 : decode cX4_safe 28 = .ok (.iconst (-1), 1) := by decide +kernel
theorem dX4_safe_29 : decode cX4_safe 29 = .ok (.ixor, 1) := by decide +kernel
theorem dX4_safe_30 : decode cX4_safe 30 = .ok (.iand, 1) := by decide +kernel
theorem dX4_safe_31 : decode cX4_safe 31 = .ok (.istore_n 2, 1) := by decide +kernel
theorem dX4_safe_32 : decode cX4_safe 32 = .ok (.aload_n 0, 1) := by decide +kernel
theorem dX4_safe_33 : decode cX4_safe 33 = .ok (.iload_n 1, 1) := by decide +kernel
theorem dX4_safe_34 : decode cX4_safe 34 = .ok (.invokevirtual 131, 3) := by decide +kernel
theorem dX4_safe_37 : decode cX4_safe 37 = .ok (.ifCond .eq 14, 3) := by decide +kernel
theorem dX4_safe_40 : decode cX4_safe 40 = .ok (.iload_n 2, 1) := by decide +kernel
theorem dX4_safe_41 : decode cX4_safe 41 = .ok (.aload_n 0, 1) := by decide +kernel
theorem dX4_safe_42 : decode cX4_safe 42 = .ok (.getfield 25, 3) := by decide +kernel
theorem dX4_safe_45 : decode cX4_safe 45 = .ok (.iload_n 1, 1) := by decide +kernel
theorem dX4_safe_46 : decode cX4_safe 46 = .ok (.iaload, 1) := by decide +kernel
theorem dX4_safe_47 : decode cX4_safe 47 = .ok (.iand, 1) := by decide +kernel
theorem dX4_safe_48 : decode cX4_safe 48 = .ok (.goto 4, 3) := by decide +kernel
theorem dX4_safe_51 : decode cX4_safe 51 = .ok (.iload_n 2, 1) := by decide +kernel
theorem dX4_safe_52 : decode cX4_safe 52 = .ok (.ireturn, 1) := by decide +kernel
set_option maxRecDepth 20000 in
theorem ggX4_reading_X4_isPerson : GoodIn wsX4_reading wsX4_isPerson := goodIn_r _ [8, 9, 13, 14, 15, 16, 17, 18, 19, 20, 21, 22, 23, 24, 25, 26, 27, 28, 29, 30, 31, 32, 33, 34, 35, 36, 37] (by decide +kernel) (by decide +kernel)
set_option maxRecDepth 20000 in
theorem gX4_reading_X4_isPerson : GoodIn wsX4_reading (wsV RX4 122 RX4 yX4_isPerson wsX4_isPerson) := goodIn_app (goodIn_of _ (by decide +kernel)) ggX4_reading_X4_isPerson
set_option maxRecDepth 20000 in
theorem ggX4_reading_X4_within : GoodIn wsX4_reading wsX4_within := goodIn_r _ [12] (by decide +kernel) (by decide +kernel)
set_option maxRecDepth 20000 in
theorem gX4_reading_X4_within : GoodIn wsX4_reading (va_wsS RX4 61 yX4_within wsX4_within) := goodIn_app (goodIn_of _ (by decide +kernel)) ggX4_reading_X4_within
theorem dX4_reading_0 : decode cX4_reading 0 = .ok (.aload_n 0, 1) := by decide +kernel
theorem dX4_reading_1 : decode cX4_reading 1 = .ok (.iload_n 1, 1) := by decide +kernel
theorem dX4_reading_2 : decode cX4_reading 2 = .ok (.invokevirtual 122, 3) := by decide +kernel
theorem dX4_reading_5 : decode cX4_reading 5 = .ok (.ifCond .ne 5, 3) := by decide +kernel
theorem dX4_reading_8 : decode cX4_reading 8 = .ok (.iconst (-1), 1) := by decide +kernel
theorem dX4_reading_9 : decode cX4_reading 9 = .ok (.ireturn, 1) := by decide +kernel
theorem dX4_reading_10 : decode cX4_reading 10 = .ok (.iload_n 2, 1) := by decide +kernel
theorem dX4_reading_11 : decode cX4_reading 11 = .ok (.iconst 0, 1) := by decide +kernel
theorem dX4_reading_12 : decode cX4_reading 12 = .ok (.bipush 99, 2) := by decide +kernel
theorem dX4_reading_14 : decode cX4_reading 14 = .ok (.invokestatic 61, 3) := by decide +kernel
theorem dX4_reading_17 : decode cX4_reading 17 = .ok (.ifCond .ne 6, 3) := by decide +kernel
theorem dX4_reading_20 : decode cX4_reading 20 = .ok (.bipush (-2), 2) := by decide +kernel
theorem dX4_reading_22 : decode cX4_reading 22 = .ok (.ireturn, 1) := by decide +kernel
theorem dX4_reading_23 : decode cX4_reading 23 = .ok (.aload_n 0, 1) := by decide +kernel
theorem dX4_reading_24 : decode cX4_reading 24 = .ok (.getfield 101, 3) := by decide +kernel
theorem dX4_reading_27 : decode cX4_reading 27 = .ok (.bipush 8, 2) := by decide +kernel
theorem dX4_reading_29 : decode cX4_reading 29 = .ok (.if_icmp .ne 6, 3) := by decide +kernel
theorem dX4_reading_32 : decode cX4_reading 32 = .ok (.bipush (-4), 2) := by decide +kernel
theorem dX4_reading_34 : decode cX4_reading 34 = .ok (.ireturn, 1) := by decide +kernel
theorem dX4_reading_35 : decode cX4_reading 35 = .ok (.aload_n 0, 1) := by decide +kernel
theorem dX4_reading_36 : decode cX4_reading 36 = .ok (.getfield 49, 3) := by decide +kernel
theorem dX4_reading_39 : decode cX4_reading 39 = .ok (.aload_n 0, 1) := by decide +kernel
theorem dX4_reading_40 : decode cX4_reading 40 = .ok (.getfield 101, 3) := by decide +kernel
theorem dX4_reading_43 : decode cX4_reading 43 = .ok (.iload_n 1, 1) := by decide +kernel
theorem dX4_reading_44 : decode cX4_reading 44 = .ok (.iastore, 1) := by decide +kernel
theorem dX4_reading_45 : decode cX4_reading 45 = .ok (.aload_n 0, 1) := by decide +kernel
theorem dX4_reading_46 : decode cX4_reading 46 = .ok (.getfield 52, 3) := by decide +kernel
theorem dX4_reading_49 : decode cX4_reading 49 = .ok (.aload_n 0, 1) := by decide +kernel
theorem dX4_reading_50 : decode cX4_reading 50 = .ok (.getfield 101, 3) := by decide +kernel
theorem dX4_reading_53 : decode cX4_reading 53 = .ok (.iload_n 2, 1) := by decide +kernel
theorem dX4_reading_54 : decode cX4_reading 54 = .ok (.iastore, 1) := by decide +kernel
theorem dX4_reading_55 : decode cX4_reading 55 = .ok (.aload_n 0, 1) := by decide +kernel
theorem dX4_reading_56 : decode cX4_reading 56 = .ok (.dup, 1) := by decide +kernel
theorem dX4_reading_57 : decode cX4_reading 57 = .ok (.getfield 101, 3) := by decide +kernel
theorem dX4_reading_60 : decode cX4_reading 60 = .ok (.iconst 1, 1) := by decide +kernel
theorem dX4_reading_61 : decode cX4_reading 61 = .ok (.iadd, 1) := by decide +kernel
theorem dX4_reading_62 : decode cX4_reading 62 = .ok (.putfield 101, 3) := by decide +kernel
theorem dX4_reading_65 : decode cX4_reading 65 = .ok (.aload_n 0, 1) := by decide +kernel
theorem dX4_reading_66 : decode cX4_reading 66 = .ok (.getfield 101, 3) := by decide +kernel
theorem dX4_reading_69 : decode cX4_reading 69 = .ok (.iconst 1, 1) := by decide +kernel
theorem dX4_reading_70 : decode cX4_reading 70 = .ok (.isub, 1) := by decide +kernel
theorem dX4_reading_71 : decode cX4_reading 71 = .ok (.ireturn, 1) := by decide +kernel
set_option maxRecDepth 20000 in
theorem ggX4_back_X4_within : GoodIn wsX4_back wsX4_within := goodIn_r _ [5] (by decide +kernel) (by decide +kernel)
set_option maxRecDepth 20000 in
theorem gX4_back_X4_within : GoodIn wsX4_back (va_wsS RX4 61 yX4_within wsX4_within) := goodIn_app (goodIn_of _ (by decide +kernel)) ggX4_back_X4_within
theorem dX4_back_0 : decode cX4_back 0 = .ok (.iload_n 1, 1) := by decide +kernel
theorem dX4_back_1 : decode cX4_back 1 = .ok (.iconst 0, 1) := by decide +kernel
theorem dX4_back_2 : decode cX4_back 2 = .ok (.aload_n 0, 1) := by decide +kernel
theorem dX4_back_3 : decode cX4_back 3 = .ok (.getfield 101, 3) := by decide +kernel
theorem dX4_back_6 : decode cX4_back 6 = .ok (.invokestatic 61, 3) := by decide +kernel
theorem dX4_back_9 : decode cX4_back 9 = .ok (.ifCond .ne 6, 3) := by decide +kernel
theorem dX4_back_12 : decode cX4_back 12 = .ok (.bipush (-2), 2) := by decide +kernel
theorem dX4_back_14 : decode cX4_back 14 = .ok (.ireturn, 1) := by decide +kernel
theorem dX4_back_15 : decode cX4_back 15 = .ok (.aload_n 0, 1) := by decide +kernel
theorem dX4_back_16 : decode cX4_back 16 = .ok (.dup, 1) := by decide +kernel
theorem dX4_back_17 : decode cX4_back 17 = .ok (.getfield 101, 3) := by decide +kernel
theorem dX4_back_20 : decode cX4_back 20 = .ok (.iload_n 1, 1) := by decide +kernel
theorem dX4_back_21 : decode cX4_back 21 = .ok (.isub, 1) := by decide +kernel
theorem dX4_back_22 : decode cX4_back 22 = .ok (.putfield 101, 3) := by decide +kernel
theorem dX4_back_25 : decode cX4_back 25 = .ok (.aload_n 0, 1) := by decide +kernel
theorem dX4_back_26 : decode cX4_back 26 = .ok (.getfield 101, 3) := by decide +kernel
theorem dX4_back_29 : decode cX4_back 29 = .ok (.ireturn, 1) := by decide +kernel
set_option maxRecDepth 20000 in
theorem ggX4_areSo_X4_goDays : GoodIn wsX4_areSo wsX4_goDays := goodIn_r _ [9, 10, 11, 3, 12, 13, 14, 15, 16, 8, 17, 18, 19, 20, 21, 22, 23, 24, 25, 26, 27, 28, 29, 30, 31, 32, 33, 34, 35, 36, 37, 38, 39, 40, 41, 42, 43, 44, 45, 46, 47, 48, 49, 50, 51, 52, 53, 54, 55, 56, 57, 58, 59, 60, 61, 62, 63, 64, 65] (by decide +kernel) (by decide +kernel)
set_option maxRecDepth 20000 in
theorem gX4_areSo_X4_goDays : GoodIn wsX4_areSo (wsV RX4 152 RX4 yX4_goDays wsX4_goDays) := goodIn_app (goodIn_of _ (by decide +kernel)) ggX4_areSo_X4_goDays
set_option maxRecDepth 20000 in
theorem ggX4_areSo_X4_floorBy : GoodIn wsX4_areSo wsX4_floorBy := goodIn_r _ [33, 34, 35, 36, 37, 8, 38, 39, 40, 41, 42, 43, 44, 45, 46, 47, 48, 49, 50, 51, 52, 53, 54, 55, 56, 57, 58, 59, 60, 61, 62, 63, 64, 65] (by decide +kernel) (by decide +kernel)
set_option maxRecDepth 20000 in
theorem gX4_areSo_X4_floorBy : GoodIn wsX4_areSo (wsV RX4 125 RX4 yX4_floorBy wsX4_floorBy) := goodIn_app (goodIn_of _ (by decide +kernel)) ggX4_areSo_X4_floorBy
theorem dX4_areSo_0 : decode cX4_areSo 0 = .ok (.aload_n 0, 1) := by decide +kernel
theorem dX4_areSo_1 : decode cX4_areSo 1 = .ok (.invokevirtual 152, 3) := by decide +kernel
theorem dX4_areSo_4 : decode cX4_areSo 4 = .ok (.bipush (-9), 2) := by decide +kernel
theorem dX4_areSo_6 : decode cX4_areSo 6 = .ok (.if_icmp .eq 5, 3) := by decide +kernel
theorem dX4_areSo_9 : decode cX4_areSo 9 = .ok (.iconst 0, 1) := by decide +kernel
theorem dX4_areSo_10 : decode cX4_areSo 10 = .ok (.ireturn, 1) := by decide +kernel
theorem dX4_areSo_11 : decode cX4_areSo 11 = .ok (.iconst 0, 1) := by decide +kernel
theorem dX4_areSo_12 : decode cX4_areSo 12 = .ok (.istore_n 1, 1) := by decide +kernel
theorem dX4_areSo_13 : decode cX4_areSo 13 = .ok (.iload_n 1, 1) := by decide +kernel
theorem dX4_areSo_14 : decode cX4_areSo 14 = .ok (.aload_n 0, 1) := by decide +kernel
theorem dX4_areSo_15 : decode cX4_areSo 15 = .ok (.getfield 101, 3) := by decide +kernel
theorem dX4_areSo_18 : decode cX4_areSo 18 = .ok (.if_icmp .ge 41, 3) := by decide +kernel
theorem dX4_areSo_21 : decode cX4_areSo 21 = .ok (.aload_n 0, 1) := by decide +kernel
theorem dX4_areSo_22 : decode cX4_areSo 22 = .ok (.aload_n 0, 1) := by decide +kernel
theorem dX4_areSo_23 : decode cX4_areSo 23 = .ok (.getfield 49, 3) := by decide +kernel
theorem dX4_areSo_26 : decode cX4_areSo 26 = .ok (.iload_n 1, 1) := by decide +kernel
theorem dX4_areSo_27 : decode cX4_areSo 27 = .ok (.iaload, 1) := by decide +kernel
theorem dX4_areSo_28 : decode cX4_areSo 28 = .ok (.aload_n 0, 1) := by decide +kernel
theorem dX4_areSo_29 : decode cX4_areSo 29 = .ok (.getfield 40, 3) := by decide +kernel
theorem dX4_areSo_32 : decode cX4_areSo 32 = .ok (.aload_n 0, 1) := by decide +kernel
theorem dX4_areSo_33 : decode cX4_areSo 33 = .ok (.getfield 49, 3) := by decide +kernel
theorem dX4_areSo_36 : decode cX4_areSo 36 = .ok (.iload_n 1, 1) := by decide +kernel
theorem dX4_areSo_37 : decode cX4_areSo 37 = .ok (.iaload, 1) := by decide +kernel
theorem dX4_areSo_38 : decode cX4_areSo 38 = .ok (.iaload, 1) := by decide +kernel
theorem dX4_areSo_39 : decode cX4_areSo 39 = .ok (.invokevirtual 125, 3) := by decide +kernel
theorem dX4_areSo_42 : decode cX4_areSo 42 = .ok (.aload_n 0, 1) := by decide +kernel
theorem dX4_areSo_43 : decode cX4_areSo 43 = .ok (.getfield 52, 3) := by decide +kernel
theorem dX4_areSo_46 : decode cX4_areSo 46 = .ok (.iload_n 1, 1) := by decide +kernel
theorem dX4_areSo_47 : decode cX4_areSo 47 = .ok (.iaload, 1) := by decide +kernel
theorem dX4_areSo_48 : decode cX4_areSo 48 = .ok (.if_icmp .eq 5, 3) := by decide +kernel
theorem dX4_areSo_51 : decode cX4_areSo 51 = .ok (.iconst 0, 1) := by decide +kernel
theorem dX4_areSo_52 : decode cX4_areSo 52 = .ok (.ireturn, 1) := by decide +kernel
theorem dX4_areSo_53 : decode cX4_areSo 53 = .ok (.iinc 1 1, 3) := by decide +kernel
theorem dX4_areSo_56 : decode cX4_areSo 56 = .ok (.goto (-43), 3) := by decide +kernel
theorem dX4_areSo_59 : decode cX4_areSo 59 = .ok (.iconst 1, 1) := by decide +kernel
theorem dX4_areSo_60 : decode cX4_areSo 60 = .ok (.ireturn, 1) := by decide +kernel
set_option maxRecDepth 20000 in
theorem ggX4_lay_X4_isSheet : GoodIn wsX4_lay wsX4_isSheet := goodIn_r _ [5, 6, 7, 4, 8] (by decide +kernel) (by decide +kernel)
set_option maxRecDepth 20000 in
theorem gX4_lay_X4_isSheet : GoodIn wsX4_lay (va_wsS RX4 74 yX4_isSheet wsX4_isSheet) := goodIn_app (goodIn_of _ (by decide +kernel)) ggX4_lay_X4_isSheet
set_option maxRecDepth 20000 in
theorem ggX4_lay_X4_isRow : GoodIn wsX4_lay wsX4_isRow := goodIn_r _ [11, 12, 13, 4, 14, 6, 7, 8] (by decide +kernel) (by decide +kernel)
set_option maxRecDepth 20000 in
theorem gX4_lay_X4_isRow : GoodIn wsX4_lay (va_wsS RX4 146 yX4_isRow wsX4_isRow) := goodIn_app (goodIn_of _ (by decide +kernel)) ggX4_lay_X4_isRow
set_option maxRecDepth 20000 in
theorem ggX4_lay_X4_layDays : GoodIn wsX4_lay wsX4_layDays := goodIn_r _ [18, 19, 20, 21, 22, 23, 24, 25, 26, 4, 27, 28, 29, 30, 31, 32, 33, 1, 34, 35, 36, 37, 38, 39, 40, 41, 42, 43, 44, 45, 46, 47, 48, 49, 50, 51, 52, 53, 54, 55, 56, 57, 58, 59, 60, 61, 62, 63, 64, 65, 66, 67] (by decide +kernel) (by decide +kernel)
set_option maxRecDepth 20000 in
theorem gX4_lay_X4_layDays : GoodIn wsX4_lay (wsV RX4 149 RX4 yX4_layDays wsX4_layDays) := goodIn_app (goodIn_of _ (by decide +kernel)) ggX4_lay_X4_layDays
theorem dX4_lay_0 : decode cX4_lay 0 = .ok (.aload_n 0, 1) := by decide +kernel
theorem dX4_lay_1 : decode cX4_lay 1 = .ok (.iconst 0, 1) := by decide +kernel
theorem dX4_lay_2 : decode cX4_lay 2 = .ok (.putfield 55, 3) := by decide +kernel
theorem dX4_lay_5 : decode cX4_lay 5 = .ok (.iload_n 1, 1) := by decide +kernel
theorem dX4_lay_6 : decode cX4_lay 6 = .ok (.ifCond .eq 10, 3) := by decide +kernel
theorem dX4_lay_9 : decode cX4_lay 9 = .ok (.iload_n 2, 1) := by decide +kernel
theorem dX4_lay_10 : decode cX4_lay 10 = .ok (.invokestatic 74, 3) := by decide +kernel
theorem dX4_lay_13 : decode cX4_lay 13 = .ok (.ifCond .ne 5, 3) := by decide +kernel
theorem dX4_lay_16 : decode cX4_lay 16 = .ok (.iconst (-1), 1) := by decide +kernel
theorem dX4_lay_17 : decode cX4_lay 17 = .ok (.ireturn, 1) := by decide +kernel
theorem dX4_lay_18 : decode cX4_lay 18 = .ok (.iload_n 3, 1) := by decide +kernel
theorem dX4_lay_19 : decode cX4_lay 19 = .ok (.iload 5, 2) := by decide +kernel
theorem dX4_lay_21 : decode cX4_lay 21 = .ok (.invokestatic 146, 3) := by decide +kernel
theorem dX4_lay_24 : decode cX4_lay 24 = .ok (.ifCond .eq 16, 3) := by decide +kernel
theorem dX4_lay_27 : decode cX4_lay 27 = .ok (.aload_n 0, 1) := by decide +kernel
theorem dX4_lay_28 : decode cX4_lay 28 = .ok (.iload_n 2, 1) := by decide +kernel
theorem dX4_lay_29 : decode cX4_lay 29 = .ok (.iload_n 3, 1) := by decide +kernel
theorem dX4_lay_30 : decode cX4_lay 30 = .ok (.iload 4, 2) := by decide +kernel
theorem dX4_lay_32 : decode cX4_lay 32 = .ok (.iload 5, 2) := by decide +kernel
theorem dX4_lay_34 : decode cX4_lay 34 = .ok (.invokevirtual 149, 3) := by decide +kernel
theorem dX4_lay_37 : decode cX4_lay 37 = .ok (.goto 5, 3) := by decide +kernel
theorem dX4_lay_40 : decode cX4_lay 40 = .ok (.bipush (-2), 2) := by decide +kernel
theorem dX4_lay_42 : decode cX4_lay 42 = .ok (.ireturn, 1) := by decide +kernel
set_option maxRecDepth 20000 in
theorem ggX4_weights_X4_isDeed : GoodIn wsX4_weights wsX4_isDeed := goodIn_r _ [6, 7, 85, 86, 87, 88, 89, 90, 91, 92, 93, 94, 95, 96, 97, 98, 99, 100, 101, 102, 103, 104, 105, 106, 107, 108, 109] (by decide +kernel) (by decide +kernel)
set_option maxRecDepth 20000 in
theorem gX4_weights_X4_isDeed : GoodIn wsX4_weights (wsV RX4 128 RX4 yX4_isDeed wsX4_isDeed) := goodIn_app (goodIn_of _ (by decide +kernel)) ggX4_weights_X4_isDeed
set_option maxRecDepth 20000 in
theorem ggX4_weights_X4_lay : GoodIn wsX4_weights wsX4_lay := goodIn_r _ [11, 12, 13, 14, 5, 15, 16, 17, 18, 19, 20, 21, 22, 23, 24, 25, 26, 27, 28, 29, 30, 31, 32, 33, 34, 35, 36, 37, 38, 39, 40, 41, 42, 43, 44, 45, 46, 47, 2, 3, 4, 6, 7, 85, 86, 87, 88, 89, 90, 91, 92, 93, 94, 95, 96, 97, 98, 99, 100, 101, 102, 103, 104, 105, 106, 107, 108, 109] (by decide +kernel) (by decide +kernel)
set_option maxRecDepth 20000 in
theorem gX4_weights_X4_lay : GoodIn wsX4_weights (wsV RX4 165 RX4 yX4_lay wsX4_lay) := goodIn_app (goodIn_of _ (by decide +kernel)) ggX4_weights_X4_lay
set_option maxRecDepth 20000 in
theorem ggX4_weights_X4_areSo : GoodIn wsX4_weights wsX4_areSo := goodIn_r _ [51, 52, 53, 54, 55, 56, 57, 58, 5, 59, 60, 33, 30, 32, 61, 62, 63, 64, 29, 65, 66, 67, 68, 69, 70, 71, 72, 73, 74, 75, 76, 77, 78, 79, 7, 80, 81, 82, 83, 84, 1, 85, 86, 87, 88, 89, 90, 91, 92, 93, 94, 95, 96, 97, 98, 99, 100, 101, 102, 103, 104, 105, 106, 107, 108, 109] (by decide +kernel) (by decide +kernel)
set_option maxRecDepth 20000 in
theorem gX4_weights_X4_areSo : GoodIn wsX4_weights (wsV RX4 169 RX4 yX4_areSo wsX4_areSo) := goodIn_app (goodIn_of _ (by decide +kernel)) ggX4_weights_X4_areSo
theorem dX4_weights_0 : decode cX4_weights 0 = .ok (.aload_n 0, 1) := by decide +kernel
theorem dX4_weights_1 : decode cX4_weights 1 = .ok (.aload_n 0, 1) := by decide +kernel
theorem dX4_weights_2 : decode cX4_weights 2 = .ok (.iload_n 1, 1) := by decide +kernel
theorem dX4_weights_3 : decode cX4_weights 3 = .ok (.invokevirtual 128, 3) := by decide +kernel
theorem dX4_weights_6 : decode cX4_weights 6 = .ok (.iload_n 2, 1) := by decide +kernel
theorem dX4_weights_7 : decode cX4_weights 7 = .ok (.iload_n 3, 1) := by decide +kernel
theorem dX4_weights_8 : decode cX4_weights 8 = .ok (.iload 4, 2) := by decide +kernel
theorem dX4_weights_10 : decode cX4_weights 10 = .ok (.iload 5, 2) := by decide +kernel
theorem dX4_weights_12 : decode cX4_weights 12 = .ok (.invokevirtual 165, 3) := by decide +kernel
theorem dX4_weights_15 : decode cX4_weights 15 = .ok (.istore 6, 2) := by decide +kernel
theorem dX4_weights_17 : decode cX4_weights 17 = .ok (.iload 6, 2) := by decide +kernel
theorem dX4_weights_19 : decode cX4_weights 19 = .ok (.ifCond .eq 6, 3) := by decide +kernel
theorem dX4_weights_22 : decode cX4_weights 22 = .ok (.iload 6, 2) := by decide +kernel
theorem dX4_weights_24 : decode cX4_weights 24 = .ok (.ireturn, 1) := by decide +kernel
theorem dX4_weights_25 : decode cX4_weights 25 = .ok (.aload_n 0, 1) := by decide +kernel
theorem dX4_weights_26 : decode cX4_weights 26 = .ok (.getfield 19, 3) := by decide +kernel
theorem dX4_weights_29 : decode cX4_weights 29 = .ok (.iload_n 1, 1) := by decide +kernel
theorem dX4_weights_30 : decode cX4_weights 30 = .ok (.iaload, 1) := by decide +kernel
theorem dX4_weights_31 : decode cX4_weights 31 = .ok (.istore 7, 2) := by decide +kernel
theorem dX4_weights_33 : decode cX4_weights 33 = .ok (.iconst 0, 1) := by decide +kernel
theorem dX4_weights_34 : decode cX4_weights 34 = .ok (.istore 8, 2) := by decide +kernel
theorem dX4_weights_36 : decode cX4_weights 36 = .ok (.iconst 1, 1) := by decide +kernel
theorem dX4_weights_37 : decode cX4_weights 37 = .ok (.istore 9, 2) := by decide +kernel
theorem dX4_weights_39 : decode cX4_weights 39 = .ok (.iload 9, 2) := by decide +kernel
theorem dX4_weights_41 : decode cX4_weights 41 = .ok (.bipush 9, 2) := by decide +kernel
theorem dX4_weights_43 : decode cX4_weights 43 = .ok (.if_icmp .gt 37, 3) := by decide +kernel
theorem dX4_weights_46 : decode cX4_weights 46 = .ok (.aload_n 0, 1) := by decide +kernel
theorem dX4_weights_47 : decode cX4_weights 47 = .ok (.getfield 19, 3) := by decide +kernel
theorem dX4_weights_50 : decode cX4_weights 50 = .ok (.iload_n 1, 1) := by decide +kernel
theorem dX4_weights_51 : decode cX4_weights 51 = .ok (.iload 9, 2) := by decide +kernel
theorem dX4_weights_53 : decode cX4_weights 53 = .ok (.iastore, 1) := by decide +kernel
theorem dX4_weights_54 : decode cX4_weights 54 = .ok (.iload 8, 2) := by decide +kernel
theorem dX4_weights_56 : decode cX4_weights 56 = .ok (.aload_n 0, 1) := by decide +kernel
theorem dX4_weights_57 : decode cX4_weights 57 = .ok (.invokevirtual 169, 3) := by decide +kernel
theorem dX4_weights_60 : decode cX4_weights 60 = .ok (.ifCond .eq 10, 3) := by decide +kernel
theorem dX4_weights_63 : decode cX4_weights 63 = .ok (.iconst 1, 1) := by decide +kernel
theorem dX4_weights_64 : decode cX4_weights 64 = .ok (.iload 9, 2) := by decide +kernel
theorem dX4_weights_66 : decode cX4_weights 66 = .ok (.ishl, 1) := by decide +kernel
theorem dX4_weights_67 : decode cX4_weights 67 = .ok (.goto 4, 3) := by decide +kernel
theorem dX4_weights_70 : decode cX4_weights 70 = .ok (.iconst 0, 1) := by decide +kernel
theorem dX4_weights_71 : decode cX4_weights 71 = .ok (.ior, 1) := by decide +kernel
theorem dX4_weights_72 : decode cX4_weights 72 = .ok (.istore 8, 2) := by decide +kernel
theorem dX4_weights_74 : decode cX4_weights 74 = .ok (.iinc 9 1, 3) := by decide +kernel
theorem dX4_weights_77 : decode cX4_weights 77 = .ok (.goto (-38), 3) := by decide +kernel
theorem dX4_weights_80 : decode cX4_weights 80 = .ok (.aload_n 0, 1) := by decide +kernel
theorem dX4_weights_81 : decode cX4_weights 81 = .ok (.getfield 19, 3) := by decide +kernel
theorem dX4_weights_84 : decode cX4_weights 84 = .ok (.iload_n 1, 1) := by decide +kernel
theorem dX4_weights_85 : decode cX4_weights 85 = .ok (.iload 7, 2) := by decide +kernel
theorem dX4_weights_87 : decode cX4_weights 87 = .ok (.iastore, 1) := by decide +kernel
theorem dX4_weights_88 : decode cX4_weights 88 = .ok (.iload 8, 2) := by decide +kernel
theorem dX4_weights_90 : decode cX4_weights 90 = .ok (.ireturn, 1) := by decide +kernel
set_option maxRecDepth 20000 in
theorem ggX4_kinds_X4_isPerson : GoodIn wsX4_kinds wsX4_isPerson := goodIn_r _ [6, 7, 85, 86, 87, 88, 89, 90, 91, 92, 93, 94, 95, 96, 97, 98, 99, 100, 101, 102, 103, 104, 105, 106, 107, 108, 109] (by decide +kernel) (by decide +kernel)
set_option maxRecDepth 20000 in
theorem gX4_kinds_X4_isPerson : GoodIn wsX4_kinds (wsV RX4 122 RX4 yX4_isPerson wsX4_isPerson) := goodIn_app (goodIn_of _ (by decide +kernel)) ggX4_kinds_X4_isPerson
set_option maxRecDepth 20000 in
theorem ggX4_kinds_X4_lay : GoodIn wsX4_kinds wsX4_lay := goodIn_r _ [11, 12, 13, 14, 5, 15, 16, 17, 18, 19, 20, 21, 22, 23, 24, 25, 26, 27, 28, 7, 29, 30, 31, 32, 33, 34, 35, 36, 37, 38, 39, 40, 41, 42, 2, 3, 4, 6, 43, 44, 45, 46, 47, 85, 86, 87, 88, 89, 90, 91, 92, 93, 94, 95, 96, 97, 98, 99, 100, 101, 102, 103, 104, 105, 106, 107, 108, 109] (by decide +kernel) (by decide +kernel)
set_option maxRecDepth 20000 in
theorem gX4_kinds_X4_lay : GoodIn wsX4_kinds (wsV RX4 165 RX4 yX4_lay wsX4_lay) := goodIn_app (goodIn_of _ (by decide +kernel)) ggX4_kinds_X4_lay
set_option maxRecDepth 20000 in
theorem ggX4_kinds_X4_areSo : GoodIn wsX4_kinds wsX4_areSo := goodIn_r _ [51, 52, 53, 54, 55, 56, 57, 58, 5, 59, 60, 32, 29, 31, 61, 62, 63, 64, 7, 65, 66, 67, 68, 69, 70, 71, 72, 73, 74, 75, 76, 77, 78, 79, 47, 80, 81, 82, 83, 1, 84, 85, 86, 87, 88, 89, 90, 91, 92, 93, 94, 95, 96, 97, 98, 99, 100, 101, 102, 103, 104, 105, 106, 107, 108, 109] (by decide +kernel) (by decide +kernel)
set_option maxRecDepth 20000 in
theorem gX4_kinds_X4_areSo : GoodIn wsX4_kinds (wsV RX4 169 RX4 yX4_areSo wsX4_areSo) := goodIn_app (goodIn_of _ (by decide +kernel)) ggX4_kinds_X4_areSo
theorem dX4_kinds_0 : decode cX4_kinds 0 = .ok (.aload_n 0, 1) := by decide +kernel
theorem dX4_kinds_1 : decode cX4_kinds 1 = .ok (.aload_n 0, 1) := by decide +kernel
theorem dX4_kinds_2 : decode cX4_kinds 2 = .ok (.iload_n 1, 1) := by decide +kernel
theorem dX4_kinds_3 : decode cX4_kinds 3 = .ok (.invokevirtual 122, 3) := by decide +kernel
theorem dX4_kinds_6 : decode cX4_kinds 6 = .ok (.iload_n 2, 1) := by decide +kernel
theorem dX4_kinds_7 : decode cX4_kinds 7 = .ok (.iload_n 3, 1) := by decide +kernel
theorem dX4_kinds_8 : decode cX4_kinds 8 = .ok (.iload 4, 2) := by decide +kernel
theorem dX4_kinds_10 : decode cX4_kinds 10 = .ok (.iload 5, 2) := by decide +kernel
theorem dX4_kinds_12 : decode cX4_kinds 12 = .ok (.invokevirtual 165, 3) := by decide +kernel
theorem dX4_kinds_15 : decode cX4_kinds 15 = .ok (.istore 6, 2) := by decide +kernel
theorem dX4_kinds_17 : decode cX4_kinds 17 = .ok (.iload 6, 2) := by decide +kernel
theorem dX4_kinds_19 : decode cX4_kinds 19 = .ok (.ifCond .eq 6, 3) := by decide +kernel
theorem dX4_kinds_22 : decode cX4_kinds 22 = .ok (.iload 6, 2) := by decide +kernel
theorem dX4_kinds_24 : decode cX4_kinds 24 = .ok (.ireturn, 1) := by decide +kernel
theorem dX4_kinds_25 : decode cX4_kinds 25 = .ok (.aload_n 0, 1) := by decide +kernel
theorem dX4_kinds_26 : decode cX4_kinds 26 = .ok (.getfield 22, 3) := by decide +kernel
theorem dX4_kinds_29 : decode cX4_kinds 29 = .ok (.iload_n 1, 1) := by decide +kernel
theorem dX4_kinds_30 : decode cX4_kinds 30 = .ok (.iaload, 1) := by decide +kernel
theorem dX4_kinds_31 : decode cX4_kinds 31 = .ok (.istore 7, 2) := by decide +kernel
theorem dX4_kinds_33 : decode cX4_kinds 33 = .ok (.iconst 0, 1) := by decide +kernel
theorem dX4_kinds_34 : decode cX4_kinds 34 = .ok (.istore 8, 2) := by decide +kernel
theorem dX4_kinds_36 : decode cX4_kinds 36 = .ok (.iconst 0, 1) := by decide +kernel
theorem dX4_kinds_37 : decode cX4_kinds 37 = .ok (.istore 9, 2) := by decide +kernel
theorem dX4_kinds_39 : decode cX4_kinds 39 = .ok (.iload 9, 2) := by decide +kernel
theorem dX4_kinds_41 : decode cX4_kinds 41 = .ok (.iconst 3, 1) := by decide +kernel
theorem dX4_kinds_42 : decode cX4_kinds 42 = .ok (.if_icmp .ge 37, 3) := by decide +kernel
theorem dX4_kinds_45 : decode cX4_kinds 45 = .ok (.aload_n 0, 1) := by decide +kernel
theorem dX4_kinds_46 : decode cX4_kinds 46 = .ok (.getfield 22, 3) := by decide +kernel
theorem dX4_kinds_49 : decode cX4_kinds 49 = .ok (.iload_n 1, 1) := by decide +kernel
theorem dX4_kinds_50 : decode cX4_kinds 50 = .ok (.iload 9, 2) := by decide +kernel
theorem dX4_kinds_52 : decode cX4_kinds 52 = .ok (.iastore, 1) := by decide +kernel
theorem dX4_kinds_53 : decode cX4_kinds 53 = .ok (.iload 8, 2) := by decide +kernel
theorem dX4_kinds_55 : decode cX4_kinds 55 = .ok (.aload_n 0, 1) := by decide +kernel
theorem dX4_kinds_56 : decode cX4_kinds 56 = .ok (.invokevirtual 169, 3) := by decide +kernel
theorem dX4_kinds_59 : decode cX4_kinds 59 = .ok (.ifCond .eq 10, 3) := by decide +kernel
theorem dX4_kinds_62 : decode cX4_kinds 62 = .ok (.iconst 1, 1) := by decide +kernel
theorem dX4_kinds_63 : decode cX4_kinds 63 = .ok (.iload 9, 2) := by decide +kernel
theorem dX4_kinds_65 : decode cX4_kinds 65 = .ok (.ishl, 1) := by decide +kernel
theorem dX4_kinds_66 : decode cX4_kinds 66 = .ok (.goto 4, 3) := by decide +kernel
theorem dX4_kinds_69 : decode cX4_kinds 69 = .ok (.iconst 0, 1) := by decide +kernel
theorem dX4_kinds_70 : decode cX4_kinds 70 = .ok (.ior, 1) := by decide +kernel
theorem dX4_kinds_71 : decode cX4_kinds 71 = .ok (.istore 8, 2) := by decide +kernel
theorem dX4_kinds_73 : decode cX4_kinds 73 = .ok (.iinc 9 1, 3) := by decide +kernel
theorem dX4_kinds_76 : decode cX4_kinds 76 = .ok (.goto (-37), 3) := by decide +kernel
theorem dX4_kinds_79 : decode cX4_kinds 79 = .ok (.aload_n 0, 1) := by decide +kernel
theorem dX4_kinds_80 : decode cX4_kinds 80 = .ok (.getfield 22, 3) := by decide +kernel
theorem dX4_kinds_83 : decode cX4_kinds 83 = .ok (.iload_n 1, 1) := by decide +kernel
theorem dX4_kinds_84 : decode cX4_kinds 84 = .ok (.iload 7, 2) := by decide +kernel
theorem dX4_kinds_86 : decode cX4_kinds 86 = .ok (.iastore, 1) := by decide +kernel
theorem dX4_kinds_87 : decode cX4_kinds 87 = .ok (.iload 8, 2) := by decide +kernel
theorem dX4_kinds_89 : decode cX4_kinds 89 = .ok (.ireturn, 1) := by decide +kernel
set_option maxRecDepth 20000 in
theorem ggX4_knew_X4_isPerson : GoodIn wsX4_knew wsX4_isPerson := goodIn_r _ [6, 7, 85, 86, 87, 88, 89, 90, 91, 92, 93, 94, 95, 96, 97, 98, 99, 100, 101, 102, 103, 104, 105, 106, 107, 108, 109] (by decide +kernel) (by decide +kernel)
set_option maxRecDepth 20000 in
theorem gX4_knew_X4_isPerson : GoodIn wsX4_knew (wsV RX4 122 RX4 yX4_isPerson wsX4_isPerson) := goodIn_app (goodIn_of _ (by decide +kernel)) ggX4_knew_X4_isPerson
set_option maxRecDepth 20000 in
theorem ggX4_knew_X4_lay : GoodIn wsX4_knew wsX4_lay := goodIn_r _ [11, 12, 13, 14, 5, 15, 16, 17, 18, 19, 20, 21, 22, 23, 24, 25, 26, 27, 28, 7, 29, 30, 31, 32, 33, 34, 35, 36, 37, 38, 39, 40, 41, 42, 2, 3, 4, 6, 43, 44, 45, 46, 47, 85, 86, 87, 88, 89, 90, 91, 92, 93, 94, 95, 96, 97, 98, 99, 100, 101, 102, 103, 104, 105, 106, 107, 108, 109] (by decide +kernel) (by decide +kernel)
set_option maxRecDepth 20000 in
theorem gX4_knew_X4_lay : GoodIn wsX4_knew (wsV RX4 165 RX4 yX4_lay wsX4_lay) := goodIn_app (goodIn_of _ (by decide +kernel)) ggX4_knew_X4_lay
set_option maxRecDepth 20000 in
theorem ggX4_knew_X4_areSo : GoodIn wsX4_knew wsX4_areSo := goodIn_r _ [51, 52, 53, 54, 55, 56, 57, 58, 5, 59, 60, 32, 29, 31, 61, 62, 63, 64, 7, 65, 66, 67, 68, 69, 70, 71, 72, 73, 74, 1, 75, 76, 77, 78, 47, 79, 80, 81, 82, 83, 84, 85, 86, 87, 88, 89, 90, 91, 92, 93, 94, 95, 96, 97, 98, 99, 100, 101, 102, 103, 104, 105, 106, 107, 108, 109] (by decide +kernel) (by decide +kernel)
set_option maxRecDepth 20000 in
theorem gX4_knew_X4_areSo : GoodIn wsX4_knew (wsV RX4 169 RX4 yX4_areSo wsX4_areSo) := goodIn_app (goodIn_of _ (by decide +kernel)) ggX4_knew_X4_areSo
theorem dX4_knew_0 : decode cX4_knew 0 = .ok (.aload_n 0, 1) := by decide +kernel
theorem dX4_knew_1 : decode cX4_knew 1 = .ok (.aload_n 0, 1) := by decide +kernel
theorem dX4_knew_2 : decode cX4_knew 2 = .ok (.iload_n 1, 1) := by decide +kernel
theorem dX4_knew_3 : decode cX4_knew 3 = .ok (.invokevirtual 122, 3) := by decide +kernel
theorem dX4_knew_6 : decode cX4_knew 6 = .ok (.iload_n 2, 1) := by decide +kernel
theorem dX4_knew_7 : decode cX4_knew 7 = .ok (.iload_n 3, 1) := by decide +kernel
theorem dX4_knew_8 : decode cX4_knew 8 = .ok (.iload 4, 2) := by decide +kernel
theorem dX4_knew_10 : decode cX4_knew 10 = .ok (.iload 5, 2) := by decide +kernel
theorem dX4_knew_12 : decode cX4_knew 12 = .ok (.invokevirtual 165, 3) := by decide +kernel
theorem dX4_knew_15 : decode cX4_knew 15 = .ok (.istore 6, 2) := by decide +kernel
theorem dX4_knew_17 : decode cX4_knew 17 = .ok (.iload 6, 2) := by decide +kernel
theorem dX4_knew_19 : decode cX4_knew 19 = .ok (.ifCond .eq 6, 3) := by decide +kernel
theorem dX4_knew_22 : decode cX4_knew 22 = .ok (.iload 6, 2) := by decide +kernel
theorem dX4_knew_24 : decode cX4_knew 24 = .ok (.ireturn, 1) := by decide +kernel
theorem dX4_knew_25 : decode cX4_knew 25 = .ok (.aload_n 0, 1) := by decide +kernel
theorem dX4_knew_26 : decode cX4_knew 26 = .ok (.getfield 28, 3) := by decide +kernel
theorem dX4_knew_29 : decode cX4_knew 29 = .ok (.iload_n 1, 1) := by decide +kernel
theorem dX4_knew_30 : decode cX4_knew 30 = .ok (.iaload, 1) := by decide +kernel
theorem dX4_knew_31 : decode cX4_knew 31 = .ok (.istore 7, 2) := by decide +kernel
theorem dX4_knew_33 : decode cX4_knew 33 = .ok (.iconst 0, 1) := by decide +kernel
theorem dX4_knew_34 : decode cX4_knew 34 = .ok (.istore 8, 2) := by decide +kernel
theorem dX4_knew_36 : decode cX4_knew 36 = .ok (.iconst 0, 1) := by decide +kernel
theorem dX4_knew_37 : decode cX4_knew 37 = .ok (.istore 9, 2) := by decide +kernel
theorem dX4_knew_39 : decode cX4_knew 39 = .ok (.iload 9, 2) := by decide +kernel
theorem dX4_knew_41 : decode cX4_knew 41 = .ok (.iconst 4, 1) := by decide +kernel
theorem dX4_knew_42 : decode cX4_knew 42 = .ok (.if_icmp .gt 37, 3) := by decide +kernel
theorem dX4_knew_45 : decode cX4_knew 45 = .ok (.aload_n 0, 1) := by decide +kernel
theorem dX4_knew_46 : decode cX4_knew 46 = .ok (.getfield 28, 3) := by decide +kernel
theorem dX4_knew_49 : decode cX4_knew 49 = .ok (.iload_n 1, 1) := by decide +kernel
theorem dX4_knew_50 : decode cX4_knew 50 = .ok (.iload 9, 2) := by decide +kernel
theorem dX4_knew_52 : decode cX4_knew 52 = .ok (.iastore, 1) := by decide +kernel
theorem dX4_knew_53 : decode cX4_knew 53 = .ok (.iload 8, 2) := by decide +kernel
theorem dX4_knew_55 : decode cX4_knew 55 = .ok (.aload_n 0, 1) := by decide +kernel
theorem dX4_knew_56 : decode cX4_knew 56 = .ok (.invokevirtual 169, 3) := by decide +kernel
theorem dX4_knew_59 : decode cX4_knew 59 = .ok (.ifCond .eq 10, 3) := by decide +kernel
theorem dX4_knew_62 : decode cX4_knew 62 = .ok (.iconst 1, 1) := by decide +kernel
theorem dX4_knew_63 : decode cX4_knew 63 = .ok (.iload 9, 2) := by decide +kernel
theorem dX4_knew_65 : decode cX4_knew 65 = .ok (.ishl, 1) := by decide +kernel
theorem dX4_knew_66 : decode cX4_knew 66 = .ok (.goto 4, 3) := by decide +kernel
theorem dX4_knew_69 : decode cX4_knew 69 = .ok (.iconst 0, 1) := by decide +kernel
theorem dX4_knew_70 : decode cX4_knew 70 = .ok (.ior, 1) := by decide +kernel
theorem dX4_knew_71 : decode cX4_knew 71 = .ok (.istore 8, 2) := by decide +kernel
theorem dX4_knew_73 : decode cX4_knew 73 = .ok (.iinc 9 1, 3) := by decide +kernel
theorem dX4_knew_76 : decode cX4_knew 76 = .ok (.goto (-37), 3) := by decide +kernel
theorem dX4_knew_79 : decode cX4_knew 79 = .ok (.aload_n 0, 1) := by decide +kernel
theorem dX4_knew_80 : decode cX4_knew 80 = .ok (.getfield 28, 3) := by decide +kernel
theorem dX4_knew_83 : decode cX4_knew 83 = .ok (.iload_n 1, 1) := by decide +kernel
theorem dX4_knew_84 : decode cX4_knew 84 = .ok (.iload 7, 2) := by decide +kernel
theorem dX4_knew_86 : decode cX4_knew 86 = .ok (.iastore, 1) := by decide +kernel
theorem dX4_knew_87 : decode cX4_knew 87 = .ok (.iload 8, 2) := by decide +kernel
theorem dX4_knew_89 : decode cX4_knew 89 = .ok (.ireturn, 1) := by decide +kernel
theorem dX4_inLeastTerms_0 : decode cX4_inLeastTerms 0 = .ok (.lload_n 0, 1) := by decide +kernel
theorem dX4_inLeastTerms_1 : decode cX4_inLeastTerms 1 = .ok (.lstore 5, 2) := by decide +kernel
theorem dX4_inLeastTerms_3 : decode cX4_inLeastTerms 3 = .ok (.lload_n 2, 1) := by decide +kernel
theorem dX4_inLeastTerms_4 : decode cX4_inLeastTerms 4 = .ok (.lstore 7, 2) := by decide +kernel
theorem dX4_inLeastTerms_6 : decode cX4_inLeastTerms 6 = .ok (.lload 7, 2) := by decide +kernel
theorem dX4_inLeastTerms_8 : decode cX4_inLeastTerms 8 = .ok (.lconst 0, 1) := by decide +kernel
theorem dX4_inLeastTerms_9 : decode cX4_inLeastTerms 9 = .ok (.lcmp, 1) := by decide +kernel
theorem dX4_inLeastTerms_10 : decode cX4_inLeastTerms 10 = .ok (.ifCond .eq 21, 3) := by decide +kernel
theorem dX4_inLeastTerms_13 : decode cX4_inLeastTerms 13 = .ok (.lload 5, 2) := by decide +kernel
theorem dX4_inLeastTerms_15 : decode cX4_inLeastTerms 15 = .ok (.lload 7, 2) := by decide +kernel
theorem dX4_inLeastTerms_17 : decode cX4_inLeastTerms 17 = .ok (.lrem, 1) := by decide +kernel
theorem dX4_inLeastTerms_18 : decode cX4_inLeastTerms 18 = .ok (.lstore 9, 2) := by decide +kernel
theorem dX4_inLeastTerms_20 : decode cX4_inLeastTerms 20 = .ok (.lload 7, 2) := by decide +kernel
theorem dX4_inLeastTerms_22 : decode cX4_inLeastTerms 22 = .ok (.lstore 5, 2) := by decide +kernel
theorem dX4_inLeastTerms_24 : decode cX4_inLeastTerms 24 = .ok (.lload 9, 2) := by decide +kernel
theorem dX4_inLeastTerms_26 : decode cX4_inLeastTerms 26 = .ok (.lstore 7, 2) := by decide +kernel
theorem dX4_inLeastTerms_28 : decode cX4_inLeastTerms 28 = .ok (.goto (-22), 3) := by decide +kernel
theorem dX4_inLeastTerms_31 : decode cX4_inLeastTerms 31 = .ok (.iload 4, 2) := by decide +kernel
theorem dX4_inLeastTerms_33 : decode cX4_inLeastTerms 33 = .ok (.ifCond .ne 10, 3) := by decide +kernel
theorem dX4_inLeastTerms_36 : decode cX4_inLeastTerms 36 = .ok (.lload_n 0, 1) := by decide +kernel
theorem dX4_inLeastTerms_37 : decode cX4_inLeastTerms 37 = .ok (.lload 5, 2) := by decide +kernel
theorem dX4_inLeastTerms_39 : decode cX4_inLeastTerms 39 = .ok (.ldiv, 1) := by decide +kernel
theorem dX4_inLeastTerms_40 : decode cX4_inLeastTerms 40 = .ok (.goto 7, 3) := by decide +kernel
theorem dX4_inLeastTerms_43 : decode cX4_inLeastTerms 43 = .ok (.lload_n 2, 1) := by decide +kernel
theorem dX4_inLeastTerms_44 : decode cX4_inLeastTerms 44 = .ok (.lload 5, 2) := by decide +kernel
theorem dX4_inLeastTerms_46 : decode cX4_inLeastTerms 46 = .ok (.ldiv, 1) := by decide +kernel
theorem dX4_inLeastTerms_47 : decode cX4_inLeastTerms 47 = .ok (.lreturn, 1) := by decide +kernel
set_option maxRecDepth 20000 in
theorem ggX4_odds_X4_isPerson : GoodIn wsX4_odds wsX4_isPerson := goodIn_r _ [8, 9, 33, 34, 35, 36, 37, 38, 39, 40, 41, 42, 43, 44, 45, 46, 47, 48, 49, 50, 51, 52, 53, 54, 55, 56, 57] (by decide +kernel) (by decide +kernel)
set_option maxRecDepth 20000 in
theorem gX4_odds_X4_isPerson : GoodIn wsX4_odds (wsV RX4 122 RX4 yX4_isPerson wsX4_isPerson) := goodIn_app (goodIn_of _ (by decide +kernel)) ggX4_odds_X4_isPerson
set_option maxRecDepth 20000 in
theorem ggX4_odds_X4_within : GoodIn wsX4_odds wsX4_within := goodIn_r _ [12] (by decide +kernel) (by decide +kernel)
set_option maxRecDepth 20000 in
theorem gX4_odds_X4_within : GoodIn wsX4_odds (va_wsS RX4 61 yX4_within wsX4_within) := goodIn_app (goodIn_of _ (by decide +kernel)) ggX4_odds_X4_within
set_option maxRecDepth 20000 in
theorem ggX4_odds_X4_isTruths : GoodIn wsX4_odds wsX4_isTruths := goodIn_r _ [16, 3, 33, 34, 35, 36, 37, 38, 39, 40, 41, 42, 43, 44, 45, 46, 47, 48, 49, 50, 51, 52, 53, 54, 55, 56, 57] (by decide +kernel) (by decide +kernel)
set_option maxRecDepth 20000 in
theorem gX4_odds_X4_isTruths : GoodIn wsX4_odds (wsV RX4 159 RX4 yX4_isTruths wsX4_isTruths) := goodIn_app (goodIn_of _ (by decide +kernel)) ggX4_odds_X4_isTruths
set_option maxRecDepth 20000 in
theorem ggX4_odds_X4_floorBy : GoodIn wsX4_odds wsX4_floorBy := goodIn_r _ [20, 2, 21, 22, 23, 7, 24, 25, 26, 33, 34, 35, 36, 37, 38, 39, 40, 41, 42, 43, 44, 45, 46, 47, 48, 49, 50, 51, 52, 53, 54, 55, 56, 57] (by decide +kernel) (by decide +kernel)
set_option maxRecDepth 20000 in
theorem gX4_odds_X4_floorBy : GoodIn wsX4_odds (wsV RX4 125 RX4 yX4_floorBy wsX4_floorBy) := goodIn_app (goodIn_of _ (by decide +kernel)) ggX4_odds_X4_floorBy
set_option maxRecDepth 20000 in
theorem ggX4_odds_X4_size : GoodIn wsX4_odds wsX4_size := goodIn_r _ [29] (by decide +kernel) (by decide +kernel)
set_option maxRecDepth 20000 in
theorem gX4_odds_X4_size : GoodIn wsX4_odds (va_wsS RX4 162 yX4_size wsX4_size) := goodIn_app (goodIn_of _ (by decide +kernel)) ggX4_odds_X4_size
set_option maxRecDepth 20000 in
theorem ggX4_odds_X4_inLeastTerms : GoodIn wsX4_odds wsX4_inLeastTerms := goodIn_r _ [32] (by decide +kernel) (by decide +kernel)
set_option maxRecDepth 20000 in
theorem gX4_odds_X4_inLeastTerms : GoodIn wsX4_odds (va_wsS RX4 173 yX4_inLeastTerms wsX4_inLeastTerms) := goodIn_app (goodIn_of _ (by decide +kernel)) ggX4_odds_X4_inLeastTerms
theorem dX4_odds_0 : decode cX4_odds 0 = .ok (.aload_n 0, 1) := by decide +kernel
theorem dX4_odds_1 : decode cX4_odds 1 = .ok (.iload_n 1, 1) := by decide +kernel
theorem dX4_odds_2 : decode cX4_odds 2 = .ok (.invokevirtual 122, 3) := by decide +kernel
theorem dX4_odds_5 : decode cX4_odds 5 = .ok (.ifCond .eq 16, 3) := by decide +kernel
theorem dX4_odds_8 : decode cX4_odds 8 = .ok (.iload_n 2, 1) := by decide +kernel
theorem dX4_odds_9 : decode cX4_odds 9 = .ok (.ifCond .lt 12, 3) := by decide +kernel
theorem dX4_odds_12 : decode cX4_odds 12 = .ok (.iload_n 3, 1) := by decide +kernel
theorem dX4_odds_13 : decode cX4_odds 13 = .ok (.iconst 0, 1) := by decide +kernel
theorem dX4_odds_14 : decode cX4_odds 14 = .ok (.iconst 1, 1) := by decide +kernel
theorem dX4_odds_15 : decode cX4_odds 15 = .ok (.invokestatic 61, 3) := by decide +kernel
theorem dX4_odds_18 : decode cX4_odds 18 = .ok (.ifCond .ne 7, 3) := by decide +kernel
theorem dX4_odds_21 : decode cX4_odds 21 = .ok (.ldc2_w 59, 3) := by decide +kernel
theorem dX4_odds_24 : decode cX4_odds 24 = .ok (.lreturn, 1) := by decide +kernel
theorem dX4_odds_25 : decode cX4_odds 25 = .ok (.iconst 0, 1) := by decide +kernel
theorem dX4_odds_26 : decode cX4_odds 26 = .ok (.istore 4, 2) := by decide +kernel
theorem dX4_odds_28 : decode cX4_odds 28 = .ok (.iconst 0, 1) := by decide +kernel
theorem dX4_odds_29 : decode cX4_odds 29 = .ok (.istore 5, 2) := by decide +kernel
theorem dX4_odds_31 : decode cX4_odds 31 = .ok (.iload 5, 2) := by decide +kernel
theorem dX4_odds_33 : decode cX4_odds 33 = .ok (.iconst 1, 1) := by decide +kernel
theorem dX4_odds_34 : decode cX4_odds 34 = .ok (.aload_n 0, 1) := by decide +kernel
theorem dX4_odds_35 : decode cX4_odds 35 = .ok (.getfield 65, 3) := by decide +kernel
theorem dX4_odds_38 : decode cX4_odds 38 = .ok (.ishl, 1) := by decide +kernel
theorem dX4_odds_39 : decode cX4_odds 39 = .ok (.if_icmp .ge 40, 3) := by decide +kernel
theorem dX4_odds_42 : decode cX4_odds 42 = .ok (.iload 4, 2) := by decide +kernel
theorem dX4_odds_44 : decode cX4_odds 44 = .ok (.aload_n 0, 1) := by decide +kernel
theorem dX4_odds_45 : decode cX4_odds 45 = .ok (.iload_n 1, 1) := by decide +kernel
theorem dX4_odds_46 : decode cX4_odds 46 = .ok (.iload 5, 2) := by decide +kernel
theorem dX4_odds_48 : decode cX4_odds 48 = .ok (.invokevirtual 159, 3) := by decide +kernel
theorem dX4_odds_51 : decode cX4_odds 51 = .ok (.ifCond .eq 18, 3) := by decide +kernel
theorem dX4_odds_54 : decode cX4_odds 54 = .ok (.aload_n 0, 1) := by decide +kernel
theorem dX4_odds_55 : decode cX4_odds 55 = .ok (.iload_n 1, 1) := by decide +kernel
theorem dX4_odds_56 : decode cX4_odds 56 = .ok (.iload 5, 2) := by decide +kernel
theorem dX4_odds_58 : decode cX4_odds 58 = .ok (.invokevirtual 125, 3) := by decide +kernel
theorem dX4_odds_61 : decode cX4_odds 61 = .ok (.iload_n 2, 1) := by decide +kernel
theorem dX4_odds_62 : decode cX4_odds 62 = .ok (.if_icmp .lt 7, 3) := by decide +kernel
theorem dX4_odds_65 : decode cX4_odds 65 = .ok (.iconst 1, 1) := by decide +kernel
theorem dX4_odds_66 : decode cX4_odds 66 = .ok (.goto 4, 3) := by decide +kernel
theorem dX4_odds_69 : decode cX4_odds 69 = .ok (.iconst 0, 1) := by decide +kernel
theorem dX4_odds_70 : decode cX4_odds 70 = .ok (.iadd, 1) := by decide +kernel
theorem dX4_odds_71 : decode cX4_odds 71 = .ok (.istore 4, 2) := by decide +kernel
theorem dX4_odds_73 : decode cX4_odds 73 = .ok (.iinc 5 1, 3) := by decide +kernel
theorem dX4_odds_76 : decode cX4_odds 76 = .ok (.goto (-45), 3) := by decide +kernel
theorem dX4_odds_79 : decode cX4_odds 79 = .ok (.iload 4, 2) := by decide +kernel
theorem dX4_odds_81 : decode cX4_odds 81 = .ok (.i2l, 1) := by decide +kernel
theorem dX4_odds_82 : decode cX4_odds 82 = .ok (.lconst 1, 1) := by decide +kernel
theorem dX4_odds_83 : decode cX4_odds 83 = .ok (.aload_n 0, 1) := by decide +kernel
theorem dX4_odds_84 : decode cX4_odds 84 = .ok (.getfield 25, 3) := by decide +kernel
theorem dX4_odds_87 : decode cX4_odds 87 = .ok (.iload_n 1, 1) := by decide +kernel
theorem dX4_odds_88 : decode cX4_odds 88 = .ok (.iaload, 1) := by decide +kernel
theorem dX4_odds_89 : decode cX4_odds 89 = .ok (.invokestatic 162, 3) := by decide +kernel
theorem dX4_odds_92 : decode cX4_odds 92 = .ok (.lshl, 1) := by decide +kernel
theorem dX4_odds_93 : decode cX4_odds 93 = .ok (.iload_n 3, 1) := by decide +kernel
theorem dX4_odds_94 : decode cX4_odds 94 = .ok (.invokestatic 173, 3) := by decide +kernel
theorem dX4_odds_97 : decode cX4_odds 97 = .ok (.lreturn, 1) := by decide +kernel
set_option maxRecDepth 20000 in
theorem ggX4_sheet_X4_isSheet : GoodIn wsX4_sheet wsX4_isSheet := goodIn_r _ [8, 9, 10, 7, 11] (by decide +kernel) (by decide +kernel)
set_option maxRecDepth 20000 in
theorem gX4_sheet_X4_isSheet : GoodIn wsX4_sheet (va_wsS RX4 74 yX4_isSheet wsX4_isSheet) := goodIn_app (goodIn_of _ (by decide +kernel)) ggX4_sheet_X4_isSheet
set_option maxRecDepth 20000 in
theorem ggX4_sheet_X4_isSort : GoodIn wsX4_sheet wsX4_isSort := goodIn_r _ [14, 9, 10, 7, 11] (by decide +kernel) (by decide +kernel)
set_option maxRecDepth 20000 in
theorem gX4_sheet_X4_isSort : GoodIn wsX4_sheet (va_wsS RX4 78 yX4_isSort wsX4_isSort) := goodIn_app (goodIn_of _ (by decide +kernel)) ggX4_sheet_X4_isSort
set_option maxRecDepth 20000 in
theorem ggX4_sheet_X4_fails : GoodIn wsX4_sheet wsX4_fails := goodIn_r _ [18, 1, 19, 20, 21, 22, 23, 24, 25, 26, 27, 28, 29, 30, 31, 32, 33, 34, 35, 36, 37, 38, 39, 40, 41, 42, 43] (by decide +kernel) (by decide +kernel)
set_option maxRecDepth 20000 in
theorem gX4_sheet_X4_fails : GoodIn wsX4_sheet (wsV RX4 85 RX4 yX4_fails wsX4_fails) := goodIn_app (goodIn_of _ (by decide +kernel)) ggX4_sheet_X4_fails
theorem dX4_sheet_0 : decode cX4_sheet 0 = .ok (.aload_n 0, 1) := by decide +kernel
theorem dX4_sheet_1 : decode cX4_sheet 1 = .ok (.iconst 0, 1) := by decide +kernel
theorem dX4_sheet_2 : decode cX4_sheet 2 = .ok (.putfield 55, 3) := by decide +kernel
theorem dX4_sheet_5 : decode cX4_sheet 5 = .ok (.iload_n 1, 1) := by decide +kernel
theorem dX4_sheet_6 : decode cX4_sheet 6 = .ok (.invokestatic 74, 3) := by decide +kernel
theorem dX4_sheet_9 : decode cX4_sheet 9 = .ok (.ifCond .ne 5, 3) := by decide +kernel
theorem dX4_sheet_12 : decode cX4_sheet 12 = .ok (.iconst (-1), 1) := by decide +kernel
theorem dX4_sheet_13 : decode cX4_sheet 13 = .ok (.ireturn, 1) := by decide +kernel
theorem dX4_sheet_14 : decode cX4_sheet 14 = .ok (.iload_n 2, 1) := by decide +kernel
theorem dX4_sheet_15 : decode cX4_sheet 15 = .ok (.invokestatic 78, 3) := by decide +kernel
theorem dX4_sheet_18 : decode cX4_sheet 18 = .ok (.ifCond .eq 9, 3) := by decide +kernel
theorem dX4_sheet_21 : decode cX4_sheet 21 = .ok (.iload_n 3, 1) := by decide +kernel
theorem dX4_sheet_22 : decode cX4_sheet 22 = .ok (.bipush 60, 2) := by decide +kernel
theorem dX4_sheet_24 : decode cX4_sheet 24 = .ok (.if_icmp .le 6, 3) := by decide +kernel
theorem dX4_sheet_27 : decode cX4_sheet 27 = .ok (.bipush (-2), 2) := by decide +kernel
theorem dX4_sheet_29 : decode cX4_sheet 29 = .ok (.ireturn, 1) := by decide +kernel
theorem dX4_sheet_30 : decode cX4_sheet 30 = .ok (.iload_n 3, 1) := by decide +kernel
theorem dX4_sheet_31 : decode cX4_sheet 31 = .ok (.ifCond .ge 9, 3) := by decide +kernel
theorem dX4_sheet_34 : decode cX4_sheet 34 = .ok (.aload_n 0, 1) := by decide +kernel
theorem dX4_sheet_35 : decode cX4_sheet 35 = .ok (.iconst 4, 1) := by decide +kernel
theorem dX4_sheet_36 : decode cX4_sheet 36 = .ok (.invokevirtual 85, 3) := by decide +kernel
theorem dX4_sheet_39 : decode cX4_sheet 39 = .ok (.ireturn, 1) := by decide +kernel
theorem dX4_sheet_40 : decode cX4_sheet 40 = .ok (.aload_n 0, 1) := by decide +kernel
theorem dX4_sheet_41 : decode cX4_sheet 41 = .ok (.getfield 9, 3) := by decide +kernel
theorem dX4_sheet_44 : decode cX4_sheet 44 = .ok (.iload_n 1, 1) := by decide +kernel
theorem dX4_sheet_45 : decode cX4_sheet 45 = .ok (.iload_n 2, 1) := by decide +kernel
theorem dX4_sheet_46 : decode cX4_sheet 46 = .ok (.iastore, 1) := by decide +kernel
theorem dX4_sheet_47 : decode cX4_sheet 47 = .ok (.aload_n 0, 1) := by decide +kernel
theorem dX4_sheet_48 : decode cX4_sheet 48 = .ok (.getfield 13, 3) := by decide +kernel
theorem dX4_sheet_51 : decode cX4_sheet 51 = .ok (.iload_n 1, 1) := by decide +kernel
theorem dX4_sheet_52 : decode cX4_sheet 52 = .ok (.iload_n 3, 1) := by decide +kernel
theorem dX4_sheet_53 : decode cX4_sheet 53 = .ok (.iastore, 1) := by decide +kernel
theorem dX4_sheet_54 : decode cX4_sheet 54 = .ok (.iconst 0, 1) := by decide +kernel
theorem dX4_sheet_55 : decode cX4_sheet 55 = .ok (.istore 4, 2) := by decide +kernel
theorem dX4_sheet_57 : decode cX4_sheet 57 = .ok (.iload 4, 2) := by decide +kernel
theorem dX4_sheet_59 : decode cX4_sheet 59 = .ok (.bipush 60, 2) := by decide +kernel
theorem dX4_sheet_61 : decode cX4_sheet 61 = .ok (.if_icmp .ge 22, 3) := by decide +kernel
theorem dX4_sheet_64 : decode cX4_sheet 64 = .ok (.aload_n 0, 1) := by decide +kernel
theorem dX4_sheet_65 : decode cX4_sheet 65 = .ok (.getfield 16, 3) := by decide +kernel
theorem dX4_sheet_68 : decode cX4_sheet 68 = .ok (.bipush 60, 2) := by decide +kernel
theorem dX4_sheet_70 : decode cX4_sheet 70 = .ok (.iload_n 1, 1) := by decide +kernel
theorem dX4_sheet_71 : decode cX4_sheet 71 = .ok (.imul, 1) := by decide +kernel
theorem dX4_sheet_72 : decode cX4_sheet 72 = .ok (.iload 4, 2) := by decide +kernel
theorem dX4_sheet_74 : decode cX4_sheet 74 = .ok (.iadd, 1) := by decide +kernel
theorem dX4_sheet_75 : decode cX4_sheet 75 = .ok (.iconst 0, 1) := by decide +kernel
theorem dX4_sheet_76 : decode cX4_sheet 76 = .ok (.iastore, 1) := by decide +kernel
theorem dX4_sheet_77 : decode cX4_sheet 77 = .ok (.iinc 4 1, 3) := by decide +kernel
theorem dX4_sheet_80 : decode cX4_sheet 80 = .ok (.goto (-23), 3) := by decide +kernel
theorem dX4_sheet_83 : decode cX4_sheet 83 = .ok (.iconst 1, 1) := by decide +kernel
theorem dX4_sheet_84 : decode cX4_sheet 84 = .ok (.ireturn, 1) := by decide +kernel
set_option maxRecDepth 20000 in
theorem ggX4_lose_X4_isSheet : GoodIn wsX4_lose wsX4_isSheet := goodIn_r _ [5, 6, 7, 4, 8] (by decide +kernel) (by decide +kernel)
set_option maxRecDepth 20000 in
theorem gX4_lose_X4_isSheet : GoodIn wsX4_lose (va_wsS RX4 74 yX4_isSheet wsX4_isSheet) := goodIn_app (goodIn_of _ (by decide +kernel)) ggX4_lose_X4_isSheet
theorem dX4_lose_0 : decode cX4_lose 0 = .ok (.iload_n 1, 1) := by decide +kernel
theorem dX4_lose_1 : decode cX4_lose 1 = .ok (.invokestatic 74, 3) := by decide +kernel
theorem dX4_lose_4 : decode cX4_lose 4 = .ok (.ifCond .ne 5, 3) := by decide +kernel
theorem dX4_lose_7 : decode cX4_lose 7 = .ok (.iconst (-1), 1) := by decide +kernel
theorem dX4_lose_8 : decode cX4_lose 8 = .ok (.ireturn, 1) := by decide +kernel
theorem dX4_lose_9 : decode cX4_lose 9 = .ok (.aload_n 0, 1) := by decide +kernel
theorem dX4_lose_10 : decode cX4_lose 10 = .ok (.getfield 9, 3) := by decide +kernel
theorem dX4_lose_13 : decode cX4_lose 13 = .ok (.iload_n 1, 1) := by decide +kernel
theorem dX4_lose_14 : decode cX4_lose 14 = .ok (.iaload, 1) := by decide +kernel
theorem dX4_lose_15 : decode cX4_lose 15 = .ok (.bipush (-9), 2) := by decide +kernel
theorem dX4_lose_17 : decode cX4_lose 17 = .ok (.if_icmp .ne 7, 3) := by decide +kernel
theorem dX4_lose_20 : decode cX4_lose 20 = .ok (.iconst 0, 1) := by decide +kernel
theorem dX4_lose_21 : decode cX4_lose 21 = .ok (.goto 4, 3) := by decide +kernel
theorem dX4_lose_24 : decode cX4_lose 24 = .ok (.iconst 1, 1) := by decide +kernel
theorem dX4_lose_25 : decode cX4_lose 25 = .ok (.istore_n 2, 1) := by decide +kernel
theorem dX4_lose_26 : decode cX4_lose 26 = .ok (.aload_n 0, 1) := by decide +kernel
theorem dX4_lose_27 : decode cX4_lose 27 = .ok (.getfield 9, 3) := by decide +kernel
theorem dX4_lose_30 : decode cX4_lose 30 = .ok (.iload_n 1, 1) := by decide +kernel
theorem dX4_lose_31 : decode cX4_lose 31 = .ok (.bipush (-9), 2) := by decide +kernel
theorem dX4_lose_33 : decode cX4_lose 33 = .ok (.iastore, 1) := by decide +kernel
theorem dX4_lose_34 : decode cX4_lose 34 = .ok (.iload_n 2, 1) := by decide +kernel
theorem dX4_lose_35 : decode cX4_lose 35 = .ok (.ireturn, 1) := by decide +kernel
set_option maxRecDepth 20000 in
theorem ggX4_put_X4_isSheet : GoodIn wsX4_put wsX4_isSheet := goodIn_r _ [8, 9, 10, 7, 11] (by decide +kernel) (by decide +kernel)
set_option maxRecDepth 20000 in
theorem gX4_put_X4_isSheet : GoodIn wsX4_put (va_wsS RX4 74 yX4_isSheet wsX4_isSheet) := goodIn_app (goodIn_of _ (by decide +kernel)) ggX4_put_X4_isSheet
set_option maxRecDepth 20000 in
theorem ggX4_put_X4_fails : GoodIn wsX4_put wsX4_fails := goodIn_r _ [15, 1, 16, 17, 18, 19, 20, 21, 22, 23, 24, 25, 26, 27, 28, 29, 30, 31, 32, 33, 34, 35, 36, 37, 38, 39, 40] (by decide +kernel) (by decide +kernel)
set_option maxRecDepth 20000 in
theorem gX4_put_X4_fails : GoodIn wsX4_put (wsV RX4 85 RX4 yX4_fails wsX4_fails) := goodIn_app (goodIn_of _ (by decide +kernel)) ggX4_put_X4_fails
set_option maxRecDepth 20000 in
theorem ggX4_put_X4_within : GoodIn wsX4_put wsX4_within := goodIn_r _ [11] (by decide +kernel) (by decide +kernel)
set_option maxRecDepth 20000 in
theorem gX4_put_X4_within : GoodIn wsX4_put (va_wsS RX4 61 yX4_within wsX4_within) := goodIn_app (goodIn_of _ (by decide +kernel)) ggX4_put_X4_within
theorem dX4_put_0 : decode cX4_put 0 = .ok (.aload_n 0, 1) := by decide +kernel
theorem dX4_put_1 : decode cX4_put 1 = .ok (.iconst 0, 1) := by decide +kernel
theorem dX4_put_2 : decode cX4_put 2 = .ok (.putfield 55, 3) := by decide +kernel
theorem dX4_put_5 : decode cX4_put 5 = .ok (.iload_n 1, 1) := by decide +kernel
theorem dX4_put_6 : decode cX4_put 6 = .ok (.invokestatic 74, 3) := by decide +kernel
theorem dX4_put_9 : decode cX4_put 9 = .ok (.ifCond .ne 5, 3) := by decide +kernel
theorem dX4_put_12 : decode cX4_put 12 = .ok (.iconst (-1), 1) := by decide +kernel
theorem dX4_put_13 : decode cX4_put 13 = .ok (.ireturn, 1) := by decide +kernel
theorem dX4_put_14 : decode cX4_put 14 = .ok (.aload_n 0, 1) := by decide +kernel
theorem dX4_put_15 : decode cX4_put 15 = .ok (.getfield 9, 3) := by decide +kernel
theorem dX4_put_18 : decode cX4_put 18 = .ok (.iload_n 1, 1) := by decide +kernel
theorem dX4_put_19 : decode cX4_put 19 = .ok (.iaload, 1) := by decide +kernel
theorem dX4_put_20 : decode cX4_put 20 = .ok (.bipush (-9), 2) := by decide +kernel
theorem dX4_put_22 : decode cX4_put 22 = .ok (.if_icmp .ne 9, 3) := by decide +kernel
theorem dX4_put_25 : decode cX4_put 25 = .ok (.aload_n 0, 1) := by decide +kernel
theorem dX4_put_26 : decode cX4_put 26 = .ok (.iconst 1, 1) := by decide +kernel
theorem dX4_put_27 : decode cX4_put 27 = .ok (.invokevirtual 85, 3) := by decide +kernel
theorem dX4_put_30 : decode cX4_put 30 = .ok (.ireturn, 1) := by decide +kernel
theorem dX4_put_31 : decode cX4_put 31 = .ok (.iload_n 2, 1) := by decide +kernel
theorem dX4_put_32 : decode cX4_put 32 = .ok (.iconst 0, 1) := by decide +kernel
theorem dX4_put_33 : decode cX4_put 33 = .ok (.aload_n 0, 1) := by decide +kernel
theorem dX4_put_34 : decode cX4_put 34 = .ok (.getfield 13, 3) := by decide +kernel
theorem dX4_put_37 : decode cX4_put 37 = .ok (.iload_n 1, 1) := by decide +kernel
theorem dX4_put_38 : decode cX4_put 38 = .ok (.iaload, 1) := by decide +kernel
theorem dX4_put_39 : decode cX4_put 39 = .ok (.iconst 1, 1) := by decide +kernel
theorem dX4_put_40 : decode cX4_put 40 = .ok (.isub, 1) := by decide +kernel
theorem dX4_put_41 : decode cX4_put 41 = .ok (.invokestatic 61, 3) := by decide +kernel
theorem dX4_put_44 : decode cX4_put 44 = .ok (.ifCond .ne 9, 3) := by decide +kernel
theorem dX4_put_47 : decode cX4_put 47 = .ok (.aload_n 0, 1) := by decide +kernel
theorem dX4_put_48 : decode cX4_put 48 = .ok (.iconst 3, 1) := by decide +kernel
theorem dX4_put_49 : decode cX4_put 49 = .ok (.invokevirtual 85, 3) := by decide +kernel
theorem dX4_put_52 : decode cX4_put 52 = .ok (.ireturn, 1) := by decide +kernel
theorem dX4_put_53 : decode cX4_put 53 = .ok (.aload_n 0, 1) := by decide +kernel
theorem dX4_put_54 : decode cX4_put 54 = .ok (.getfield 16, 3) := by decide +kernel
theorem dX4_put_57 : decode cX4_put 57 = .ok (.bipush 60, 2) := by decide +kernel
theorem dX4_put_59 : decode cX4_put 59 = .ok (.iload_n 1, 1) := by decide +kernel
theorem dX4_put_60 : decode cX4_put 60 = .ok (.imul, 1) := by decide +kernel
theorem dX4_put_61 : decode cX4_put 61 = .ok (.iload_n 2, 1) := by decide +kernel
theorem dX4_put_62 : decode cX4_put 62 = .ok (.iadd, 1) := by decide +kernel
theorem dX4_put_63 : decode cX4_put 63 = .ok (.aload_n 0, 1) := by decide +kernel
theorem dX4_put_64 : decode cX4_put 64 = .ok (.getfield 9, 3) := by decide +kernel
theorem dX4_put_67 : decode cX4_put 67 = .ok (.iload_n 1, 1) := by decide +kernel
theorem dX4_put_68 : decode cX4_put 68 = .ok (.iaload, 1) := by decide +kernel
theorem dX4_put_69 : decode cX4_put 69 = .ok (.ifCond .ne 8, 3) := by decide +kernel
theorem dX4_put_72 : decode cX4_put 72 = .ok (.iload_n 3, 1) := by decide +kernel
theorem dX4_put_73 : decode cX4_put 73 = .ok (.i2b, 1) := by decide +kernel
theorem dX4_put_74 : decode cX4_put 74 = .ok (.goto 19, 3) := by decide +kernel
theorem dX4_put_77 : decode cX4_put 77 = .ok (.aload_n 0, 1) := by decide +kernel
theorem dX4_put_78 : decode cX4_put 78 = .ok (.getfield 9, 3) := by decide +kernel
theorem dX4_put_81 : decode cX4_put 81 = .ok (.iload_n 1, 1) := by decide +kernel
theorem dX4_put_82 : decode cX4_put 82 = .ok (.iaload, 1) := by decide +kernel
theorem dX4_put_83 : decode cX4_put 83 = .ok (.iconst 1, 1) := by decide +kernel
theorem dX4_put_84 : decode cX4_put 84 = .ok (.if_icmp .ne 8, 3) := by decide +kernel
theorem dX4_put_87 : decode cX4_put 87 = .ok (.iload_n 3, 1) := by decide +kernel
theorem dX4_put_88 : decode cX4_put 88 = .ok (.i2s, 1) := by decide +kernel
theorem dX4_put_89 : decode cX4_put 89 = .ok (.goto 4, 3) := by decide +kernel
theorem dX4_put_92 : decode cX4_put 92 = .ok (.iload_n 3, 1) := by decide +kernel
theorem dX4_put_93 : decode cX4_put 93 = .ok (.iastore, 1) := by decide +kernel
theorem dX4_put_94 : decode cX4_put 94 = .ok (.iconst 1, 1) := by decide +kernel
theorem dX4_put_95 : decode cX4_put 95 = .ok (.ireturn, 1) := by decide +kernel
set_option maxRecDepth 20000 in
theorem ggX4_cell_X4_isSheet : GoodIn wsX4_cell wsX4_isSheet := goodIn_r _ [9, 10, 11, 8, 12] (by decide +kernel) (by decide +kernel)
set_option maxRecDepth 20000 in
theorem gX4_cell_X4_isSheet : GoodIn wsX4_cell (va_wsS RX4 74 yX4_isSheet wsX4_isSheet) := goodIn_app (goodIn_of _ (by decide +kernel)) ggX4_cell_X4_isSheet
set_option maxRecDepth 20000 in
theorem ggX4_cell_X4_isSort : GoodIn wsX4_cell wsX4_isSort := goodIn_r _ [15, 10, 11, 8, 12] (by decide +kernel) (by decide +kernel)
set_option maxRecDepth 20000 in
theorem gX4_cell_X4_isSort : GoodIn wsX4_cell (va_wsS RX4 78 yX4_isSort wsX4_isSort) := goodIn_app (goodIn_of _ (by decide +kernel)) ggX4_cell_X4_isSort
set_option maxRecDepth 20000 in
theorem ggX4_cell_X4_lost : GoodIn wsX4_cell wsX4_lost := goodIn_r _ [19, 1, 2, 20, 21, 22, 23, 24, 25, 26, 27, 28, 29, 30, 31, 32, 33, 34, 35, 36, 37, 38, 39, 40, 41, 42, 43, 44] (by decide +kernel) (by decide +kernel)
set_option maxRecDepth 20000 in
theorem gX4_cell_X4_lost : GoodIn wsX4_cell (wsV RX4 177 RX4 yX4_lost wsX4_lost) := goodIn_app (goodIn_of _ (by decide +kernel)) ggX4_cell_X4_lost
set_option maxRecDepth 20000 in
theorem ggX4_cell_X4_within : GoodIn wsX4_cell wsX4_within := goodIn_r _ [12] (by decide +kernel) (by decide +kernel)
set_option maxRecDepth 20000 in
theorem gX4_cell_X4_within : GoodIn wsX4_cell (va_wsS RX4 61 yX4_within wsX4_within) := goodIn_app (goodIn_of _ (by decide +kernel)) ggX4_cell_X4_within
theorem dX4_cell_0 : decode cX4_cell 0 = .ok (.aload_n 0, 1) := by decide +kernel
theorem dX4_cell_1 : decode cX4_cell 1 = .ok (.iconst 0, 1) := by decide +kernel
theorem dX4_cell_2 : decode cX4_cell 2 = .ok (.putfield 55, 3) := by decide +kernel
theorem dX4_cell_5 : decode cX4_cell 5 = .ok (.iload_n 1, 1) := by decide +kernel
theorem dX4_cell_6 : decode cX4_cell 6 = .ok (.invokestatic 74, 3) := by decide +kernel
theorem dX4_cell_9 : decode cX4_cell 9 = .ok (.ifCond .eq 10, 3) := by decide +kernel
theorem dX4_cell_12 : decode cX4_cell 12 = .ok (.iload_n 3, 1) := by decide +kernel
theorem dX4_cell_13 : decode cX4_cell 13 = .ok (.invokestatic 78, 3) := by decide +kernel
theorem dX4_cell_16 : decode cX4_cell 16 = .ok (.ifCond .ne 7, 3) := by decide +kernel
theorem dX4_cell_19 : decode cX4_cell 19 = .ok (.ldc2_w 59, 3) := by decide +kernel
theorem dX4_cell_22 : decode cX4_cell 22 = .ok (.lreturn, 1) := by decide +kernel
theorem dX4_cell_23 : decode cX4_cell 23 = .ok (.aload_n 0, 1) := by decide +kernel
theorem dX4_cell_24 : decode cX4_cell 24 = .ok (.getfield 9, 3) := by decide +kernel
theorem dX4_cell_27 : decode cX4_cell 27 = .ok (.iload_n 1, 1) := by decide +kernel
theorem dX4_cell_28 : decode cX4_cell 28 = .ok (.iaload, 1) := by decide +kernel
theorem dX4_cell_29 : decode cX4_cell 29 = .ok (.bipush (-9), 2) := by decide +kernel
theorem dX4_cell_31 : decode cX4_cell 31 = .ok (.if_icmp .eq 19, 3) := by decide +kernel
theorem dX4_cell_34 : decode cX4_cell 34 = .ok (.aload_n 0, 1) := by decide +kernel
theorem dX4_cell_35 : decode cX4_cell 35 = .ok (.getfield 9, 3) := by decide +kernel
theorem dX4_cell_38 : decode cX4_cell 38 = .ok (.iload_n 1, 1) := by decide +kernel
theorem dX4_cell_39 : decode cX4_cell 39 = .ok (.iaload, 1) := by decide +kernel
theorem dX4_cell_40 : decode cX4_cell 40 = .ok (.iload_n 3, 1) := by decide +kernel
theorem dX4_cell_41 : decode cX4_cell 41 = .ok (.if_icmp .eq 9, 3) := by decide +kernel
theorem dX4_cell_44 : decode cX4_cell 44 = .ok (.aload_n 0, 1) := by decide +kernel
theorem dX4_cell_45 : decode cX4_cell 45 = .ok (.iconst 2, 1) := by decide +kernel
theorem dX4_cell_46 : decode cX4_cell 46 = .ok (.invokevirtual 177, 3) := by decide +kernel
theorem dX4_cell_49 : decode cX4_cell 49 = .ok (.lreturn, 1) := by decide +kernel
theorem dX4_cell_50 : decode cX4_cell 50 = .ok (.aload_n 0, 1) := by decide +kernel
theorem dX4_cell_51 : decode cX4_cell 51 = .ok (.getfield 9, 3) := by decide +kernel
theorem dX4_cell_54 : decode cX4_cell 54 = .ok (.iload_n 1, 1) := by decide +kernel
theorem dX4_cell_55 : decode cX4_cell 55 = .ok (.iaload, 1) := by decide +kernel
theorem dX4_cell_56 : decode cX4_cell 56 = .ok (.bipush (-9), 2) := by decide +kernel
theorem dX4_cell_58 : decode cX4_cell 58 = .ok (.if_icmp .ne 9, 3) := by decide +kernel
theorem dX4_cell_61 : decode cX4_cell 61 = .ok (.aload_n 0, 1) := by decide +kernel
theorem dX4_cell_62 : decode cX4_cell 62 = .ok (.iconst 1, 1) := by decide +kernel
theorem dX4_cell_63 : decode cX4_cell 63 = .ok (.invokevirtual 177, 3) := by decide +kernel
theorem dX4_cell_66 : decode cX4_cell 66 = .ok (.lreturn, 1) := by decide +kernel
theorem dX4_cell_67 : decode cX4_cell 67 = .ok (.iload_n 2, 1) := by decide +kernel
theorem dX4_cell_68 : decode cX4_cell 68 = .ok (.iconst 0, 1) := by decide +kernel
theorem dX4_cell_69 : decode cX4_cell 69 = .ok (.aload_n 0, 1) := by decide +kernel
theorem dX4_cell_70 : decode cX4_cell 70 = .ok (.getfield 13, 3) := by decide +kernel
theorem dX4_cell_73 : decode cX4_cell 73 = .ok (.iload_n 1, 1) := by decide +kernel
theorem dX4_cell_74 : decode cX4_cell 74 = .ok (.iaload, 1) := by decide +kernel
theorem dX4_cell_75 : decode cX4_cell 75 = .ok (.iconst 1, 1) := by decide +kernel
theorem dX4_cell_76 : decode cX4_cell 76 = .ok (.isub, 1) := by decide +kernel
theorem dX4_cell_77 : decode cX4_cell 77 = .ok (.invokestatic 61, 3) := by decide +kernel
theorem dX4_cell_80 : decode cX4_cell 80 = .ok (.ifCond .ne 9, 3) := by decide +kernel
theorem dX4_cell_83 : decode cX4_cell 83 = .ok (.aload_n 0, 1) := by decide +kernel
theorem dX4_cell_84 : decode cX4_cell 84 = .ok (.iconst 3, 1) := by decide +kernel
theorem dX4_cell_85 : decode cX4_cell 85 = .ok (.invokevirtual 177, 3) := by decide +kernel
theorem dX4_cell_88 : decode cX4_cell 88 = .ok (.lreturn, 1) := by decide +kernel
theorem dX4_cell_89 : decode cX4_cell 89 = .ok (.aload_n 0, 1) := by decide +kernel
theorem dX4_cell_90 : decode cX4_cell 90 = .ok (.getfield 16, 3) := by decide +kernel
theorem dX4_cell_93 : decode cX4_cell 93 = .ok (.bipush 60, 2) := by decide +kernel
theorem dX4_cell_95 : decode cX4_cell 95 = .ok (.iload_n 1, 1) := by decide +kernel
theorem dX4_cell_96 : decode cX4_cell 96 = .ok (.imul, 1) := by decide +kernel
theorem dX4_cell_97 : decode cX4_cell 97 = .ok (.iload_n 2, 1) := by decide +kernel
theorem dX4_cell_98 : decode cX4_cell 98 = .ok (.iadd, 1) := by decide +kernel
theorem dX4_cell_99 : decode cX4_cell 99 = .ok (.iaload, 1) := by decide +kernel
theorem dX4_cell_100 : decode cX4_cell 100 = .ok (.i2l, 1) := by decide +kernel
theorem dX4_cell_101 : decode cX4_cell 101 = .ok (.lreturn, 1) := by decide +kernel
set_option maxRecDepth 20000 in
theorem ggX4_copy_X4_isSheet : GoodIn wsX4_copy wsX4_isSheet := goodIn_r _ [8, 9, 10, 7, 11] (by decide +kernel) (by decide +kernel)
set_option maxRecDepth 20000 in
theorem gX4_copy_X4_isSheet : GoodIn wsX4_copy (va_wsS RX4 74 yX4_isSheet wsX4_isSheet) := goodIn_app (goodIn_of _ (by decide +kernel)) ggX4_copy_X4_isSheet
set_option maxRecDepth 20000 in
theorem ggX4_copy_X4_fails : GoodIn wsX4_copy wsX4_fails := goodIn_r _ [15, 1, 16, 17, 18, 19, 20, 21, 22, 23, 24, 25, 26, 27, 28, 29, 30, 31, 32, 33, 34, 35, 36, 37, 38, 39, 40] (by decide +kernel) (by decide +kernel)
set_option maxRecDepth 20000 in
theorem gX4_copy_X4_fails : GoodIn wsX4_copy (wsV RX4 85 RX4 yX4_fails wsX4_fails) := goodIn_app (goodIn_of _ (by decide +kernel)) ggX4_copy_X4_fails
theorem dX4_copy_0 : decode cX4_copy 0 = .ok (.aload_n 0, 1) := by decide +kernel
theorem dX4_copy_1 : decode cX4_copy 1 = .ok (.iconst 0, 1) := by decide +kernel
theorem dX4_copy_2 : decode cX4_copy 2 = .ok (.putfield 55, 3) := by decide +kernel
theorem dX4_copy_5 : decode cX4_copy 5 = .ok (.iload_n 1, 1) := by decide +kernel
theorem dX4_copy_6 : decode cX4_copy 6 = .ok (.invokestatic 74, 3) := by decide +kernel
theorem dX4_copy_9 : decode cX4_copy 9 = .ok (.ifCond .eq 10, 3) := by decide +kernel
theorem dX4_copy_12 : decode cX4_copy 12 = .ok (.iload_n 3, 1) := by decide +kernel
theorem dX4_copy_13 : decode cX4_copy 13 = .ok (.invokestatic 74, 3) := by decide +kernel
theorem dX4_copy_16 : decode cX4_copy 16 = .ok (.ifCond .ne 5, 3) := by decide +kernel
theorem dX4_copy_19 : decode cX4_copy 19 = .ok (.iconst (-1), 1) := by decide +kernel
theorem dX4_copy_20 : decode cX4_copy 20 = .ok (.ireturn, 1) := by decide +kernel
theorem dX4_copy_21 : decode cX4_copy 21 = .ok (.aload_n 0, 1) := by decide +kernel
theorem dX4_copy_22 : decode cX4_copy 22 = .ok (.getfield 9, 3) := by decide +kernel
theorem dX4_copy_25 : decode cX4_copy 25 = .ok (.iload_n 1, 1) := by decide +kernel
theorem dX4_copy_26 : decode cX4_copy 26 = .ok (.iaload, 1) := by decide +kernel
theorem dX4_copy_27 : decode cX4_copy 27 = .ok (.bipush (-9), 2) := by decide +kernel
theorem dX4_copy_29 : decode cX4_copy 29 = .ok (.if_icmp .eq 14, 3) := by decide +kernel
theorem dX4_copy_32 : decode cX4_copy 32 = .ok (.aload_n 0, 1) := by decide +kernel
theorem dX4_copy_33 : decode cX4_copy 33 = .ok (.getfield 9, 3) := by decide +kernel
theorem dX4_copy_36 : decode cX4_copy 36 = .ok (.iload_n 3, 1) := by decide +kernel
theorem dX4_copy_37 : decode cX4_copy 37 = .ok (.iaload, 1) := by decide +kernel
theorem dX4_copy_38 : decode cX4_copy 38 = .ok (.bipush (-9), 2) := by decide +kernel
theorem dX4_copy_40 : decode cX4_copy 40 = .ok (.if_icmp .ne 9, 3) := by decide +kernel
theorem dX4_copy_43 : decode cX4_copy 43 = .ok (.aload_n 0, 1) := by decide +kernel
theorem dX4_copy_44 : decode cX4_copy 44 = .ok (.iconst 1, 1) := by decide +kernel
theorem dX4_copy_45 : decode cX4_copy 45 = .ok (.invokevirtual 85, 3) := by decide +kernel
theorem dX4_copy_48 : decode cX4_copy 48 = .ok (.ireturn, 1) := by decide +kernel
theorem dX4_copy_49 : decode cX4_copy 49 = .ok (.aload_n 0, 1) := by decide +kernel
theorem dX4_copy_50 : decode cX4_copy 50 = .ok (.getfield 9, 3) := by decide +kernel
theorem dX4_copy_53 : decode cX4_copy 53 = .ok (.iload_n 1, 1) := by decide +kernel
theorem dX4_copy_54 : decode cX4_copy 54 = .ok (.iaload, 1) := by decide +kernel
theorem dX4_copy_55 : decode cX4_copy 55 = .ok (.aload_n 0, 1) := by decide +kernel
theorem dX4_copy_56 : decode cX4_copy 56 = .ok (.getfield 9, 3) := by decide +kernel
theorem dX4_copy_59 : decode cX4_copy 59 = .ok (.iload_n 3, 1) := by decide +kernel
theorem dX4_copy_60 : decode cX4_copy 60 = .ok (.iaload, 1) := by decide +kernel
theorem dX4_copy_61 : decode cX4_copy 61 = .ok (.if_icmp .eq 9, 3) := by decide +kernel
theorem dX4_copy_64 : decode cX4_copy 64 = .ok (.aload_n 0, 1) := by decide +kernel
theorem dX4_copy_65 : decode cX4_copy 65 = .ok (.iconst 2, 1) := by decide +kernel
theorem dX4_copy_66 : decode cX4_copy 66 = .ok (.invokevirtual 85, 3) := by decide +kernel
theorem dX4_copy_69 : decode cX4_copy 69 = .ok (.ireturn, 1) := by decide +kernel
theorem dX4_copy_70 : decode cX4_copy 70 = .ok (.iload_n 2, 1) := by decide +kernel
theorem dX4_copy_71 : decode cX4_copy 71 = .ok (.ifCond .lt 38, 3) := by decide +kernel
theorem dX4_copy_74 : decode cX4_copy 74 = .ok (.iload 4, 2) := by decide +kernel
theorem dX4_copy_76 : decode cX4_copy 76 = .ok (.ifCond .lt 33, 3) := by decide +kernel
theorem dX4_copy_79 : decode cX4_copy 79 = .ok (.iload 5, 2) := by decide +kernel
theorem dX4_copy_81 : decode cX4_copy 81 = .ok (.ifCond .lt 28, 3) := by decide +kernel
theorem dX4_copy_84 : decode cX4_copy 84 = .ok (.iload_n 2, 1) := by decide +kernel
theorem dX4_copy_85 : decode cX4_copy 85 = .ok (.aload_n 0, 1) := by decide +kernel
theorem dX4_copy_86 : decode cX4_copy 86 = .ok (.getfield 13, 3) := by decide +kernel
theorem dX4_copy_89 : decode cX4_copy 89 = .ok (.iload_n 1, 1) := by decide +kernel
theorem dX4_copy_90 : decode cX4_copy 90 = .ok (.iaload, 1) := by decide +kernel
theorem dX4_copy_91 : decode cX4_copy 91 = .ok (.if_icmp .gt 18, 3) := by decide +kernel
theorem dX4_copy_94 : decode cX4_copy 94 = .ok (.iload 4, 2) := by decide +kernel
theorem dX4_copy_96 : decode cX4_copy 96 = .ok (.aload_n 0, 1) := by decide +kernel
theorem dX4_copy_97 : decode cX4_copy 97 = .ok (.getfield 13, 3) := by decide +kernel
theorem dX4_copy_100 : decode cX4_copy 100 = .ok (.iload_n 3, 1) := by decide +kernel
theorem dX4_copy_101 : decode cX4_copy 101 = .ok (.iaload, 1) := by decide +kernel
theorem dX4_copy_102 : decode cX4_copy 102 = .ok (.if_icmp .gt 7, 3) := by decide +kernel
theorem dX4_copy_105 : decode cX4_copy 105 = .ok (.iconst 1, 1) := by decide +kernel
theorem dX4_copy_106 : decode cX4_copy 106 = .ok (.goto 4, 3) := by decide +kernel
theorem dX4_copy_109 : decode cX4_copy 109 = .ok (.iconst 0, 1) := by decide +kernel
theorem dX4_copy_110 : decode cX4_copy 110 = .ok (.istore 6, 2) := by decide +kernel
theorem dX4_copy_112 : decode cX4_copy 112 = .ok (.iload 6, 2) := by decide +kernel
theorem dX4_copy_114 : decode cX4_copy 114 = .ok (.ifCond .eq 30, 3) := by decide +kernel
theorem dX4_copy_117 : decode cX4_copy 117 = .ok (.iload 5, 2) := by decide +kernel
theorem dX4_copy_119 : decode cX4_copy 119 = .ok (.aload_n 0, 1) := by decide +kernel
theorem dX4_copy_120 : decode cX4_copy 120 = .ok (.getfield 13, 3) := by decide +kernel
theorem dX4_copy_123 : decode cX4_copy 123 = .ok (.iload_n 1, 1) := by decide +kernel
theorem dX4_copy_124 : decode cX4_copy 124 = .ok (.iaload, 1) := by decide +kernel
theorem dX4_copy_125 : decode cX4_copy 125 = .ok (.iload_n 2, 1) := by decide +kernel
theorem dX4_copy_126 : decode cX4_copy 126 = .ok (.isub, 1) := by decide +kernel
theorem dX4_copy_127 : decode cX4_copy 127 = .ok (.if_icmp .gt 17, 3) := by decide +kernel
theorem dX4_copy_130 : decode cX4_copy 130 = .ok (.iload 5, 2) := by decide +kernel
theorem dX4_copy_132 : decode cX4_copy 132 = .ok (.aload_n 0, 1) := by decide +kernel
theorem dX4_copy_133 : decode cX4_copy 133 = .ok (.getfield 13, 3) := by decide +kernel
theorem dX4_copy_136 : decode cX4_copy 136 = .ok (.iload_n 3, 1) := by decide +kernel
theorem dX4_copy_137 : decode cX4_copy 137 = .ok (.iaload, 1) := by decide +kernel
theorem dX4_copy_138 : decode cX4_copy 138 = .ok (.iload 4, 2) := by decide +kernel
theorem dX4_copy_140 : decode cX4_copy 140 = .ok (.isub, 1) := by decide +kernel
theorem dX4_copy_141 : decode cX4_copy 141 = .ok (.if_icmp .le 9, 3) := by decide +kernel
theorem dX4_copy_144 : decode cX4_copy 144 = .ok (.aload_n 0, 1) := by decide +kernel
theorem dX4_copy_145 : decode cX4_copy 145 = .ok (.iconst 3, 1) := by decide +kernel
theorem dX4_copy_146 : decode cX4_copy 146 = .ok (.invokevirtual 85, 3) := by decide +kernel
theorem dX4_copy_149 : decode cX4_copy 149 = .ok (.ireturn, 1) := by decide +kernel
theorem dX4_copy_150 : decode cX4_copy 150 = .ok (.iload_n 2, 1) := by decide +kernel
theorem dX4_copy_151 : decode cX4_copy 151 = .ok (.iload 4, 2) := by decide +kernel
theorem dX4_copy_153 : decode cX4_copy 153 = .ok (.if_icmp .ge 7, 3) := by decide +kernel
theorem dX4_copy_156 : decode cX4_copy 156 = .ok (.iconst 1, 1) := by decide +kernel
theorem dX4_copy_157 : decode cX4_copy 157 = .ok (.goto 4, 3) := by decide +kernel
theorem dX4_copy_160 : decode cX4_copy 160 = .ok (.iconst 0, 1) := by decide +kernel
theorem dX4_copy_161 : decode cX4_copy 161 = .ok (.istore 7, 2) := by decide +kernel
theorem dX4_copy_163 : decode cX4_copy 163 = .ok (.iconst 0, 1) := by decide +kernel
theorem dX4_copy_164 : decode cX4_copy 164 = .ok (.istore 8, 2) := by decide +kernel
theorem dX4_copy_166 : decode cX4_copy 166 = .ok (.iload 8, 2) := by decide +kernel
theorem dX4_copy_168 : decode cX4_copy 168 = .ok (.iload 5, 2) := by decide +kernel
theorem dX4_copy_170 : decode cX4_copy 170 = .ok (.if_icmp .ge 57, 3) := by decide +kernel
theorem dX4_copy_173 : decode cX4_copy 173 = .ok (.iload 7, 2) := by decide +kernel
theorem dX4_copy_175 : decode cX4_copy 175 = .ok (.ifCond .eq 13, 3) := by decide +kernel
theorem dX4_copy_178 : decode cX4_copy 178 = .ok (.iload 5, 2) := by decide +kernel
theorem dX4_copy_180 : decode cX4_copy 180 = .ok (.iconst 1, 1) := by decide +kernel
theorem dX4_copy_181 : decode cX4_copy 181 = .ok (.isub, 1) := by decide +kernel
theorem dX4_copy_182 : decode cX4_copy 182 = .ok (.iload 8, 2) := by decide +kernel
theorem dX4_copy_184 : decode cX4_copy 184 = .ok (.isub, 1) := by decide +kernel
theorem dX4_copy_185 : decode cX4_copy 185 = .ok (.goto 5, 3) := by decide +kernel
theorem dX4_copy_188 : decode cX4_copy 188 = .ok (.iload 8, 2) := by decide +kernel
theorem dX4_copy_190 : decode cX4_copy 190 = .ok (.istore 9, 2) := by decide +kernel
theorem dX4_copy_192 : decode cX4_copy 192 = .ok (.aload_n 0, 1) := by decide +kernel
theorem dX4_copy_193 : decode cX4_copy 193 = .ok (.getfield 16, 3) := by decide +kernel
theorem dX4_copy_196 : decode cX4_copy 196 = .ok (.bipush 60, 2) := by decide +kernel
theorem dX4_copy_198 : decode cX4_copy 198 = .ok (.iload_n 3, 1) := by decide +kernel
theorem dX4_copy_199 : decode cX4_copy 199 = .ok (.imul, 1) := by decide +kernel
theorem dX4_copy_200 : decode cX4_copy 200 = .ok (.iload 4, 2) := by decide +kernel
theorem dX4_copy_202 : decode cX4_copy 202 = .ok (.iadd, 1) := by decide +kernel
theorem dX4_copy_203 : decode cX4_copy 203 = .ok (.iload 9, 2) := by decide +kernel
theorem dX4_copy_205 : decode cX4_copy 205 = .ok (.iadd, 1) := by decide +kernel
theorem dX4_copy_206 : decode cX4_copy 206 = .ok (.aload_n 0, 1) := by decide +kernel
theorem dX4_copy_207 : decode cX4_copy 207 = .ok (.getfield 16, 3) := by decide +kernel
theorem dX4_copy_210 : decode cX4_copy 210 = .ok (.bipush 60, 2) := by decide +kernel
theorem dX4_copy_212 : decode cX4_copy 212 = .ok (.iload_n 1, 1) := by decide +kernel
theorem dX4_copy_213 : decode cX4_copy 213 = .ok (.imul, 1) := by decide +kernel
theorem dX4_copy_214 : decode cX4_copy 214 = .ok (.iload_n 2, 1) := by decide +kernel
theorem dX4_copy_215 : decode cX4_copy 215 = .ok (.iadd, 1) := by decide +kernel
theorem dX4_copy_216 : decode cX4_copy 216 = .ok (.iload 9, 2) := by decide +kernel
theorem dX4_copy_218 : decode cX4_copy 218 = .ok (.iadd, 1) := by decide +kernel
theorem dX4_copy_219 : decode cX4_copy 219 = .ok (.iaload, 1) := by decide +kernel
theorem dX4_copy_220 : decode cX4_copy 220 = .ok (.iastore, 1) := by decide +kernel
theorem dX4_copy_221 : decode cX4_copy 221 = .ok (.iinc 8 1, 3) := by decide +kernel
theorem dX4_copy_224 : decode cX4_copy 224 = .ok (.goto (-58), 3) := by decide +kernel
theorem dX4_copy_227 : decode cX4_copy 227 = .ok (.iload 5, 2) := by decide +kernel
theorem dX4_copy_229 : decode cX4_copy 229 = .ok (.ireturn, 1) := by decide +kernel
theorem dX4_begins_0 : decode cX4_begins 0 = .ok (.aload_n 0, 1) := by decide +kernel
theorem dX4_begins_1 : decode cX4_begins 1 = .ok (.bipush 31, 2) := by decide +kernel
theorem dX4_begins_3 : decode cX4_begins 3 = .ok (.aload_n 0, 1) := by decide +kernel
theorem dX4_begins_4 : decode cX4_begins 4 = .ok (.getfield 181, 3) := by decide +kernel
theorem dX4_begins_7 : decode cX4_begins 7 = .ok (.imul, 1) := by decide +kernel
theorem dX4_begins_8 : decode cX4_begins 8 = .ok (.iload_n 1, 1) := by decide +kernel
theorem dX4_begins_9 : decode cX4_begins 9 = .ok (.iadd, 1) := by decide +kernel
theorem dX4_begins_10 : decode cX4_begins 10 = .ok (.putfield 181, 3) := by decide +kernel
theorem dX4_begins_13 : decode cX4_begins 13 = .ok (.return_, 1) := by decide +kernel
set_option maxRecDepth 20000 in
theorem ggX4_tell_X4_isPerson : GoodIn wsX4_tell wsX4_isPerson := goodIn_r _ [7, 8, 14, 15, 16, 17, 18, 19, 20, 21, 22, 23, 24, 25, 26, 27, 28, 29, 30, 31, 32, 33, 34, 35, 36, 37, 38] (by decide +kernel) (by decide +kernel)
set_option maxRecDepth 20000 in
theorem gX4_tell_X4_isPerson : GoodIn wsX4_tell (wsV RX4 122 RX4 yX4_isPerson wsX4_isPerson) := goodIn_app (goodIn_of _ (by decide +kernel)) ggX4_tell_X4_isPerson
set_option maxRecDepth 20000 in
theorem ggX4_tell_X4_begins : GoodIn wsX4_tell wsX4_begins := goodIn_r _ [12, 13, 14, 15, 16, 17, 18, 19, 20, 21, 22, 23, 24, 25, 26, 27, 28, 29, 30, 31, 32, 33, 34, 35, 36, 37, 38] (by decide +kernel) (by decide +kernel)
set_option maxRecDepth 20000 in
theorem gX4_tell_X4_begins : GoodIn wsX4_tell (wsV RX4 184 RX4 yX4_begins wsX4_begins) := goodIn_app (goodIn_of _ (by decide +kernel)) ggX4_tell_X4_begins
theorem dX4_tell_0 : decode cX4_tell 0 = .ok (.aload_n 0, 1) := by decide +kernel
theorem dX4_tell_1 : decode cX4_tell 1 = .ok (.iload_n 1, 1) := by decide +kernel
theorem dX4_tell_2 : decode cX4_tell 2 = .ok (.invokevirtual 122, 3) := by decide +kernel
theorem dX4_tell_5 : decode cX4_tell 5 = .ok (.ifCond .ne 5, 3) := by decide +kernel
theorem dX4_tell_8 : decode cX4_tell 8 = .ok (.iconst (-1), 1) := by decide +kernel
theorem dX4_tell_9 : decode cX4_tell 9 = .ok (.ireturn, 1) := by decide +kernel
theorem dX4_tell_10 : decode cX4_tell 10 = .ok (.aload_n 0, 1) := by decide +kernel
theorem dX4_tell_11 : decode cX4_tell 11 = .ok (.getfield 28, 3) := by decide +kernel
theorem dX4_tell_14 : decode cX4_tell 14 = .ok (.iload_n 1, 1) := by decide +kernel
theorem dX4_tell_15 : decode cX4_tell 15 = .ok (.iaload, 1) := by decide +kernel
theorem dX4_tell_16 : decode cX4_tell 16 = .ok (.istore_n 2, 1) := by decide +kernel
theorem dX4_tell_17 : decode cX4_tell 17 = .ok (.aload_n 0, 1) := by decide +kernel
theorem dX4_tell_18 : decode cX4_tell 18 = .ok (.getfield 22, 3) := by decide +kernel
theorem dX4_tell_21 : decode cX4_tell 21 = .ok (.iload_n 1, 1) := by decide +kernel
theorem dX4_tell_22 : decode cX4_tell 22 = .ok (.iaload, 1) := by decide +kernel
theorem dX4_tell_23 : decode cX4_tell 23 = .ok (.lookupswitch 67 #[(1, 25), (2, 40)], 25) := by decide +kernel
theorem dX4_tell_48 : decode cX4_tell 48 = .ok (.aload_n 0, 1) := by decide +kernel
theorem dX4_tell_49 : decode cX4_tell 49 = .ok (.iconst 2, 1) := by decide +kernel
theorem dX4_tell_50 : decode cX4_tell 50 = .ok (.invokevirtual 184, 3) := by decide +kernel
theorem dX4_tell_53 : decode cX4_tell 53 = .ok (.aload_n 0, 1) := by decide +kernel
theorem dX4_tell_54 : decode cX4_tell 54 = .ok (.iconst 1, 1) := by decide +kernel
theorem dX4_tell_55 : decode cX4_tell 55 = .ok (.invokevirtual 184, 3) := by decide +kernel
theorem dX4_tell_58 : decode cX4_tell 58 = .ok (.iload_n 2, 1) := by decide +kernel
theorem dX4_tell_59 : decode cX4_tell 59 = .ok (.bipush 100, 2) := by decide +kernel
theorem dX4_tell_61 : decode cX4_tell 61 = .ok (.iadd, 1) := by decide +kernel
theorem dX4_tell_62 : decode cX4_tell 62 = .ok (.ireturn, 1) := by decide +kernel
theorem dX4_tell_63 : decode cX4_tell 63 = .ok (.aload_n 0, 1) := by decide +kernel
theorem dX4_tell_64 : decode cX4_tell 64 = .ok (.iconst 3, 1) := by decide +kernel
theorem dX4_tell_65 : decode cX4_tell 65 = .ok (.invokevirtual 184, 3) := by decide +kernel
theorem dX4_tell_68 : decode cX4_tell 68 = .ok (.aload_n 0, 1) := by decide +kernel
theorem dX4_tell_69 : decode cX4_tell 69 = .ok (.iconst 2, 1) := by decide +kernel
theorem dX4_tell_70 : decode cX4_tell 70 = .ok (.invokevirtual 184, 3) := by decide +kernel
theorem dX4_tell_73 : decode cX4_tell 73 = .ok (.aload_n 0, 1) := by decide +kernel
theorem dX4_tell_74 : decode cX4_tell 74 = .ok (.iconst 1, 1) := by decide +kernel
theorem dX4_tell_75 : decode cX4_tell 75 = .ok (.invokevirtual 184, 3) := by decide +kernel
theorem dX4_tell_78 : decode cX4_tell 78 = .ok (.aload_n 0, 1) := by decide +kernel
theorem dX4_tell_79 : decode cX4_tell 79 = .ok (.iconst 1, 1) := by decide +kernel
theorem dX4_tell_80 : decode cX4_tell 80 = .ok (.invokevirtual 184, 3) := by decide +kernel
theorem dX4_tell_83 : decode cX4_tell 83 = .ok (.iconst 2, 1) := by decide +kernel
theorem dX4_tell_84 : decode cX4_tell 84 = .ok (.iload_n 2, 1) := by decide +kernel
theorem dX4_tell_85 : decode cX4_tell 85 = .ok (.imul, 1) := by decide +kernel
theorem dX4_tell_86 : decode cX4_tell 86 = .ok (.bipush 100, 2) := by decide +kernel
theorem dX4_tell_88 : decode cX4_tell 88 = .ok (.iadd, 1) := by decide +kernel
theorem dX4_tell_89 : decode cX4_tell 89 = .ok (.ireturn, 1) := by decide +kernel
theorem dX4_tell_90 : decode cX4_tell 90 = .ok (.aload_n 0, 1) := by decide +kernel
theorem dX4_tell_91 : decode cX4_tell 91 = .ok (.iconst 1, 1) := by decide +kernel
theorem dX4_tell_92 : decode cX4_tell 92 = .ok (.invokevirtual 184, 3) := by decide +kernel
theorem dX4_tell_95 : decode cX4_tell 95 = .ok (.iload_n 2, 1) := by decide +kernel
theorem dX4_tell_96 : decode cX4_tell 96 = .ok (.ireturn, 1) := by decide +kernel
set_option maxRecDepth 20000 in
theorem ggX4_greet_X4_isPerson : GoodIn wsX4_greet wsX4_isPerson := goodIn_r _ [6, 7, 13, 14, 15, 16, 17, 18, 19, 20, 21, 22, 23, 24, 25, 26, 27, 28, 29, 30, 31, 32, 33, 34, 35, 36, 37] (by decide +kernel) (by decide +kernel)
set_option maxRecDepth 20000 in
theorem gX4_greet_X4_isPerson : GoodIn wsX4_greet (wsV RX4 122 RX4 yX4_isPerson wsX4_isPerson) := goodIn_app (goodIn_of _ (by decide +kernel)) ggX4_greet_X4_isPerson
set_option maxRecDepth 20000 in
theorem ggX4_greet_X4_begins : GoodIn wsX4_greet wsX4_begins := goodIn_r _ [11, 12, 13, 14, 15, 16, 17, 18, 19, 20, 21, 22, 23, 24, 25, 26, 27, 28, 29, 30, 31, 32, 33, 34, 35, 36, 37] (by decide +kernel) (by decide +kernel)
set_option maxRecDepth 20000 in
theorem gX4_greet_X4_begins : GoodIn wsX4_greet (wsV RX4 184 RX4 yX4_begins wsX4_begins) := goodIn_app (goodIn_of _ (by decide +kernel)) ggX4_greet_X4_begins
theorem dX4_greet_0 : decode cX4_greet 0 = .ok (.aload_n 0, 1) := by decide +kernel
theorem dX4_greet_1 : decode cX4_greet 1 = .ok (.iload_n 1, 1) := by decide +kernel
theorem dX4_greet_2 : decode cX4_greet 2 = .ok (.invokevirtual 122, 3) := by decide +kernel
theorem dX4_greet_5 : decode cX4_greet 5 = .ok (.ifCond .ne 5, 3) := by decide +kernel
theorem dX4_greet_8 : decode cX4_greet 8 = .ok (.iconst (-1), 1) := by decide +kernel
theorem dX4_greet_9 : decode cX4_greet 9 = .ok (.ireturn, 1) := by decide +kernel
theorem dX4_greet_10 : decode cX4_greet 10 = .ok (.aload_n 0, 1) := by decide +kernel
theorem dX4_greet_11 : decode cX4_greet 11 = .ok (.aload_n 0, 1) := by decide +kernel
theorem dX4_greet_12 : decode cX4_greet 12 = .ok (.getfield 22, 3) := by decide +kernel
theorem dX4_greet_15 : decode cX4_greet 15 = .ok (.iload_n 1, 1) := by decide +kernel
theorem dX4_greet_16 : decode cX4_greet 16 = .ok (.iaload, 1) := by decide +kernel
theorem dX4_greet_17 : decode cX4_greet 17 = .ok (.iconst 2, 1) := by decide +kernel
theorem dX4_greet_18 : decode cX4_greet 18 = .ok (.if_icmp .ne 7, 3) := by decide +kernel
theorem dX4_greet_21 : decode cX4_greet 21 = .ok (.iconst 5, 1) := by decide +kernel
theorem dX4_greet_22 : decode cX4_greet 22 = .ok (.goto 4, 3) := by decide +kernel
theorem dX4_greet_25 : decode cX4_greet 25 = .ok (.iconst 4, 1) := by decide +kernel
theorem dX4_greet_26 : decode cX4_greet 26 = .ok (.invokevirtual 184, 3) := by decide +kernel
theorem dX4_greet_29 : decode cX4_greet 29 = .ok (.aload_n 0, 1) := by decide +kernel
theorem dX4_greet_30 : decode cX4_greet 30 = .ok (.getfield 22, 3) := by decide +kernel
theorem dX4_greet_33 : decode cX4_greet 33 = .ok (.iload_n 1, 1) := by decide +kernel
theorem dX4_greet_34 : decode cX4_greet 34 = .ok (.iaload, 1) := by decide +kernel
theorem dX4_greet_35 : decode cX4_greet 35 = .ok (.iconst 2, 1) := by decide +kernel
theorem dX4_greet_36 : decode cX4_greet 36 = .ok (.if_icmp .ne 8, 3) := by decide +kernel
theorem dX4_greet_39 : decode cX4_greet 39 = .ok (.bipush 80, 2) := by decide +kernel
theorem dX4_greet_41 : decode cX4_greet 41 = .ok (.goto 4, 3) := by decide +kernel
theorem dX4_greet_44 : decode cX4_greet 44 = .ok (.iload_n 1, 1) := by decide +kernel
theorem dX4_greet_45 : decode cX4_greet 45 = .ok (.ireturn, 1) := by decide +kernel
set_option maxRecDepth 20000 in
theorem ggX4_as_X4_isPerson : GoodIn wsX4_as wsX4_isPerson := goodIn_r _ [7, 8, 16, 17, 18, 19, 20, 21, 22, 23, 24, 25, 26, 27, 28, 29, 30, 31, 32, 33, 34, 35, 36, 37, 38, 39, 40] (by decide +kernel) (by decide +kernel)
set_option maxRecDepth 20000 in
theorem gX4_as_X4_isPerson : GoodIn wsX4_as (wsV RX4 122 RX4 yX4_isPerson wsX4_isPerson) := goodIn_app (goodIn_of _ (by decide +kernel)) ggX4_as_X4_isPerson
set_option maxRecDepth 20000 in
theorem ggX4_as_X4_within : GoodIn wsX4_as wsX4_within := goodIn_r _ [11] (by decide +kernel) (by decide +kernel)
set_option maxRecDepth 20000 in
theorem gX4_as_X4_within : GoodIn wsX4_as (va_wsS RX4 61 yX4_within wsX4_within) := goodIn_app (goodIn_of _ (by decide +kernel)) ggX4_as_X4_within
set_option maxRecDepth 20000 in
theorem ggX4_as_X4_fails : GoodIn wsX4_as wsX4_fails := goodIn_r _ [15, 1, 16, 17, 18, 19, 20, 21, 22, 23, 24, 25, 26, 27, 28, 29, 30, 31, 32, 33, 34, 35, 36, 37, 38, 39, 40] (by decide +kernel) (by decide +kernel)
set_option maxRecDepth 20000 in
theorem gX4_as_X4_fails : GoodIn wsX4_as (wsV RX4 85 RX4 yX4_fails wsX4_fails) := goodIn_app (goodIn_of _ (by decide +kernel)) ggX4_as_X4_fails
theorem dX4_as_0 : decode cX4_as 0 = .ok (.aload_n 0, 1) := by decide +kernel
theorem dX4_as_1 : decode cX4_as 1 = .ok (.iconst 0, 1) := by decide +kernel
theorem dX4_as_2 : decode cX4_as 2 = .ok (.putfield 55, 3) := by decide +kernel
theorem dX4_as_5 : decode cX4_as 5 = .ok (.aload_n 0, 1) := by decide +kernel
theorem dX4_as_6 : decode cX4_as 6 = .ok (.iload_n 1, 1) := by decide +kernel
theorem dX4_as_7 : decode cX4_as 7 = .ok (.invokevirtual 122, 3) := by decide +kernel
theorem dX4_as_10 : decode cX4_as 10 = .ok (.ifCond .ne 5, 3) := by decide +kernel
theorem dX4_as_13 : decode cX4_as 13 = .ok (.iconst (-1), 1) := by decide +kernel
theorem dX4_as_14 : decode cX4_as 14 = .ok (.ireturn, 1) := by decide +kernel
theorem dX4_as_15 : decode cX4_as 15 = .ok (.iload_n 2, 1) := by decide +kernel
theorem dX4_as_16 : decode cX4_as 16 = .ok (.iconst 0, 1) := by decide +kernel
theorem dX4_as_17 : decode cX4_as 17 = .ok (.iconst 2, 1) := by decide +kernel
theorem dX4_as_18 : decode cX4_as 18 = .ok (.invokestatic 61, 3) := by decide +kernel
theorem dX4_as_21 : decode cX4_as 21 = .ok (.ifCond .ne 6, 3) := by decide +kernel
theorem dX4_as_24 : decode cX4_as 24 = .ok (.bipush (-2), 2) := by decide +kernel
theorem dX4_as_26 : decode cX4_as 26 = .ok (.ireturn, 1) := by decide +kernel
theorem dX4_as_27 : decode cX4_as 27 = .ok (.aload_n 0, 1) := by decide +kernel
theorem dX4_as_28 : decode cX4_as 28 = .ok (.getfield 22, 3) := by decide +kernel
theorem dX4_as_31 : decode cX4_as 31 = .ok (.iload_n 1, 1) := by decide +kernel
theorem dX4_as_32 : decode cX4_as 32 = .ok (.iaload, 1) := by decide +kernel
theorem dX4_as_33 : decode cX4_as 33 = .ok (.iload_n 2, 1) := by decide +kernel
theorem dX4_as_34 : decode cX4_as 34 = .ok (.if_icmp .lt 7, 3) := by decide +kernel
theorem dX4_as_37 : decode cX4_as 37 = .ok (.iconst 1, 1) := by decide +kernel
theorem dX4_as_38 : decode cX4_as 38 = .ok (.goto 8, 3) := by decide +kernel
theorem dX4_as_41 : decode cX4_as 41 = .ok (.aload_n 0, 1) := by decide +kernel
theorem dX4_as_42 : decode cX4_as 42 = .ok (.iconst 2, 1) := by decide +kernel
theorem dX4_as_43 : decode cX4_as 43 = .ok (.invokevirtual 85, 3) := by decide +kernel
theorem dX4_as_46 : decode cX4_as 46 = .ok (.ireturn, 1) := by decide +kernel
theorem dX4_trace_0 : decode cX4_trace 0 = .ok (.aload_n 0, 1) := by decide +kernel
theorem dX4_trace_1 : decode cX4_trace 1 = .ok (.getfield 181, 3) := by decide +kernel
theorem dX4_trace_4 : decode cX4_trace 4 = .ok (.ireturn, 1) := by decide +kernel
theorem dX4_fault_0 : decode cX4_fault 0 = .ok (.aload_n 0, 1) := by decide +kernel
theorem dX4_fault_1 : decode cX4_fault 1 = .ok (.getfield 55, 3) := by decide +kernel
theorem dX4_fault_4 : decode cX4_fault 4 = .ok (.ireturn, 1) := by decide +kernel
theorem dX4_many_0 : decode cX4_many 0 = .ok (.iload_n 1, 1) := by decide +kernel
theorem dX4_many_1 : decode cX4_many 1 = .ok (.ifCond .ne 10, 3) := by decide +kernel
theorem dX4_many_4 : decode cX4_many 4 = .ok (.aload_n 0, 1) := by decide +kernel
theorem dX4_many_5 : decode cX4_many 5 = .ok (.getfield 68, 3) := by decide +kernel
theorem dX4_many_8 : decode cX4_many 8 = .ok (.goto 29, 3) := by decide +kernel
theorem dX4_many_11 : decode cX4_many 11 = .ok (.iload_n 1, 1) := by decide +kernel
theorem dX4_many_12 : decode cX4_many 12 = .ok (.iconst 1, 1) := by decide +kernel
theorem dX4_many_13 : decode cX4_many 13 = .ok (.if_icmp .ne 10, 3) := by decide +kernel
theorem dX4_many_16 : decode cX4_many 16 = .ok (.aload_n 0, 1) := by decide +kernel
theorem dX4_many_17 : decode cX4_many 17 = .ok (.getfield 65, 3) := by decide +kernel
theorem dX4_many_20 : decode cX4_many 20 = .ok (.goto 17, 3) := by decide +kernel
theorem dX4_many_23 : decode cX4_many 23 = .ok (.iload_n 1, 1) := by decide +kernel
theorem dX4_many_24 : decode cX4_many 24 = .ok (.iconst 2, 1) := by decide +kernel
theorem dX4_many_25 : decode cX4_many 25 = .ok (.if_icmp .ne 10, 3) := by decide +kernel
theorem dX4_many_28 : decode cX4_many 28 = .ok (.aload_n 0, 1) := by decide +kernel
theorem dX4_many_29 : decode cX4_many 29 = .ok (.getfield 101, 3) := by decide +kernel
theorem dX4_many_32 : decode cX4_many 32 = .ok (.goto 5, 3) := by decide +kernel
theorem dX4_many_35 : decode cX4_many 35 = .ok (.bipush (-2), 2) := by decide +kernel
theorem dX4_many_37 : decode cX4_many 37 = .ok (.ireturn, 1) := by decide +kernel
theorem dJ6_bitCount_0f7a4_0 : decode cJ6_bitCount_0f7a4 0 = .ok (.iload_n 0, 1) := by decide +kernel
theorem dJ6_bitCount_0f7a4_1 : decode cJ6_bitCount_0f7a4 1 = .ok (.iload_n 0, 1) := by decide +kernel
theorem dJ6_bitCount_0f7a4_2 : decode cJ6_bitCount_0f7a4 2 = .ok (.iconst 1, 1) := by decide +kernel
theorem dJ6_bitCount_0f7a4_3 : decode cJ6_bitCount_0f7a4 3 = .ok (.iushr, 1) := by decide +kernel
theorem dJ6_bitCount_0f7a4_4 : decode cJ6_bitCount_0f7a4 4 = .ok (.ldc_w 265, 3) := by decide +kernel
theorem dJ6_bitCount_0f7a4_7 : decode cJ6_bitCount_0f7a4 7 = .ok (.iand, 1) := by decide +kernel
theorem dJ6_bitCount_0f7a4_8 : decode cJ6_bitCount_0f7a4 8 = .ok (.isub, 1) := by decide +kernel
theorem dJ6_bitCount_0f7a4_9 : decode cJ6_bitCount_0f7a4 9 = .ok (.istore_n 0, 1) := by decide +kernel
theorem dJ6_bitCount_0f7a4_10 : decode cJ6_bitCount_0f7a4 10 = .ok (.iload_n 0, 1) := by decide +kernel
theorem dJ6_bitCount_0f7a4_11 : decode cJ6_bitCount_0f7a4 11 = .ok (.ldc_w 266, 3) := by decide +kernel
theorem dJ6_bitCount_0f7a4_14 : decode cJ6_bitCount_0f7a4 14 = .ok (.iand, 1) := by decide +kernel
theorem dJ6_bitCount_0f7a4_15 : decode cJ6_bitCount_0f7a4 15 = .ok (.iload_n 0, 1) := by decide +kernel
theorem dJ6_bitCount_0f7a4_16 : decode cJ6_bitCount_0f7a4 16 = .ok (.iconst 2, 1) := by decide +kernel
theorem dJ6_bitCount_0f7a4_17 : decode cJ6_bitCount_0f7a4 17 = .ok (.iushr, 1) := by decide +kernel
theorem dJ6_bitCount_0f7a4_18 : decode cJ6_bitCount_0f7a4 18 = .ok (.ldc_w 266, 3) := by decide +kernel
theorem dJ6_bitCount_0f7a4_21 : decode cJ6_bitCount_0f7a4 21 = .ok (.iand, 1) := by decide +kernel
theorem dJ6_bitCount_0f7a4_22 : decode cJ6_bitCount_0f7a4 22 = .ok (.iadd, 1) := by decide +kernel
theorem dJ6_bitCount_0f7a4_23 : decode cJ6_bitCount_0f7a4 23 = .ok (.istore_n 0, 1) := by decide +kernel
theorem dJ6_bitCount_0f7a4_24 : decode cJ6_bitCount_0f7a4 24 = .ok (.iload_n 0, 1) := by decide +kernel
theorem dJ6_bitCount_0f7a4_25 : decode cJ6_bitCount_0f7a4 25 = .ok (.iload_n 0, 1) := by decide +kernel
theorem dJ6_bitCount_0f7a4_26 : decode cJ6_bitCount_0f7a4 26 = .ok (.iconst 4, 1) := by decide +kernel
theorem dJ6_bitCount_0f7a4_27 : decode cJ6_bitCount_0f7a4 27 = .ok (.iushr, 1) := by decide +kernel
theorem dJ6_bitCount_0f7a4_28 : decode cJ6_bitCount_0f7a4 28 = .ok (.iadd, 1) := by decide +kernel
theorem dJ6_bitCount_0f7a4_29 : decode cJ6_bitCount_0f7a4 29 = .ok (.ldc_w 267, 3) := by decide +kernel
theorem dJ6_bitCount_0f7a4_32 : decode cJ6_bitCount_0f7a4 32 = .ok (.iand, 1) := by decide +kernel
theorem dJ6_bitCount_0f7a4_33 : decode cJ6_bitCount_0f7a4 33 = .ok (.istore_n 0, 1) := by decide +kernel
theorem dJ6_bitCount_0f7a4_34 : decode cJ6_bitCount_0f7a4 34 = .ok (.iload_n 0, 1) := by decide +kernel
theorem dJ6_bitCount_0f7a4_35 : decode cJ6_bitCount_0f7a4 35 = .ok (.iload_n 0, 1) := by decide +kernel
theorem dJ6_bitCount_0f7a4_36 : decode cJ6_bitCount_0f7a4 36 = .ok (.bipush 8, 2) := by decide +kernel
theorem dJ6_bitCount_0f7a4_38 : decode cJ6_bitCount_0f7a4 38 = .ok (.iushr, 1) := by decide +kernel
theorem dJ6_bitCount_0f7a4_39 : decode cJ6_bitCount_0f7a4 39 = .ok (.iadd, 1) := by decide +kernel
theorem dJ6_bitCount_0f7a4_40 : decode cJ6_bitCount_0f7a4 40 = .ok (.istore_n 0, 1) := by decide +kernel
theorem dJ6_bitCount_0f7a4_41 : decode cJ6_bitCount_0f7a4 41 = .ok (.iload_n 0, 1) := by decide +kernel
theorem dJ6_bitCount_0f7a4_42 : decode cJ6_bitCount_0f7a4 42 = .ok (.iload_n 0, 1) := by decide +kernel
theorem dJ6_bitCount_0f7a4_43 : decode cJ6_bitCount_0f7a4 43 = .ok (.bipush 16, 2) := by decide +kernel
theorem dJ6_bitCount_0f7a4_45 : decode cJ6_bitCount_0f7a4 45 = .ok (.iushr, 1) := by decide +kernel
theorem dJ6_bitCount_0f7a4_46 : decode cJ6_bitCount_0f7a4 46 = .ok (.iadd, 1) := by decide +kernel
theorem dJ6_bitCount_0f7a4_47 : decode cJ6_bitCount_0f7a4 47 = .ok (.istore_n 0, 1) := by decide +kernel
theorem dJ6_bitCount_0f7a4_48 : decode cJ6_bitCount_0f7a4 48 = .ok (.iload_n 0, 1) := by decide +kernel
theorem dJ6_bitCount_0f7a4_49 : decode cJ6_bitCount_0f7a4 49 = .ok (.bipush 63, 2) := by decide +kernel
theorem dJ6_bitCount_0f7a4_51 : decode cJ6_bitCount_0f7a4 51 = .ok (.iand, 1) := by decide +kernel
theorem dJ6_bitCount_0f7a4_52 : decode cJ6_bitCount_0f7a4 52 = .ok (.ireturn, 1) := by decide +kernel
theorem dJ9_max_7cf53_0 : decode cJ9_max_7cf53 0 = .ok (.iload_n 0, 1) := by decide +kernel
theorem dJ9_max_7cf53_1 : decode cJ9_max_7cf53 1 = .ok (.iload_n 1, 1) := by decide +kernel
theorem dJ9_max_7cf53_2 : decode cJ9_max_7cf53 2 = .ok (.if_icmp .lt 7, 3) := by decide +kernel
theorem dJ9_max_7cf53_5 : decode cJ9_max_7cf53 5 = .ok (.iload_n 0, 1) := by decide +kernel
theorem dJ9_max_7cf53_6 : decode cJ9_max_7cf53 6 = .ok (.goto 4, 3) := by decide +kernel
theorem dJ9_max_7cf53_9 : decode cJ9_max_7cf53 9 = .ok (.iload_n 1, 1) := by decide +kernel
theorem dJ9_max_7cf53_10 : decode cJ9_max_7cf53 10 = .ok (.ireturn, 1) := by decide +kernel
abbrev vwCl : List vw_C := [(RX0, TX0, 3), (RX1, TX1, 4), (RX2, TX2, 8), (RX3, TX3, 9), (RX4, TX4, 25)]
