theorem dX3_isWithin_0 : decode cX3_isWithin 0 = .ok (.iload_n 0, 1) := by decide +kernel
theorem dX3_isWithin_1 : decode cX3_isWithin 1 = .ok (.iload_n 1, 1) := by decide +kernel
theorem dX3_isWithin_2 : decode cX3_isWithin 2 = .ok (.iconst (-1), 1) := by decide +kernel
theorem dX3_isWithin_3 : decode cX3_isWithin 3 = .ok (.ixor, 1) := by decide +kernel
theorem dX3_isWithin_4 : decode cX3_isWithin 4 = .ok (.iand, 1) := by decide +kernel
theorem dX3_isWithin_5 : decode cX3_isWithin 5 = .ok (.ifCond .ne 7, 3) := by decide +kernel
theorem dX3_isWithin_8 : decode cX3_isWithin 8 = .ok (.iconst 1, 1) := by decide +kernel
theorem dX3_isWithin_9 : decode cX3_isWithin 9 = .ok (.goto 4, 3) := by decide +kernel
theorem dX3_isWithin_12 : decode cX3_isWithin 12 = .ok (.iconst 0, 1) := by decide +kernel
theorem dX3_isWithin_13 : decode cX3_isWithin 13 = .ok (.ireturn, 1) := by decide +kernel
theorem dX3_faulted_0 : decode cX3_faulted 0 = .ok (.aload_n 0, 1) := by decide +kernel
theorem dX3_faulted_1 : decode cX3_faulted 1 = .ok (.iload_n 1, 1) := by decide +kernel
theorem dX3_faulted_2 : decode cX3_faulted 2 = .ok (.putfield 42, 3) := by decide +kernel
theorem dX3_faulted_5 : decode cX3_faulted 5 = .ok (.bipush (-10), 2) := by decide +kernel
theorem dX3_faulted_7 : decode cX3_faulted 7 = .ok (.iload_n 1, 1) := by decide +kernel
theorem dX3_faulted_8 : decode cX3_faulted 8 = .ok (.isub, 1) := by decide +kernel
theorem dX3_faulted_9 : decode cX3_faulted 9 = .ok (.ireturn, 1) := by decide +kernel
set_option maxRecDepth 20000 in
theorem ggX3_stopOfGuess_X3_isSheet : GoodIn wsX3_stopOfGuess wsX3_isSheet := goodIn_r _ [6] (by decide +kernel) (by decide +kernel)
set_option maxRecDepth 20000 in
theorem gX3_stopOfGuess_X3_isSheet : GoodIn wsX3_stopOfGuess (va_wsS RX3 46 yX3_isSheet wsX3_isSheet) := goodIn_app (goodIn_of _ (by decide +kernel)) ggX3_stopOfGuess_X3_isSheet
set_option maxRecDepth 20000 in
theorem ggX3_stopOfGuess_X3_isLane : GoodIn wsX3_stopOfGuess wsX3_isLane := goodIn_r _ [9] (by decide +kernel) (by decide +kernel)
set_option maxRecDepth 20000 in
theorem gX3_stopOfGuess_X3_isLane : GoodIn wsX3_stopOfGuess (va_wsS RX3 50 yX3_isLane wsX3_isLane) := goodIn_app (goodIn_of _ (by decide +kernel)) ggX3_stopOfGuess_X3_isLane
set_option maxRecDepth 20000 in
theorem ggX3_stopOfGuess_X3_isDaysLength : GoodIn wsX3_stopOfGuess wsX3_isDaysLength := goodIn_r _ [12] (by decide +kernel) (by decide +kernel)
set_option maxRecDepth 20000 in
theorem gX3_stopOfGuess_X3_isDaysLength : GoodIn wsX3_stopOfGuess (va_wsS RX3 107 yX3_isDaysLength wsX3_isDaysLength) := goodIn_app (goodIn_of _ (by decide +kernel)) ggX3_stopOfGuess_X3_isDaysLength
set_option maxRecDepth 20000 in
theorem ggX3_stopOfGuess_X3_stopOfDays : GoodIn wsX3_stopOfGuess wsX3_stopOfDays := goodIn_r _ [16, 17, 18, 19, 20, 21, 22, 23, 24, 25, 26, 27, 28, 29, 30, 31, 32, 33, 34, 35, 36, 37, 5, 38, 1, 39, 40, 41, 42, 43, 44, 45, 46, 47, 48, 49, 50, 51, 52, 53, 54, 55, 56, 57, 58, 59, 60, 61, 62, 63, 64, 65, 66, 67, 68, 69] (by decide +kernel) (by decide +kernel)
set_option maxRecDepth 20000 in
theorem gX3_stopOfGuess_X3_stopOfDays : GoodIn wsX3_stopOfGuess (wsV RX3 113 RX3 yX3_stopOfDays wsX3_stopOfDays) := goodIn_app (goodIn_of _ (by decide +kernel)) ggX3_stopOfGuess_X3_stopOfDays
theorem dX3_stopOfGuess_0 : decode cX3_stopOfGuess 0 = .ok (.aload_n 0, 1) := by decide +kernel
theorem dX3_stopOfGuess_1 : decode cX3_stopOfGuess 1 = .ok (.iconst 0, 1) := by decide +kernel
theorem dX3_stopOfGuess_2 : decode cX3_stopOfGuess 2 = .ok (.putfield 42, 3) := by decide +kernel
theorem dX3_stopOfGuess_5 : decode cX3_stopOfGuess 5 = .ok (.iload_n 1, 1) := by decide +kernel
theorem dX3_stopOfGuess_6 : decode cX3_stopOfGuess 6 = .ok (.ifCond .eq 10, 3) := by decide +kernel
theorem dX3_stopOfGuess_9 : decode cX3_stopOfGuess 9 = .ok (.iload_n 2, 1) := by decide +kernel
theorem dX3_stopOfGuess_10 : decode cX3_stopOfGuess 10 = .ok (.invokestatic 46, 3) := by decide +kernel
theorem dX3_stopOfGuess_13 : decode cX3_stopOfGuess 13 = .ok (.ifCond .ne 5, 3) := by decide +kernel
theorem dX3_stopOfGuess_16 : decode cX3_stopOfGuess 16 = .ok (.iconst (-1), 1) := by decide +kernel
theorem dX3_stopOfGuess_17 : decode cX3_stopOfGuess 17 = .ok (.ireturn, 1) := by decide +kernel
theorem dX3_stopOfGuess_18 : decode cX3_stopOfGuess 18 = .ok (.iload_n 3, 1) := by decide +kernel
theorem dX3_stopOfGuess_19 : decode cX3_stopOfGuess 19 = .ok (.invokestatic 50, 3) := by decide +kernel
theorem dX3_stopOfGuess_22 : decode cX3_stopOfGuess 22 = .ok (.ifCond .eq 11, 3) := by decide +kernel
theorem dX3_stopOfGuess_25 : decode cX3_stopOfGuess 25 = .ok (.iload 5, 2) := by decide +kernel
theorem dX3_stopOfGuess_27 : decode cX3_stopOfGuess 27 = .ok (.invokestatic 107, 3) := by decide +kernel
theorem dX3_stopOfGuess_30 : decode cX3_stopOfGuess 30 = .ok (.ifCond .ne 6, 3) := by decide +kernel
theorem dX3_stopOfGuess_33 : decode cX3_stopOfGuess 33 = .ok (.bipush (-2), 2) := by decide +kernel
theorem dX3_stopOfGuess_35 : decode cX3_stopOfGuess 35 = .ok (.ireturn, 1) := by decide +kernel
theorem dX3_stopOfGuess_36 : decode cX3_stopOfGuess 36 = .ok (.aload_n 0, 1) := by decide +kernel
theorem dX3_stopOfGuess_37 : decode cX3_stopOfGuess 37 = .ok (.aload_n 0, 1) := by decide +kernel
theorem dX3_stopOfGuess_38 : decode cX3_stopOfGuess 38 = .ok (.getfield 13, 3) := by decide +kernel
theorem dX3_stopOfGuess_41 : decode cX3_stopOfGuess 41 = .ok (.iload_n 2, 1) := by decide +kernel
theorem dX3_stopOfGuess_42 : decode cX3_stopOfGuess 42 = .ok (.aaload, 1) := by decide +kernel
theorem dX3_stopOfGuess_43 : decode cX3_stopOfGuess 43 = .ok (.iload_n 3, 1) := by decide +kernel
theorem dX3_stopOfGuess_44 : decode cX3_stopOfGuess 44 = .ok (.iload 4, 2) := by decide +kernel
theorem dX3_stopOfGuess_46 : decode cX3_stopOfGuess 46 = .ok (.iload 5, 2) := by decide +kernel
theorem dX3_stopOfGuess_48 : decode cX3_stopOfGuess 48 = .ok (.invokevirtual 113, 3) := by decide +kernel
theorem dX3_stopOfGuess_51 : decode cX3_stopOfGuess 51 = .ok (.ireturn, 1) := by decide +kernel
set_option maxRecDepth 20000 in
theorem ggX3_stopOfDays_X0_faultOf : GoodIn wsX3_stopOfDays wsX0_faultOf := goodIn_r _ [8, 9, 10, 11, 12, 7, 13, 14, 15, 16, 17, 18, 53, 54, 55] (by decide +kernel) (by decide +kernel)
set_option maxRecDepth 20000 in
theorem gX3_stopOfDays_X0_faultOf : GoodIn wsX3_stopOfDays (wsV RX3 53 RX0 yX0_faultOf wsX0_faultOf) := goodIn_app (goodIn_of _ (by decide +kernel)) ggX3_stopOfDays_X0_faultOf
set_option maxRecDepth 20000 in
theorem ggX3_stopOfDays_X3_faulted : GoodIn wsX3_stopOfDays wsX3_faulted := goodIn_r _ [23, 24, 36, 37, 38, 39, 40, 41, 42, 43, 44] (by decide +kernel) (by decide +kernel)
set_option maxRecDepth 20000 in
theorem gX3_stopOfDays_X3_faulted : GoodIn wsX3_stopOfDays (wsV RX3 57 RX3 yX3_faulted wsX3_faulted) := goodIn_app (goodIn_of _ (by decide +kernel)) ggX3_stopOfDays_X3_faulted
set_option maxRecDepth 20000 in
theorem ggX3_stopOfDays_X2_isPerson : GoodIn wsX3_stopOfDays wsX2_isPerson := goodIn_r _ [29, 30, 45, 46, 47, 48, 49, 50, 51, 52] (by decide +kernel) (by decide +kernel)
set_option maxRecDepth 20000 in
theorem gX3_stopOfDays_X2_isPerson : GoodIn wsX3_stopOfDays (wsV RX3 71 RX2 yX2_isPerson wsX2_isPerson) := goodIn_app (goodIn_of _ (by decide +kernel)) ggX3_stopOfDays_X2_isPerson
set_option maxRecDepth 20000 in
theorem ggX3_stopOfDays_X2_isDeed : GoodIn wsX3_stopOfDays wsX2_isDeed := goodIn_r _ [34, 35, 45, 46, 47, 48, 49, 50, 51, 52] (by decide +kernel) (by decide +kernel)
set_option maxRecDepth 20000 in
theorem gX3_stopOfDays_X2_isDeed : GoodIn wsX3_stopOfDays (wsV RX3 89 RX2 yX2_isDeed wsX2_isDeed) := goodIn_app (goodIn_of _ (by decide +kernel)) ggX3_stopOfDays_X2_isDeed
theorem dX3_stopOfDays_0 : decode cX3_stopOfDays 0 = .ok (.aload_n 1, 1) := by decide +kernel
theorem dX3_stopOfDays_1 : decode cX3_stopOfDays 1 = .ok (.iload_n 2, 1) := by decide +kernel
theorem dX3_stopOfDays_2 : decode cX3_stopOfDays 2 = .ok (.iload_n 3, 1) := by decide +kernel
theorem dX3_stopOfDays_3 : decode cX3_stopOfDays 3 = .ok (.iconst 2, 1) := by decide +kernel
theorem dX3_stopOfDays_4 : decode cX3_stopOfDays 4 = .ok (.iload 4, 2) := by decide +kernel
theorem dX3_stopOfDays_6 : decode cX3_stopOfDays 6 = .ok (.imul, 1) := by decide +kernel
theorem dX3_stopOfDays_7 : decode cX3_stopOfDays 7 = .ok (.invokevirtual 53, 3) := by decide +kernel
theorem dX3_stopOfDays_10 : decode cX3_stopOfDays 10 = .ok (.istore 5, 2) := by decide +kernel
theorem dX3_stopOfDays_12 : decode cX3_stopOfDays 12 = .ok (.iload 5, 2) := by decide +kernel
theorem dX3_stopOfDays_14 : decode cX3_stopOfDays 14 = .ok (.ifCond .eq 10, 3) := by decide +kernel
theorem dX3_stopOfDays_17 : decode cX3_stopOfDays 17 = .ok (.aload_n 0, 1) := by decide +kernel
theorem dX3_stopOfDays_18 : decode cX3_stopOfDays 18 = .ok (.iload 5, 2) := by decide +kernel
theorem dX3_stopOfDays_20 : decode cX3_stopOfDays 20 = .ok (.invokevirtual 57, 3) := by decide +kernel
theorem dX3_stopOfDays_23 : decode cX3_stopOfDays 23 = .ok (.ireturn, 1) := by decide +kernel
theorem dX3_stopOfDays_24 : decode cX3_stopOfDays 24 = .ok (.aload_n 0, 1) := by decide +kernel
theorem dX3_stopOfDays_25 : decode cX3_stopOfDays 25 = .ok (.getfield 35, 3) := by decide +kernel
theorem dX3_stopOfDays_28 : decode cX3_stopOfDays 28 = .ok (.getfield 68, 3) := by decide +kernel
theorem dX3_stopOfDays_31 : decode cX3_stopOfDays 31 = .ok (.ifCond .ne 6, 3) := by decide +kernel
theorem dX3_stopOfDays_34 : decode cX3_stopOfDays 34 = .ok (.bipush (-3), 2) := by decide +kernel
theorem dX3_stopOfDays_36 : decode cX3_stopOfDays 36 = .ok (.ireturn, 1) := by decide +kernel
theorem dX3_stopOfDays_37 : decode cX3_stopOfDays 37 = .ok (.iload_n 3, 1) := by decide +kernel
theorem dX3_stopOfDays_38 : decode cX3_stopOfDays 38 = .ok (.istore 6, 2) := by decide +kernel
theorem dX3_stopOfDays_40 : decode cX3_stopOfDays 40 = .ok (.iload 6, 2) := by decide +kernel
theorem dX3_stopOfDays_42 : decode cX3_stopOfDays 42 = .ok (.iload_n 3, 1) := by decide +kernel
theorem dX3_stopOfDays_43 : decode cX3_stopOfDays 43 = .ok (.iconst 2, 1) := by decide +kernel
theorem dX3_stopOfDays_44 : decode cX3_stopOfDays 44 = .ok (.iload 4, 2) := by decide +kernel
theorem dX3_stopOfDays_46 : decode cX3_stopOfDays 46 = .ok (.imul, 1) := by decide +kernel
theorem dX3_stopOfDays_47 : decode cX3_stopOfDays 47 = .ok (.iadd, 1) := by decide +kernel
theorem dX3_stopOfDays_48 : decode cX3_stopOfDays 48 = .ok (.if_icmp .ge 47, 3) := by decide +kernel
theorem dX3_stopOfDays_51 : decode cX3_stopOfDays 51 = .ok (.aload_n 0, 1) := by decide +kernel
theorem dX3_stopOfDays_52 : decode cX3_stopOfDays 52 = .ok (.getfield 35, 3) := by decide +kernel
theorem dX3_stopOfDays_55 : decode cX3_stopOfDays 55 = .ok (.aload_n 1, 1) := by decide +kernel
theorem dX3_stopOfDays_56 : decode cX3_stopOfDays 56 = .ok (.getfield 170, 3) := by decide +kernel
theorem dX3_stopOfDays_59 : decode cX3_stopOfDays 59 = .ok (.iload 6, 2) := by decide +kernel
theorem dX3_stopOfDays_61 : decode cX3_stopOfDays 61 = .ok (.iaload, 1) := by decide +kernel
theorem dX3_stopOfDays_62 : decode cX3_stopOfDays 62 = .ok (.invokevirtual 71, 3) := by decide +kernel
theorem dX3_stopOfDays_65 : decode cX3_stopOfDays 65 = .ok (.ifCond .eq 22, 3) := by decide +kernel
theorem dX3_stopOfDays_68 : decode cX3_stopOfDays 68 = .ok (.aload_n 0, 1) := by decide +kernel
theorem dX3_stopOfDays_69 : decode cX3_stopOfDays 69 = .ok (.getfield 35, 3) := by decide +kernel
theorem dX3_stopOfDays_72 : decode cX3_stopOfDays 72 = .ok (.aload_n 1, 1) := by decide +kernel
theorem dX3_stopOfDays_73 : decode cX3_stopOfDays 73 = .ok (.getfield 170, 3) := by decide +kernel
theorem dX3_stopOfDays_76 : decode cX3_stopOfDays 76 = .ok (.iload 6, 2) := by decide +kernel
theorem dX3_stopOfDays_78 : decode cX3_stopOfDays 78 = .ok (.iconst 1, 1) := by decide +kernel
theorem dX3_stopOfDays_79 : decode cX3_stopOfDays 79 = .ok (.iadd, 1) := by decide +kernel
theorem dX3_stopOfDays_80 : decode cX3_stopOfDays 80 = .ok (.iaload, 1) := by decide +kernel
theorem dX3_stopOfDays_81 : decode cX3_stopOfDays 81 = .ok (.invokevirtual 89, 3) := by decide +kernel
theorem dX3_stopOfDays_84 : decode cX3_stopOfDays 84 = .ok (.ifCond .ne 5, 3) := by decide +kernel
theorem dX3_stopOfDays_87 : decode cX3_stopOfDays 87 = .ok (.iconst (-1), 1) := by decide +kernel
theorem dX3_stopOfDays_88 : decode cX3_stopOfDays 88 = .ok (.ireturn, 1) := by decide +kernel
theorem dX3_stopOfDays_89 : decode cX3_stopOfDays 89 = .ok (.iinc 6 2, 3) := by decide +kernel
theorem dX3_stopOfDays_92 : decode cX3_stopOfDays 92 = .ok (.goto (-52), 3) := by decide +kernel
theorem dX3_stopOfDays_95 : decode cX3_stopOfDays 95 = .ok (.iconst 0, 1) := by decide +kernel
theorem dX3_stopOfDays_96 : decode cX3_stopOfDays 96 = .ok (.ireturn, 1) := by decide +kernel
set_option maxRecDepth 20000 in
theorem ggX3_liveDays_X2_hasTold : GoodIn wsX3_liveDays wsX2_hasTold := goodIn_r _ [7, 8, 48, 49, 50, 51, 52, 53, 54, 55] (by decide +kernel) (by decide +kernel)
set_option maxRecDepth 20000 in
theorem gX3_liveDays_X2_hasTold : GoodIn wsX3_liveDays (wsV RX3 99 RX2 yX2_hasTold wsX2_hasTold) := goodIn_app (goodIn_of _ (by decide +kernel)) ggX3_liveDays_X2_hasTold
set_option maxRecDepth 20000 in
theorem ggX3_liveDays_X2_hear : GoodIn wsX3_liveDays wsX2_hear := goodIn_r _ [12, 8, 13, 14, 15, 16, 6, 17, 18, 19, 20, 21, 22, 23, 24, 25, 26, 27, 28, 29, 30, 31, 32, 33, 34, 35, 48, 49, 50, 51, 52, 53, 54, 55] (by decide +kernel) (by decide +kernel)
set_option maxRecDepth 20000 in
theorem gX3_liveDays_X2_hear : GoodIn wsX3_liveDays (wsV RX3 103 RX2 yX2_hear wsX2_hear) := goodIn_app (goodIn_of _ (by decide +kernel)) ggX3_liveDays_X2_hear
theorem dX3_liveDays_0 : decode cX3_liveDays 0 = .ok (.iconst 0, 1) := by decide +kernel
theorem dX3_liveDays_1 : decode cX3_liveDays 1 = .ok (.istore 4, 2) := by decide +kernel
theorem dX3_liveDays_3 : decode cX3_liveDays 3 = .ok (.iload 4, 2) := by decide +kernel
theorem dX3_liveDays_5 : decode cX3_liveDays 5 = .ok (.iload_n 3, 1) := by decide +kernel
theorem dX3_liveDays_6 : decode cX3_liveDays 6 = .ok (.if_icmp .ge 65, 3) := by decide +kernel
theorem dX3_liveDays_9 : decode cX3_liveDays 9 = .ok (.aload_n 1, 1) := by decide +kernel
theorem dX3_liveDays_10 : decode cX3_liveDays 10 = .ok (.getfield 170, 3) := by decide +kernel
theorem dX3_liveDays_13 : decode cX3_liveDays 13 = .ok (.iload_n 2, 1) := by decide +kernel
theorem dX3_liveDays_14 : decode cX3_liveDays 14 = .ok (.iconst 2, 1) := by decide +kernel
theorem dX3_liveDays_15 : decode cX3_liveDays 15 = .ok (.iload 4, 2) := by decide +kernel
theorem dX3_liveDays_17 : decode cX3_liveDays 17 = .ok (.imul, 1) := by decide +kernel
theorem dX3_liveDays_18 : decode cX3_liveDays 18 = .ok (.iadd, 1) := by decide +kernel
theorem dX3_liveDays_19 : decode cX3_liveDays 19 = .ok (.iaload, 1) := by decide +kernel
theorem dX3_liveDays_20 : decode cX3_liveDays 20 = .ok (.istore 5, 2) := by decide +kernel
theorem dX3_liveDays_22 : decode cX3_liveDays 22 = .ok (.aload_n 1, 1) := by decide +kernel
theorem dX3_liveDays_23 : decode cX3_liveDays 23 = .ok (.getfield 170, 3) := by decide +kernel
theorem dX3_liveDays_26 : decode cX3_liveDays 26 = .ok (.iload_n 2, 1) := by decide +kernel
theorem dX3_liveDays_27 : decode cX3_liveDays 27 = .ok (.iconst 2, 1) := by decide +kernel
theorem dX3_liveDays_28 : decode cX3_liveDays 28 = .ok (.iload 4, 2) := by decide +kernel
theorem dX3_liveDays_30 : decode cX3_liveDays 30 = .ok (.imul, 1) := by decide +kernel
theorem dX3_liveDays_31 : decode cX3_liveDays 31 = .ok (.iadd, 1) := by decide +kernel
theorem dX3_liveDays_32 : decode cX3_liveDays 32 = .ok (.iconst 1, 1) := by decide +kernel
theorem dX3_liveDays_33 : decode cX3_liveDays 33 = .ok (.iadd, 1) := by decide +kernel
theorem dX3_liveDays_34 : decode cX3_liveDays 34 = .ok (.iaload, 1) := by decide +kernel
theorem dX3_liveDays_35 : decode cX3_liveDays 35 = .ok (.istore 6, 2) := by decide +kernel
theorem dX3_liveDays_37 : decode cX3_liveDays 37 = .ok (.aload_n 0, 1) := by decide +kernel
theorem dX3_liveDays_38 : decode cX3_liveDays 38 = .ok (.getfield 39, 3) := by decide +kernel
theorem dX3_liveDays_41 : decode cX3_liveDays 41 = .ok (.iload 5, 2) := by decide +kernel
theorem dX3_liveDays_43 : decode cX3_liveDays 43 = .ok (.iload 6, 2) := by decide +kernel
theorem dX3_liveDays_45 : decode cX3_liveDays 45 = .ok (.invokevirtual 99, 3) := by decide +kernel
theorem dX3_liveDays_48 : decode cX3_liveDays 48 = .ok (.ifCond .eq 6, 3) := by decide +kernel
theorem dX3_liveDays_51 : decode cX3_liveDays 51 = .ok (.iload 4, 2) := by decide +kernel
theorem dX3_liveDays_53 : decode cX3_liveDays 53 = .ok (.ireturn, 1) := by decide +kernel
theorem dX3_liveDays_54 : decode cX3_liveDays 54 = .ok (.aload_n 0, 1) := by decide +kernel
theorem dX3_liveDays_55 : decode cX3_liveDays 55 = .ok (.getfield 39, 3) := by decide +kernel
theorem dX3_liveDays_58 : decode cX3_liveDays 58 = .ok (.iload 5, 2) := by decide +kernel
theorem dX3_liveDays_60 : decode cX3_liveDays 60 = .ok (.iload 6, 2) := by decide +kernel
theorem dX3_liveDays_62 : decode cX3_liveDays 62 = .ok (.invokevirtual 103, 3) := by decide +kernel
theorem dX3_liveDays_65 : decode cX3_liveDays 65 = .ok (.iinc 4 1, 3) := by decide +kernel
theorem dX3_liveDays_68 : decode cX3_liveDays 68 = .ok (.goto (-65), 3) := by decide +kernel
theorem dX3_liveDays_71 : decode cX3_liveDays 71 = .ok (.bipush (-9), 2) := by decide +kernel
theorem dX3_liveDays_73 : decode cX3_liveDays 73 = .ok (.ireturn, 1) := by decide +kernel
set_option maxRecDepth 20000 in
theorem ggX3_answerOfTrial_X2_highestFloor : GoodIn wsX3_answerOfTrial wsX2_highestFloor := goodIn_r _ [8, 9, 10, 11, 12, 13, 14, 15, 16, 7, 17, 18, 19, 20, 21, 22, 23, 24, 25, 26, 27, 28, 29, 44, 45, 46, 47, 48, 49, 50, 51] (by decide +kernel) (by decide +kernel)
set_option maxRecDepth 20000 in
theorem gX3_answerOfTrial_X2_highestFloor : GoodIn wsX3_answerOfTrial (wsV RX3 204 RX2 yX2_highestFloor wsX2_highestFloor) := goodIn_app (goodIn_of _ (by decide +kernel)) ggX3_answerOfTrial_X2_highestFloor
set_option maxRecDepth 20000 in
theorem ggX3_answerOfTrial_X2_isPerson : GoodIn wsX3_answerOfTrial wsX2_isPerson := goodIn_r _ [33, 9, 44, 45, 46, 47, 48, 49, 50, 51] (by decide +kernel) (by decide +kernel)
set_option maxRecDepth 20000 in
theorem gX3_answerOfTrial_X2_isPerson : GoodIn wsX3_answerOfTrial (wsV RX3 71 RX2 yX2_isPerson wsX2_isPerson) := goodIn_app (goodIn_of _ (by decide +kernel)) ggX3_answerOfTrial_X2_isPerson
set_option maxRecDepth 20000 in
theorem ggX3_answerOfTrial_X2_floorOf : GoodIn wsX3_answerOfTrial wsX2_floorOf := goodIn_r _ [17, 18, 19, 20, 21, 7, 22, 23, 24, 25, 26, 27, 28, 29, 44, 45, 46, 47, 48, 49, 50, 51] (by decide +kernel) (by decide +kernel)
set_option maxRecDepth 20000 in
theorem gX3_answerOfTrial_X2_floorOf : GoodIn wsX3_answerOfTrial (wsV RX3 86 RX2 yX2_floorOf wsX2_floorOf) := goodIn_app (goodIn_of _ (by decide +kernel)) ggX3_answerOfTrial_X2_floorOf
theorem dX3_answerOfTrial_0 : decode cX3_answerOfTrial 0 = .ok (.iload_n 1, 1) := by decide +kernel
theorem dX3_answerOfTrial_1 : decode cX3_answerOfTrial 1 = .ok (.ifCond .ne 11, 3) := by decide +kernel
theorem dX3_answerOfTrial_4 : decode cX3_answerOfTrial 4 = .ok (.aload_n 0, 1) := by decide +kernel
theorem dX3_answerOfTrial_5 : decode cX3_answerOfTrial 5 = .ok (.getfield 39, 3) := by decide +kernel
theorem dX3_answerOfTrial_8 : decode cX3_answerOfTrial 8 = .ok (.getfield 201, 3) := by decide +kernel
theorem dX3_answerOfTrial_11 : decode cX3_answerOfTrial 11 = .ok (.ireturn, 1) := by decide +kernel
theorem dX3_answerOfTrial_12 : decode cX3_answerOfTrial 12 = .ok (.iload_n 1, 1) := by decide +kernel
theorem dX3_answerOfTrial_13 : decode cX3_answerOfTrial 13 = .ok (.iconst 2, 1) := by decide +kernel
theorem dX3_answerOfTrial_14 : decode cX3_answerOfTrial 14 = .ok (.if_icmp .ne 11, 3) := by decide +kernel
theorem dX3_answerOfTrial_17 : decode cX3_answerOfTrial 17 = .ok (.aload_n 0, 1) := by decide +kernel
theorem dX3_answerOfTrial_18 : decode cX3_answerOfTrial 18 = .ok (.getfield 39, 3) := by decide +kernel
theorem dX3_answerOfTrial_21 : decode cX3_answerOfTrial 21 = .ok (.invokevirtual 204, 3) := by decide +kernel
theorem dX3_answerOfTrial_24 : decode cX3_answerOfTrial 24 = .ok (.ireturn, 1) := by decide +kernel
theorem dX3_answerOfTrial_25 : decode cX3_answerOfTrial 25 = .ok (.iload_n 1, 1) := by decide +kernel
theorem dX3_answerOfTrial_26 : decode cX3_answerOfTrial 26 = .ok (.bipush 20, 2) := by decide +kernel
theorem dX3_answerOfTrial_28 : decode cX3_answerOfTrial 28 = .ok (.if_icmp .lt 10, 3) := by decide +kernel
theorem dX3_answerOfTrial_31 : decode cX3_answerOfTrial 31 = .ok (.iload_n 1, 1) := by decide +kernel
theorem dX3_answerOfTrial_32 : decode cX3_answerOfTrial 32 = .ok (.bipush 20, 2) := by decide +kernel
theorem dX3_answerOfTrial_34 : decode cX3_answerOfTrial 34 = .ok (.isub, 1) := by decide +kernel
theorem dX3_answerOfTrial_35 : decode cX3_answerOfTrial 35 = .ok (.goto 7, 3) := by decide +kernel
theorem dX3_answerOfTrial_38 : decode cX3_answerOfTrial 38 = .ok (.iload_n 1, 1) := by decide +kernel
theorem dX3_answerOfTrial_39 : decode cX3_answerOfTrial 39 = .ok (.bipush 10, 2) := by decide +kernel
theorem dX3_answerOfTrial_41 : decode cX3_answerOfTrial 41 = .ok (.isub, 1) := by decide +kernel
theorem dX3_answerOfTrial_42 : decode cX3_answerOfTrial 42 = .ok (.istore_n 2, 1) := by decide +kernel
theorem dX3_answerOfTrial_43 : decode cX3_answerOfTrial 43 = .ok (.aload_n 0, 1) := by decide +kernel
theorem dX3_answerOfTrial_44 : decode cX3_answerOfTrial 44 = .ok (.getfield 39, 3) := by decide +kernel
theorem dX3_answerOfTrial_47 : decode cX3_answerOfTrial 47 = .ok (.iload_n 2, 1) := by decide +kernel
theorem dX3_answerOfTrial_48 : decode cX3_answerOfTrial 48 = .ok (.invokevirtual 71, 3) := by decide +kernel
theorem dX3_answerOfTrial_51 : decode cX3_answerOfTrial 51 = .ok (.ifCond .ne 6, 3) := by decide +kernel
theorem dX3_answerOfTrial_54 : decode cX3_answerOfTrial 54 = .ok (.bipush (-9), 2) := by decide +kernel
theorem dX3_answerOfTrial_56 : decode cX3_answerOfTrial 56 = .ok (.ireturn, 1) := by decide +kernel
theorem dX3_answerOfTrial_57 : decode cX3_answerOfTrial 57 = .ok (.iload_n 1, 1) := by decide +kernel
theorem dX3_answerOfTrial_58 : decode cX3_answerOfTrial 58 = .ok (.bipush 20, 2) := by decide +kernel
theorem dX3_answerOfTrial_60 : decode cX3_answerOfTrial 60 = .ok (.if_icmp .lt 15, 3) := by decide +kernel
theorem dX3_answerOfTrial_63 : decode cX3_answerOfTrial 63 = .ok (.aload_n 0, 1) := by decide +kernel
theorem dX3_answerOfTrial_64 : decode cX3_answerOfTrial 64 = .ok (.getfield 39, 3) := by decide +kernel
theorem dX3_answerOfTrial_67 : decode cX3_answerOfTrial 67 = .ok (.getfield 83, 3) := by decide +kernel
theorem dX3_answerOfTrial_70 : decode cX3_answerOfTrial 70 = .ok (.iload_n 2, 1) := by decide +kernel
theorem dX3_answerOfTrial_71 : decode cX3_answerOfTrial 71 = .ok (.iaload, 1) := by decide +kernel
theorem dX3_answerOfTrial_72 : decode cX3_answerOfTrial 72 = .ok (.goto 11, 3) := by decide +kernel
theorem dX3_answerOfTrial_75 : decode cX3_answerOfTrial 75 = .ok (.aload_n 0, 1) := by decide +kernel
theorem dX3_answerOfTrial_76 : decode cX3_answerOfTrial 76 = .ok (.getfield 39, 3) := by decide +kernel
theorem dX3_answerOfTrial_79 : decode cX3_answerOfTrial 79 = .ok (.iload_n 2, 1) := by decide +kernel
theorem dX3_answerOfTrial_80 : decode cX3_answerOfTrial 80 = .ok (.invokevirtual 86, 3) := by decide +kernel
theorem dX3_answerOfTrial_83 : decode cX3_answerOfTrial 83 = .ok (.ireturn, 1) := by decide +kernel
set_option maxRecDepth 20000 in
theorem ggX3_readingsAreSo_X2_floorOf : GoodIn wsX3_readingsAreSo wsX2_floorOf := goodIn_r _ [9, 10, 11, 12, 13, 8, 14, 15, 16, 17, 18, 19, 20, 21, 31, 32, 33, 34, 35, 36, 37, 38] (by decide +kernel) (by decide +kernel)
set_option maxRecDepth 20000 in
theorem gX3_readingsAreSo_X2_floorOf : GoodIn wsX3_readingsAreSo (wsV RX3 86 RX2 yX2_floorOf wsX2_floorOf) := goodIn_app (goodIn_of _ (by decide +kernel)) ggX3_readingsAreSo_X2_floorOf
theorem dX3_readingsAreSo_0 : decode cX3_readingsAreSo 0 = .ok (.iconst 0, 1) := by decide +kernel
theorem dX3_readingsAreSo_1 : decode cX3_readingsAreSo 1 = .ok (.istore_n 1, 1) := by decide +kernel
theorem dX3_readingsAreSo_2 : decode cX3_readingsAreSo 2 = .ok (.iload_n 1, 1) := by decide +kernel
theorem dX3_readingsAreSo_3 : decode cX3_readingsAreSo 3 = .ok (.aload_n 0, 1) := by decide +kernel
theorem dX3_readingsAreSo_4 : decode cX3_readingsAreSo 4 = .ok (.getfield 65, 3) := by decide +kernel
theorem dX3_readingsAreSo_7 : decode cX3_readingsAreSo 7 = .ok (.if_icmp .ge 33, 3) := by decide +kernel
theorem dX3_readingsAreSo_10 : decode cX3_readingsAreSo 10 = .ok (.aload_n 0, 1) := by decide +kernel
theorem dX3_readingsAreSo_11 : decode cX3_readingsAreSo 11 = .ok (.getfield 39, 3) := by decide +kernel
theorem dX3_readingsAreSo_14 : decode cX3_readingsAreSo 14 = .ok (.aload_n 0, 1) := by decide +kernel
theorem dX3_readingsAreSo_15 : decode cX3_readingsAreSo 15 = .ok (.getfield 25, 3) := by decide +kernel
theorem dX3_readingsAreSo_18 : decode cX3_readingsAreSo 18 = .ok (.iload_n 1, 1) := by decide +kernel
theorem dX3_readingsAreSo_19 : decode cX3_readingsAreSo 19 = .ok (.iaload, 1) := by decide +kernel
theorem dX3_readingsAreSo_20 : decode cX3_readingsAreSo 20 = .ok (.invokevirtual 86, 3) := by decide +kernel
theorem dX3_readingsAreSo_23 : decode cX3_readingsAreSo 23 = .ok (.aload_n 0, 1) := by decide +kernel
theorem dX3_readingsAreSo_24 : decode cX3_readingsAreSo 24 = .ok (.getfield 29, 3) := by decide +kernel
theorem dX3_readingsAreSo_27 : decode cX3_readingsAreSo 27 = .ok (.iload_n 1, 1) := by decide +kernel
theorem dX3_readingsAreSo_28 : decode cX3_readingsAreSo 28 = .ok (.iaload, 1) := by decide +kernel
theorem dX3_readingsAreSo_29 : decode cX3_readingsAreSo 29 = .ok (.if_icmp .eq 5, 3) := by decide +kernel
theorem dX3_readingsAreSo_32 : decode cX3_readingsAreSo 32 = .ok (.iconst 0, 1) := by decide +kernel
theorem dX3_readingsAreSo_33 : decode cX3_readingsAreSo 33 = .ok (.ireturn, 1) := by decide +kernel
theorem dX3_readingsAreSo_34 : decode cX3_readingsAreSo 34 = .ok (.iinc 1 1, 3) := by decide +kernel
theorem dX3_readingsAreSo_37 : decode cX3_readingsAreSo 37 = .ok (.goto (-35), 3) := by decide +kernel
theorem dX3_readingsAreSo_40 : decode cX3_readingsAreSo 40 = .ok (.iconst 1, 1) := by decide +kernel
theorem dX3_readingsAreSo_41 : decode cX3_readingsAreSo 41 = .ok (.ireturn, 1) := by decide +kernel
theorem dX3_leaveTrace_0 : decode cX3_leaveTrace 0 = .ok (.aload_n 0, 1) := by decide +kernel
theorem dX3_leaveTrace_1 : decode cX3_leaveTrace 1 = .ok (.bipush 31, 2) := by decide +kernel
theorem dX3_leaveTrace_3 : decode cX3_leaveTrace 3 = .ok (.aload_n 0, 1) := by decide +kernel
theorem dX3_leaveTrace_4 : decode cX3_leaveTrace 4 = .ok (.getfield 198, 3) := by decide +kernel
theorem dX3_leaveTrace_7 : decode cX3_leaveTrace 7 = .ok (.imul, 1) := by decide +kernel
theorem dX3_leaveTrace_8 : decode cX3_leaveTrace 8 = .ok (.iload_n 1, 1) := by decide +kernel
theorem dX3_leaveTrace_9 : decode cX3_leaveTrace 9 = .ok (.iadd, 1) := by decide +kernel
theorem dX3_leaveTrace_10 : decode cX3_leaveTrace 10 = .ok (.putfield 198, 3) := by decide +kernel
theorem dX3_leaveTrace_13 : decode cX3_leaveTrace 13 = .ok (.return_, 1) := by decide +kernel
set_option maxRecDepth 20000 in
theorem ggX3_plainTelling_X3_leaveTrace : GoodIn wsX3_plainTelling wsX3_leaveTrace := goodIn_r _ [7, 8, 9, 10, 11, 12, 13, 14, 15, 16, 17] (by decide +kernel) (by decide +kernel)
set_option maxRecDepth 20000 in
theorem gX3_plainTelling_X3_leaveTrace : GoodIn wsX3_plainTelling (wsV RX3 207 RX3 yX3_leaveTrace wsX3_leaveTrace) := goodIn_app (goodIn_of _ (by decide +kernel)) ggX3_plainTelling_X3_leaveTrace
theorem dX3_plainTelling_0 : decode cX3_plainTelling 0 = .ok (.aload_n 0, 1) := by decide +kernel
theorem dX3_plainTelling_1 : decode cX3_plainTelling 1 = .ok (.iconst 1, 1) := by decide +kernel
theorem dX3_plainTelling_2 : decode cX3_plainTelling 2 = .ok (.invokevirtual 207, 3) := by decide +kernel
theorem dX3_plainTelling_5 : decode cX3_plainTelling 5 = .ok (.aload_n 0, 1) := by decide +kernel
theorem dX3_plainTelling_6 : decode cX3_plainTelling 6 = .ok (.getfield 35, 3) := by decide +kernel
theorem dX3_plainTelling_9 : decode cX3_plainTelling 9 = .ok (.getfield 80, 3) := by decide +kernel
theorem dX3_plainTelling_12 : decode cX3_plainTelling 12 = .ok (.iload_n 1, 1) := by decide +kernel
theorem dX3_plainTelling_13 : decode cX3_plainTelling 13 = .ok (.iaload, 1) := by decide +kernel
theorem dX3_plainTelling_14 : decode cX3_plainTelling 14 = .ok (.ireturn, 1) := by decide +kernel
set_option maxRecDepth 20000 in
theorem ggX3_proudTelling_X3_leaveTrace : GoodIn wsX3_proudTelling wsX3_leaveTrace := goodIn_r _ [5, 6, 13, 14, 15, 16, 17, 18, 19, 20, 21] (by decide +kernel) (by decide +kernel)
set_option maxRecDepth 20000 in
theorem gX3_proudTelling_X3_leaveTrace : GoodIn wsX3_proudTelling (wsV RX3 207 RX3 yX3_leaveTrace wsX3_leaveTrace) := goodIn_app (goodIn_of _ (by decide +kernel)) ggX3_proudTelling_X3_leaveTrace
set_option maxRecDepth 20000 in
theorem ggX3_proudTelling_X3_plainTelling : GoodIn wsX3_proudTelling wsX3_plainTelling := goodIn_r _ [10, 11, 12, 1, 2, 3, 4, 5, 6, 13, 14, 15, 16, 17, 18, 19, 20, 21, 22, 23, 24, 25, 26, 27, 28, 29] (by decide +kernel) (by decide +kernel)
set_option maxRecDepth 20000 in
theorem gX3_proudTelling_X3_plainTelling : GoodIn wsX3_proudTelling (wsV RX3 188 RX3 yX3_plainTelling wsX3_plainTelling) := goodIn_app (goodIn_of _ (by decide +kernel)) ggX3_proudTelling_X3_plainTelling
theorem dX3_proudTelling_0 : decode cX3_proudTelling 0 = .ok (.aload_n 0, 1) := by decide +kernel
theorem dX3_proudTelling_1 : decode cX3_proudTelling 1 = .ok (.iconst 2, 1) := by decide +kernel
theorem dX3_proudTelling_2 : decode cX3_proudTelling 2 = .ok (.invokevirtual 207, 3) := by decide +kernel
theorem dX3_proudTelling_5 : decode cX3_proudTelling 5 = .ok (.aload_n 0, 1) := by decide +kernel
theorem dX3_proudTelling_6 : decode cX3_proudTelling 6 = .ok (.iload_n 1, 1) := by decide +kernel
theorem dX3_proudTelling_7 : decode cX3_proudTelling 7 = .ok (.invokevirtual 188, 3) := by decide +kernel
theorem dX3_proudTelling_10 : decode cX3_proudTelling 10 = .ok (.bipush 100, 2) := by decide +kernel
theorem dX3_proudTelling_12 : decode cX3_proudTelling 12 = .ok (.iadd, 1) := by decide +kernel
theorem dX3_proudTelling_13 : decode cX3_proudTelling 13 = .ok (.ireturn, 1) := by decide +kernel
set_option maxRecDepth 20000 in
theorem ggX3_abjectTelling_X3_leaveTrace : GoodIn wsX3_abjectTelling wsX3_leaveTrace := goodIn_r _ [5, 6, 17, 18, 19, 20, 21, 22, 23, 24, 25] (by decide +kernel) (by decide +kernel)
set_option maxRecDepth 20000 in
theorem gX3_abjectTelling_X3_leaveTrace : GoodIn wsX3_abjectTelling (wsV RX3 207 RX3 yX3_leaveTrace wsX3_leaveTrace) := goodIn_app (goodIn_of _ (by decide +kernel)) ggX3_abjectTelling_X3_leaveTrace
set_option maxRecDepth 20000 in
theorem ggX3_abjectTelling_X3_proudTelling : GoodIn wsX3_abjectTelling wsX3_proudTelling := goodIn_r _ [10, 1, 2, 3, 4, 5, 6, 11, 12, 13, 14, 15, 16, 17, 18, 19, 20, 21, 22, 23, 24, 25, 26, 27, 28, 29, 30, 31, 32, 33] (by decide +kernel) (by decide +kernel)
set_option maxRecDepth 20000 in
theorem gX3_abjectTelling_X3_proudTelling : GoodIn wsX3_abjectTelling (wsV RX3 185 RX3 yX3_proudTelling wsX3_proudTelling) := goodIn_app (goodIn_of _ (by decide +kernel)) ggX3_abjectTelling_X3_proudTelling
set_option maxRecDepth 20000 in
theorem ggX3_abjectTelling_X3_plainTelling : GoodIn wsX3_abjectTelling wsX3_plainTelling := goodIn_r _ [14, 15, 16, 1, 2, 3, 4, 5, 6, 17, 18, 19, 20, 21, 22, 23, 24, 25, 26, 27, 28, 29, 30, 31, 32, 33] (by decide +kernel) (by decide +kernel)
set_option maxRecDepth 20000 in
theorem gX3_abjectTelling_X3_plainTelling : GoodIn wsX3_abjectTelling (wsV RX3 188 RX3 yX3_plainTelling wsX3_plainTelling) := goodIn_app (goodIn_of _ (by decide +kernel)) ggX3_abjectTelling_X3_plainTelling
theorem dX3_abjectTelling_0 : decode cX3_abjectTelling 0 = .ok (.aload_n 0, 1) := by decide +kernel
theorem dX3_abjectTelling_1 : decode cX3_abjectTelling 1 = .ok (.iconst 3, 1) := by decide +kernel
theorem dX3_abjectTelling_2 : decode cX3_abjectTelling 2 = .ok (.invokevirtual 207, 3) := by decide +kernel
theorem dX3_abjectTelling_5 : decode cX3_abjectTelling 5 = .ok (.aload_n 0, 1) := by decide +kernel
theorem dX3_abjectTelling_6 : decode cX3_abjectTelling 6 = .ok (.iload_n 1, 1) := by decide +kernel
theorem dX3_abjectTelling_7 : decode cX3_abjectTelling 7 = .ok (.invokevirtual 185, 3) := by decide +kernel
theorem dX3_abjectTelling_10 : decode cX3_abjectTelling 10 = .ok (.istore_n 2, 1) := by decide +kernel
theorem dX3_abjectTelling_11 : decode cX3_abjectTelling 11 = .ok (.iload_n 2, 1) := by decide +kernel
theorem dX3_abjectTelling_12 : decode cX3_abjectTelling 12 = .ok (.aload_n 0, 1) := by decide +kernel
theorem dX3_abjectTelling_13 : decode cX3_abjectTelling 13 = .ok (.iload_n 1, 1) := by decide +kernel
theorem dX3_abjectTelling_14 : decode cX3_abjectTelling 14 = .ok (.invokevirtual 188, 3) := by decide +kernel
theorem dX3_abjectTelling_17 : decode cX3_abjectTelling 17 = .ok (.iadd, 1) := by decide +kernel
theorem dX3_abjectTelling_18 : decode cX3_abjectTelling 18 = .ok (.ireturn, 1) := by decide +kernel
set_option maxRecDepth 20000 in
theorem ggX3_lentGreeting_X3_leaveTrace : GoodIn wsX3_lentGreeting wsX3_leaveTrace := goodIn_r _ [5, 6, 7, 8, 9, 10, 11, 12, 13, 14, 15] (by decide +kernel) (by decide +kernel)
set_option maxRecDepth 20000 in
theorem gX3_lentGreeting_X3_leaveTrace : GoodIn wsX3_lentGreeting (wsV RX3 207 RX3 yX3_leaveTrace wsX3_leaveTrace) := goodIn_app (goodIn_of _ (by decide +kernel)) ggX3_lentGreeting_X3_leaveTrace
theorem dX3_lentGreeting_0 : decode cX3_lentGreeting 0 = .ok (.aload_n 0, 1) := by decide +kernel
theorem dX3_lentGreeting_1 : decode cX3_lentGreeting 1 = .ok (.iconst 4, 1) := by decide +kernel
theorem dX3_lentGreeting_2 : decode cX3_lentGreeting 2 = .ok (.invokevirtual 207, 3) := by decide +kernel
theorem dX3_lentGreeting_5 : decode cX3_lentGreeting 5 = .ok (.iload_n 1, 1) := by decide +kernel
theorem dX3_lentGreeting_6 : decode cX3_lentGreeting 6 = .ok (.ireturn, 1) := by decide +kernel
set_option maxRecDepth 20000 in
theorem ggX3_abjectGreeting_X3_leaveTrace : GoodIn wsX3_abjectGreeting wsX3_leaveTrace := goodIn_r _ [5, 6, 7, 8, 9, 10, 11, 12, 13, 14, 15] (by decide +kernel) (by decide +kernel)
set_option maxRecDepth 20000 in
theorem gX3_abjectGreeting_X3_leaveTrace : GoodIn wsX3_abjectGreeting (wsV RX3 207 RX3 yX3_leaveTrace wsX3_leaveTrace) := goodIn_app (goodIn_of _ (by decide +kernel)) ggX3_abjectGreeting_X3_leaveTrace
theorem dX3_abjectGreeting_0 : decode cX3_abjectGreeting 0 = .ok (.aload_n 0, 1) := by decide +kernel
theorem dX3_abjectGreeting_1 : decode cX3_abjectGreeting 1 = .ok (.iconst 5, 1) := by decide +kernel
theorem dX3_abjectGreeting_2 : decode cX3_abjectGreeting 2 = .ok (.invokevirtual 207, 3) := by decide +kernel
theorem dX3_abjectGreeting_5 : decode cX3_abjectGreeting 5 = .ok (.bipush 80, 2) := by decide +kernel
theorem dX3_abjectGreeting_7 : decode cX3_abjectGreeting 7 = .ok (.ireturn, 1) := by decide +kernel
theorem dX4_init_0 : decode cX4_init 0 = .ok (.aload_n 0, 1) := by decide +kernel
theorem dX4_init_1 : decode cX4_init 1 = .ok (.invokespecial 1, 3) := by decide +kernel
theorem dX4_init_4 : decode cX4_init 4 = .ok (.aload_n 0, 1) := by decide +kernel
theorem dX4_init_5 : decode cX4_init 5 = .ok (.iconst 4, 1) := by decide +kernel
theorem dX4_init_6 : decode cX4_init 6 = .ok (.newarray .int, 2) := by decide +kernel
theorem dX4_init_8 : decode cX4_init 8 = .ok (.dup, 1) := by decide +kernel
theorem dX4_init_9 : decode cX4_init 9 = .ok (.iconst 0, 1) := by decide +kernel
theorem dX4_init_10 : decode cX4_init 10 = .ok (.bipush (-9), 2) := by decide +kernel
theorem dX4_init_12 : decode cX4_init 12 = .ok (.iastore, 1) := by decide +kernel
theorem dX4_init_13 : decode cX4_init 13 = .ok (.dup, 1) := by decide +kernel
theorem dX4_init_14 : decode cX4_init 14 = .ok (.iconst 1, 1) := by decide +kernel
theorem dX4_init_15 : decode cX4_init 15 = .ok (.bipush (-9), 2) := by decide +kernel
theorem dX4_init_17 : decode cX4_init 17 = .ok (.iastore, 1) := by decide +kernel
theorem dX4_init_18 : decode cX4_init 18 = .ok (.dup, 1) := by decide +kernel
theorem dX4_init_19 : decode cX4_init 19 = .ok (.iconst 2, 1) := by decide +kernel
theorem dX4_init_20 : decode cX4_init 20 = .ok (.bipush (-9), 2) := by decide +kernel
theorem dX4_init_22 : decode cX4_init 22 = .ok (.iastore, 1) := by decide +kernel
theorem dX4_init_23 : decode cX4_init 23 = .ok (.dup, 1) := by decide +kernel
theorem dX4_init_24 : decode cX4_init 24 = .ok (.iconst 3, 1) := by decide +kernel
theorem dX4_init_25 : decode cX4_init 25 = .ok (.bipush (-9), 2) := by decide +kernel
theorem dX4_init_27 : decode cX4_init 27 = .ok (.iastore, 1) := by decide +kernel
theorem dX4_init_28 : decode cX4_init 28 = .ok (.putfield 9, 3) := by decide +kernel
theorem dX4_init_31 : decode cX4_init 31 = .ok (.aload_n 0, 1) := by decide +kernel
theorem dX4_init_32 : decode cX4_init 32 = .ok (.iconst 4, 1) := by decide +kernel
theorem dX4_init_33 : decode cX4_init 33 = .ok (.newarray .int, 2) := by decide +kernel
theorem dX4_init_35 : decode cX4_init 35 = .ok (.putfield 13, 3) := by decide +kernel
theorem dX4_init_38 : decode cX4_init 38 = .ok (.aload_n 0, 1) := by decide +kernel
theorem dX4_init_39 : decode cX4_init 39 = .ok (.sipush 240, 3) := by decide +kernel
theorem dX4_init_42 : decode cX4_init 42 = .ok (.newarray .int, 2) := by decide +kernel
theorem dX4_init_44 : decode cX4_init 44 = .ok (.putfield 16, 3) := by decide +kernel
theorem dX4_init_47 : decode cX4_init 47 = .ok (.aload_n 0, 1) := by decide +kernel
theorem dX4_init_48 : decode cX4_init 48 = .ok (.bipush 6, 2) := by decide +kernel
theorem dX4_init_50 : decode cX4_init 50 = .ok (.newarray .int, 2) := by decide +kernel
theorem dX4_init_52 : decode cX4_init 52 = .ok (.putfield 19, 3) := by decide +kernel
theorem dX4_init_55 : decode cX4_init 55 = .ok (.aload_n 0, 1) := by decide +kernel
theorem dX4_init_56 : decode cX4_init 56 = .ok (.iconst 4, 1) := by decide +kernel
theorem dX4_init_57 : decode cX4_init 57 = .ok (.newarray .int, 2) := by decide +kernel
theorem dX4_init_59 : decode cX4_init 59 = .ok (.putfield 22, 3) := by decide +kernel
theorem dX4_init_62 : decode cX4_init 62 = .ok (.aload_n 0, 1) := by decide +kernel
theorem dX4_init_63 : decode cX4_init 63 = .ok (.iconst 4, 1) := by decide +kernel
theorem dX4_init_64 : decode cX4_init 64 = .ok (.newarray .int, 2) := by decide +kernel
theorem dX4_init_66 : decode cX4_init 66 = .ok (.putfield 25, 3) := by decide +kernel
theorem dX4_init_69 : decode cX4_init 69 = .ok (.aload_n 0, 1) := by decide +kernel
theorem dX4_init_70 : decode cX4_init 70 = .ok (.iconst 4, 1) := by decide +kernel
theorem dX4_init_71 : decode cX4_init 71 = .ok (.newarray .int, 2) := by decide +kernel
theorem dX4_init_73 : decode cX4_init 73 = .ok (.putfield 28, 3) := by decide +kernel
theorem dX4_init_76 : decode cX4_init 76 = .ok (.aload_n 0, 1) := by decide +kernel
theorem dX4_init_77 : decode cX4_init 77 = .ok (.iconst 4, 1) := by decide +kernel
theorem dX4_init_78 : decode cX4_init 78 = .ok (.newarray .int, 2) := by decide +kernel
theorem dX4_init_80 : decode cX4_init 80 = .ok (.putfield 31, 3) := by decide +kernel
theorem dX4_init_83 : decode cX4_init 83 = .ok (.aload_n 0, 1) := by decide +kernel
theorem dX4_init_84 : decode cX4_init 84 = .ok (.bipush 6, 2) := by decide +kernel
theorem dX4_init_86 : decode cX4_init 86 = .ok (.newarray .int, 2) := by decide +kernel
theorem dX4_init_88 : decode cX4_init 88 = .ok (.putfield 34, 3) := by decide +kernel
theorem dX4_init_91 : decode cX4_init 91 = .ok (.aload_n 0, 1) := by decide +kernel
theorem dX4_init_92 : decode cX4_init 92 = .ok (.bipush 12, 2) := by decide +kernel
theorem dX4_init_94 : decode cX4_init 94 = .ok (.newarray .int, 2) := by decide +kernel
theorem dX4_init_96 : decode cX4_init 96 = .ok (.putfield 37, 3) := by decide +kernel
theorem dX4_init_99 : decode cX4_init 99 = .ok (.aload_n 0, 1) := by decide +kernel
theorem dX4_init_100 : decode cX4_init 100 = .ok (.iconst 4, 1) := by decide +kernel
theorem dX4_init_101 : decode cX4_init 101 = .ok (.newarray .int, 2) := by decide +kernel
theorem dX4_init_103 : decode cX4_init 103 = .ok (.putfield 40, 3) := by decide +kernel
theorem dX4_init_106 : decode cX4_init 106 = .ok (.aload_n 0, 1) := by decide +kernel
theorem dX4_init_107 : decode cX4_init 107 = .ok (.bipush 20, 2) := by decide +kernel
theorem dX4_init_109 : decode cX4_init 109 = .ok (.newarray .int, 2) := by decide +kernel
theorem dX4_init_111 : decode cX4_init 111 = .ok (.putfield 43, 3) := by decide +kernel
theorem dX4_init_114 : decode cX4_init 114 = .ok (.aload_n 0, 1) := by decide +kernel
theorem dX4_init_115 : decode cX4_init 115 = .ok (.bipush 20, 2) := by decide +kernel
theorem dX4_init_117 : decode cX4_init 117 = .ok (.newarray .int, 2) := by decide +kernel
theorem dX4_init_119 : decode cX4_init 119 = .ok (.putfield 46, 3) := by decide +kernel
theorem dX4_init_122 : decode cX4_init 122 = .ok (.aload_n 0, 1) := by decide +kernel
theorem dX4_init_123 : decode cX4_init 123 = .ok (.bipush 8, 2) := by decide +kernel
theorem dX4_init_125 : decode cX4_init 125 = .ok (.newarray .int, 2) := by decide +kernel
theorem dX4_init_127 : decode cX4_init 127 = .ok (.putfield 49, 3) := by decide +kernel
theorem dX4_init_130 : decode cX4_init 130 = .ok (.aload_n 0, 1) := by decide +kernel
theorem dX4_init_131 : decode cX4_init 131 = .ok (.bipush 8, 2) := by decide +kernel
theorem dX4_init_133 : decode cX4_init 133 = .ok (.newarray .int, 2) := by decide +kernel
theorem dX4_init_135 : decode cX4_init 135 = .ok (.putfield 52, 3) := by decide +kernel
theorem dX4_init_138 : decode cX4_init 138 = .ok (.return_, 1) := by decide +kernel
theorem dX4_fails_0 : decode cX4_fails 0 = .ok (.aload_n 0, 1) := by decide +kernel
theorem dX4_fails_1 : decode cX4_fails 1 = .ok (.iload_n 1, 1) := by decide +kernel
theorem dX4_fails_2 : decode cX4_fails 2 = .ok (.putfield 55, 3) := by decide +kernel
theorem dX4_fails_5 : decode cX4_fails 5 = .ok (.bipush (-10), 2) := by decide +kernel
theorem dX4_fails_7 : decode cX4_fails 7 = .ok (.iload_n 1, 1) := by decide +kernel
theorem dX4_fails_8 : decode cX4_fails 8 = .ok (.isub, 1) := by decide +kernel
theorem dX4_fails_9 : decode cX4_fails 9 = .ok (.ireturn, 1) := by decide +kernel
theorem dX4_lost_0 : decode cX4_lost 0 = .ok (.aload_n 0, 1) := by decide +kernel
theorem dX4_lost_1 : decode cX4_lost 1 = .ok (.iload_n 1, 1) := by decide +kernel
theorem dX4_lost_2 : decode cX4_lost 2 = .ok (.putfield 55, 3) := by decide +kernel
theorem dX4_lost_5 : decode cX4_lost 5 = .ok (.ldc2_w 59, 3) := by decide +kernel
theorem dX4_lost_8 : decode cX4_lost 8 = .ok (.lreturn, 1) := by decide +kernel
theorem dX4_within_0 : decode cX4_within 0 = .ok (.iload_n 0, 1) := by decide +kernel
theorem dX4_within_1 : decode cX4_within 1 = .ok (.iload_n 1, 1) := by decide +kernel
theorem dX4_within_2 : decode cX4_within 2 = .ok (.if_icmp .lt 12, 3) := by decide +kernel
theorem dX4_within_5 : decode cX4_within 5 = .ok (.iload_n 0, 1) := by decide +kernel
theorem dX4_within_6 : decode cX4_within 6 = .ok (.iload_n 2, 1) := by decide +kernel
theorem dX4_within_7 : decode cX4_within 7 = .ok (.if_icmp .gt 7, 3) := by decide +kernel
theorem dX4_within_10 : decode cX4_within 10 = .ok (.iconst 1, 1) := by decide +kernel
theorem dX4_within_11 : decode cX4_within 11 = .ok (.goto 4, 3) := by decide +kernel
theorem dX4_within_14 : decode cX4_within 14 = .ok (.iconst 0, 1) := by decide +kernel
theorem dX4_within_15 : decode cX4_within 15 = .ok (.ireturn, 1) := by decide +kernel
set_option maxRecDepth 20000 in
theorem ggX4_isSheet_X4_within : GoodIn wsX4_isSheet wsX4_within := goodIn_r _ [4] (by decide +kernel) (by decide +kernel)
set_option maxRecDepth 20000 in
theorem gX4_isSheet_X4_within : GoodIn wsX4_isSheet (va_wsS RX4 61 yX4_within wsX4_within) := goodIn_app (goodIn_of _ (by decide +kernel)) ggX4_isSheet_X4_within
theorem dX4_isSheet_0 : decode cX4_isSheet 0 = .ok (.iload_n 0, 1) := by decide +kernel
theorem dX4_isSheet_1 : decode cX4_isSheet 1 = .ok (.iconst 0, 1) := by decide +kernel
theorem dX4_isSheet_2 : decode cX4_isSheet 2 = .ok (.iconst 3, 1) := by decide +kernel
theorem dX4_isSheet_3 : decode cX4_isSheet 3 = .ok (.invokestatic 61, 3) := by decide +kernel
theorem dX4_isSheet_6 : decode cX4_isSheet 6 = .ok (.ireturn, 1) := by decide +kernel
set_option maxRecDepth 20000 in
theorem ggX4_isSort_X4_within : GoodIn wsX4_isSort wsX4_within := goodIn_r _ [4] (by decide +kernel) (by decide +kernel)
set_option maxRecDepth 20000 in
theorem gX4_isSort_X4_within : GoodIn wsX4_isSort (va_wsS RX4 61 yX4_within wsX4_within) := goodIn_app (goodIn_of _ (by decide +kernel)) ggX4_isSort_X4_within
theorem dX4_isSort_0 : decode cX4_isSort 0 = .ok (.iload_n 0, 1) := by decide +kernel
theorem dX4_isSort_1 : decode cX4_isSort 1 = .ok (.iconst 0, 1) := by decide +kernel
theorem dX4_isSort_2 : decode cX4_isSort 2 = .ok (.iconst 2, 1) := by decide +kernel
theorem dX4_isSort_3 : decode cX4_isSort 3 = .ok (.invokestatic 61, 3) := by decide +kernel
theorem dX4_isSort_6 : decode cX4_isSort 6 = .ok (.ireturn, 1) := by decide +kernel
theorem dX4_against_0 : decode cX4_against 0 = .ok (.aload_n 0, 1) := by decide +kernel
theorem dX4_against_1 : decode cX4_against 1 = .ok (.getfield 9, 3) := by decide +kernel
theorem dX4_against_4 : decode cX4_against 4 = .ok (.iload_n 1, 1) := by decide +kernel
theorem dX4_against_5 : decode cX4_against 5 = .ok (.iaload, 1) := by decide +kernel
theorem dX4_against_6 : decode cX4_against 6 = .ok (.bipush (-9), 2) := by decide +kernel
theorem dX4_against_8 : decode cX4_against 8 = .ok (.if_icmp .eq 15, 3) := by decide +kernel
theorem dX4_against_11 : decode cX4_against 11 = .ok (.aload_n 0, 1) := by decide +kernel
theorem dX4_against_12 : decode cX4_against 12 = .ok (.getfield 9, 3) := by decide +kernel
theorem dX4_against_15 : decode cX4_against 15 = .ok (.iload_n 1, 1) := by decide +kernel
theorem dX4_against_16 : decode cX4_against 16 = .ok (.iaload, 1) := by decide +kernel
theorem dX4_against_17 : decode cX4_against 17 = .ok (.iload_n 2, 1) := by decide +kernel
theorem dX4_against_18 : decode cX4_against 18 = .ok (.if_icmp .eq 5, 3) := by decide +kernel
theorem dX4_against_21 : decode cX4_against 21 = .ok (.iconst 2, 1) := by decide +kernel
theorem dX4_against_22 : decode cX4_against 22 = .ok (.ireturn, 1) := by decide +kernel
theorem dX4_against_23 : decode cX4_against 23 = .ok (.aload_n 0, 1) := by decide +kernel
theorem dX4_against_24 : decode cX4_against 24 = .ok (.getfield 9, 3) := by decide +kernel
theorem dX4_against_27 : decode cX4_against 27 = .ok (.iload_n 1, 1) := by decide +kernel
theorem dX4_against_28 : decode cX4_against 28 = .ok (.iaload, 1) := by decide +kernel
theorem dX4_against_29 : decode cX4_against 29 = .ok (.bipush (-9), 2) := by decide +kernel
theorem dX4_against_31 : decode cX4_against 31 = .ok (.if_icmp .ne 5, 3) := by decide +kernel
theorem dX4_against_34 : decode cX4_against 34 = .ok (.iconst 1, 1) := by decide +kernel
theorem dX4_against_35 : decode cX4_against 35 = .ok (.ireturn, 1) := by decide +kernel
theorem dX4_against_36 : decode cX4_against 36 = .ok (.iload 4, 2) := by decide +kernel
theorem dX4_against_38 : decode cX4_against 38 = .ok (.ifCond .ge 5, 3) := by decide +kernel
theorem dX4_against_41 : decode cX4_against 41 = .ok (.iconst 4, 1) := by decide +kernel
theorem dX4_against_42 : decode cX4_against 42 = .ok (.ireturn, 1) := by decide +kernel
theorem dX4_against_43 : decode cX4_against 43 = .ok (.iload_n 3, 1) := by decide +kernel
theorem dX4_against_44 : decode cX4_against 44 = .ok (.ifCond .lt 26, 3) := by decide +kernel
theorem dX4_against_47 : decode cX4_against 47 = .ok (.iload_n 3, 1) := by decide +kernel
theorem dX4_against_48 : decode cX4_against 48 = .ok (.aload_n 0, 1) := by decide +kernel
theorem dX4_against_49 : decode cX4_against 49 = .ok (.getfield 13, 3) := by decide +kernel
theorem dX4_against_52 : decode cX4_against 52 = .ok (.iload_n 1, 1) := by decide +kernel
theorem dX4_against_53 : decode cX4_against 53 = .ok (.iaload, 1) := by decide +kernel
theorem dX4_against_54 : decode cX4_against 54 = .ok (.if_icmp .gt 16, 3) := by decide +kernel
theorem dX4_against_57 : decode cX4_against 57 = .ok (.iload 4, 2) := by decide +kernel
theorem dX4_against_59 : decode cX4_against 59 = .ok (.aload_n 0, 1) := by decide +kernel
theorem dX4_against_60 : decode cX4_against 60 = .ok (.getfield 13, 3) := by decide +kernel
theorem dX4_against_63 : decode cX4_against 63 = .ok (.iload_n 1, 1) := by decide +kernel
theorem dX4_against_64 : decode cX4_against 64 = .ok (.iaload, 1) := by decide +kernel
theorem dX4_against_65 : decode cX4_against 65 = .ok (.iload_n 3, 1) := by decide +kernel
theorem dX4_against_66 : decode cX4_against 66 = .ok (.isub, 1) := by decide +kernel
theorem dX4_against_67 : decode cX4_against 67 = .ok (.if_icmp .le 7, 3) := by decide +kernel
theorem dX4_against_70 : decode cX4_against 70 = .ok (.iconst 3, 1) := by decide +kernel
theorem dX4_against_71 : decode cX4_against 71 = .ok (.goto 4, 3) := by decide +kernel
theorem dX4_against_74 : decode cX4_against 74 = .ok (.iconst 0, 1) := by decide +kernel
theorem dX4_against_75 : decode cX4_against 75 = .ok (.ireturn, 1) := by decide +kernel
theorem dX4_isDeed_0 : decode cX4_isDeed 0 = .ok (.iload_n 1, 1) := by decide +kernel
theorem dX4_isDeed_1 : decode cX4_isDeed 1 = .ok (.ifCond .lt 15, 3) := by decide +kernel
theorem dX4_isDeed_4 : decode cX4_isDeed 4 = .ok (.iload_n 1, 1) := by decide +kernel
theorem dX4_isDeed_5 : decode cX4_isDeed 5 = .ok (.aload_n 0, 1) := by decide +kernel
theorem dX4_isDeed_6 : decode cX4_isDeed 6 = .ok (.getfield 65, 3) := by decide +kernel
theorem dX4_isDeed_9 : decode cX4_isDeed 9 = .ok (.if_icmp .ge 7, 3) := by decide +kernel
theorem dX4_isDeed_12 : decode cX4_isDeed 12 = .ok (.iconst 1, 1) := by decide +kernel
theorem dX4_isDeed_13 : decode cX4_isDeed 13 = .ok (.goto 4, 3) := by decide +kernel
theorem dX4_isDeed_16 : decode cX4_isDeed 16 = .ok (.iconst 0, 1) := by decide +kernel
theorem dX4_isDeed_17 : decode cX4_isDeed 17 = .ok (.ireturn, 1) := by decide +kernel
theorem dX4_isPerson_0 : decode cX4_isPerson 0 = .ok (.iload_n 1, 1) := by decide +kernel
theorem dX4_isPerson_1 : decode cX4_isPerson 1 = .ok (.ifCond .lt 15, 3) := by decide +kernel
theorem dX4_isPerson_4 : decode cX4_isPerson 4 = .ok (.iload_n 1, 1) := by decide +kernel
theorem dX4_isPerson_5 : decode cX4_isPerson 5 = .ok (.aload_n 0, 1) := by decide +kernel
theorem dX4_isPerson_6 : decode cX4_isPerson 6 = .ok (.getfield 68, 3) := by decide +kernel
theorem dX4_isPerson_9 : decode cX4_isPerson 9 = .ok (.if_icmp .ge 7, 3) := by decide +kernel
theorem dX4_isPerson_12 : decode cX4_isPerson 12 = .ok (.iconst 1, 1) := by decide +kernel
theorem dX4_isPerson_13 : decode cX4_isPerson 13 = .ok (.goto 4, 3) := by decide +kernel
theorem dX4_isPerson_16 : decode cX4_isPerson 16 = .ok (.iconst 0, 1) := by decide +kernel
theorem dX4_isPerson_17 : decode cX4_isPerson 17 = .ok (.ireturn, 1) := by decide +kernel
set_option maxRecDepth 20000 in
theorem ggX4_digit_X4_within : GoodIn wsX4_digit wsX4_within := goodIn_r _ [6] (by decide +kernel) (by decide +kernel)
set_option maxRecDepth 20000 in
theorem gX4_digit_X4_within : GoodIn wsX4_digit (va_wsS RX4 61 yX4_within wsX4_within) := goodIn_app (goodIn_of _ (by decide +kernel)) ggX4_digit_X4_within
theorem dX4_digit_0 : decode cX4_digit 0 = .ok (.aload_n 0, 1) := by decide +kernel
theorem dX4_digit_1 : decode cX4_digit 1 = .ok (.getfield 71, 3) := by decide +kernel
theorem dX4_digit_4 : decode cX4_digit 4 = .ok (.iload_n 1, 1) := by decide +kernel
theorem dX4_digit_5 : decode cX4_digit 5 = .ok (.if_icmp .ge 26, 3) := by decide +kernel
theorem dX4_digit_8 : decode cX4_digit 8 = .ok (.aload_n 0, 1) := by decide +kernel
theorem dX4_digit_9 : decode cX4_digit 9 = .ok (.getfield 16, 3) := by decide +kernel
theorem dX4_digit_12 : decode cX4_digit 12 = .ok (.aload_n 0, 1) := by decide +kernel
theorem dX4_digit_13 : decode cX4_digit 13 = .ok (.getfield 71, 3) := by decide +kernel
theorem dX4_digit_16 : decode cX4_digit 16 = .ok (.iaload, 1) := by decide +kernel
theorem dX4_digit_17 : decode cX4_digit 17 = .ok (.bipush 48, 2) := by decide +kernel
theorem dX4_digit_19 : decode cX4_digit 19 = .ok (.iload_n 2, 1) := by decide +kernel
theorem dX4_digit_20 : decode cX4_digit 20 = .ok (.iadd, 1) := by decide +kernel
theorem dX4_digit_21 : decode cX4_digit 21 = .ok (.bipush 48, 2) := by decide +kernel
theorem dX4_digit_23 : decode cX4_digit 23 = .ok (.iload_n 3, 1) := by decide +kernel
theorem dX4_digit_24 : decode cX4_digit 24 = .ok (.iadd, 1) := by decide +kernel
theorem dX4_digit_25 : decode cX4_digit 25 = .ok (.invokestatic 61, 3) := by decide +kernel
theorem dX4_digit_28 : decode cX4_digit 28 = .ok (.ifCond .ne 6, 3) := by decide +kernel
theorem dX4_digit_31 : decode cX4_digit 31 = .ok (.bipush (-9), 2) := by decide +kernel
theorem dX4_digit_33 : decode cX4_digit 33 = .ok (.ireturn, 1) := by decide +kernel
theorem dX4_digit_34 : decode cX4_digit 34 = .ok (.aload_n 0, 1) := by decide +kernel
theorem dX4_digit_35 : decode cX4_digit 35 = .ok (.dup, 1) := by decide +kernel
theorem dX4_digit_36 : decode cX4_digit 36 = .ok (.getfield 71, 3) := by decide +kernel
theorem dX4_digit_39 : decode cX4_digit 39 = .ok (.iconst 1, 1) := by decide +kernel
theorem dX4_digit_40 : decode cX4_digit 40 = .ok (.iadd, 1) := by decide +kernel
theorem dX4_digit_41 : decode cX4_digit 41 = .ok (.putfield 71, 3) := by decide +kernel
theorem dX4_digit_44 : decode cX4_digit 44 = .ok (.aload_n 0, 1) := by decide +kernel
theorem dX4_digit_45 : decode cX4_digit 45 = .ok (.getfield 16, 3) := by decide +kernel
theorem dX4_digit_48 : decode cX4_digit 48 = .ok (.aload_n 0, 1) := by decide +kernel
theorem dX4_digit_49 : decode cX4_digit 49 = .ok (.getfield 71, 3) := by decide +kernel
theorem dX4_digit_52 : decode cX4_digit 52 = .ok (.iconst 1, 1) := by decide +kernel
theorem dX4_digit_53 : decode cX4_digit 53 = .ok (.isub, 1) := by decide +kernel
theorem dX4_digit_54 : decode cX4_digit 54 = .ok (.iaload, 1) := by decide +kernel
theorem dX4_digit_55 : decode cX4_digit 55 = .ok (.bipush 48, 2) := by decide +kernel
theorem dX4_digit_57 : decode cX4_digit 57 = .ok (.isub, 1) := by decide +kernel
theorem dX4_digit_58 : decode cX4_digit 58 = .ok (.ireturn, 1) := by decide +kernel
theorem dX4_isSign_0 : decode cX4_isSign 0 = .ok (.aload_n 0, 1) := by decide +kernel
theorem dX4_isSign_1 : decode cX4_isSign 1 = .ok (.getfield 71, 3) := by decide +kernel
theorem dX4_isSign_4 : decode cX4_isSign 4 = .ok (.iload_n 1, 1) := by decide +kernel
theorem dX4_isSign_5 : decode cX4_isSign 5 = .ok (.if_icmp .ge 16, 3) := by decide +kernel
theorem dX4_isSign_8 : decode cX4_isSign 8 = .ok (.aload_n 0, 1) := by decide +kernel
theorem dX4_isSign_9 : decode cX4_isSign 9 = .ok (.getfield 16, 3) := by decide +kernel
theorem dX4_isSign_12 : decode cX4_isSign 12 = .ok (.aload_n 0, 1) := by decide +kernel
theorem dX4_isSign_13 : decode cX4_isSign 13 = .ok (.getfield 71, 3) := by decide +kernel
theorem dX4_isSign_16 : decode cX4_isSign 16 = .ok (.iaload, 1) := by decide +kernel
theorem dX4_isSign_17 : decode cX4_isSign 17 = .ok (.iload_n 2, 1) := by decide +kernel
theorem dX4_isSign_18 : decode cX4_isSign 18 = .ok (.if_icmp .eq 5, 3) := by decide +kernel
theorem dX4_isSign_21 : decode cX4_isSign 21 = .ok (.iconst 0, 1) := by decide +kernel
theorem dX4_isSign_22 : decode cX4_isSign 22 = .ok (.ireturn, 1) := by decide +kernel
theorem dX4_isSign_23 : decode cX4_isSign 23 = .ok (.aload_n 0, 1) := by decide +kernel
theorem dX4_isSign_24 : decode cX4_isSign 24 = .ok (.dup, 1) := by decide +kernel
theorem dX4_isSign_25 : decode cX4_isSign 25 = .ok (.getfield 71, 3) := by decide +kernel
theorem dX4_isSign_28 : decode cX4_isSign 28 = .ok (.iconst 1, 1) := by decide +kernel
theorem dX4_isSign_29 : decode cX4_isSign 29 = .ok (.iadd, 1) := by decide +kernel
theorem dX4_isSign_30 : decode cX4_isSign 30 = .ok (.putfield 71, 3) := by decide +kernel
theorem dX4_isSign_33 : decode cX4_isSign 33 = .ok (.iconst 1, 1) := by decide +kernel
theorem dX4_isSign_34 : decode cX4_isSign 34 = .ok (.ireturn, 1) := by decide +kernel
set_option maxRecDepth 20000 in
theorem ggX4_tower_X4_isSheet : GoodIn wsX4_tower wsX4_isSheet := goodIn_r _ [7, 8, 9, 6, 10] (by decide +kernel) (by decide +kernel)
set_option maxRecDepth 20000 in
theorem gX4_tower_X4_isSheet : GoodIn wsX4_tower (va_wsS RX4 74 yX4_isSheet wsX4_isSheet) := goodIn_app (goodIn_of _ (by decide +kernel)) ggX4_tower_X4_isSheet
set_option maxRecDepth 20000 in
theorem ggX4_tower_X4_isSort : GoodIn wsX4_tower wsX4_isSort := goodIn_r _ [13, 8, 9, 6, 10] (by decide +kernel) (by decide +kernel)
set_option maxRecDepth 20000 in
theorem gX4_tower_X4_isSort : GoodIn wsX4_tower (va_wsS RX4 78 yX4_isSort wsX4_isSort) := goodIn_app (goodIn_of _ (by decide +kernel)) ggX4_tower_X4_isSort
set_option maxRecDepth 20000 in
theorem ggX4_tower_X4_against : GoodIn wsX4_tower wsX4_against := goodIn_r _ [17, 18, 19, 60, 61, 62, 63, 64, 65, 66, 67, 68, 69, 70, 71, 72, 73, 74, 75, 76, 77, 78, 79, 80, 81, 82, 83, 84] (by decide +kernel) (by decide +kernel)
set_option maxRecDepth 20000 in
theorem gX4_tower_X4_against : GoodIn wsX4_tower (wsV RX4 81 RX4 yX4_against wsX4_against) := goodIn_app (goodIn_of _ (by decide +kernel)) ggX4_tower_X4_against
set_option maxRecDepth 20000 in
theorem ggX4_tower_X4_fails : GoodIn wsX4_tower wsX4_fails := goodIn_r _ [23, 1, 60, 61, 62, 63, 64, 65, 66, 67, 68, 69, 70, 71, 72, 73, 74, 75, 76, 77, 78, 79, 80, 81, 82, 83, 84] (by decide +kernel) (by decide +kernel)
set_option maxRecDepth 20000 in
theorem gX4_tower_X4_fails : GoodIn wsX4_tower (wsV RX4 85 RX4 yX4_fails wsX4_fails) := goodIn_app (goodIn_of _ (by decide +kernel)) ggX4_tower_X4_fails
set_option maxRecDepth 20000 in
theorem ggX4_tower_X4_readTower : GoodIn wsX4_tower wsX4_readTower := goodIn_r _ [27, 28, 29, 2, 30, 31, 32, 6, 33, 34, 35, 36, 37, 38, 39, 40, 41, 42, 43, 8, 9, 10, 44, 45, 46, 47, 48, 60, 61, 62, 63, 64, 65, 66, 67, 68, 69, 70, 71, 72, 73, 74, 75, 76, 77, 78, 79, 80, 81, 82, 83, 84] (by decide +kernel) (by decide +kernel)
set_option maxRecDepth 20000 in
theorem gX4_tower_X4_readTower : GoodIn wsX4_tower (wsV RX4 89 RX4 yX4_readTower wsX4_readTower) := goodIn_app (goodIn_of _ (by decide +kernel)) ggX4_tower_X4_readTower
set_option maxRecDepth 20000 in
theorem ggX4_tower_X4_takeTower : GoodIn wsX4_tower wsX4_takeTower := goodIn_r _ [52, 28, 53, 54, 39, 29, 3, 55, 48, 56, 57, 58, 59, 60, 61, 62, 63, 64, 65, 66, 67, 68, 69, 70, 71, 72, 73, 74, 75, 76, 77, 78, 79, 80, 81, 82, 83, 84] (by decide +kernel) (by decide +kernel)
set_option maxRecDepth 20000 in
theorem gX4_tower_X4_takeTower : GoodIn wsX4_tower (wsV RX4 92 RX4 yX4_takeTower wsX4_takeTower) := goodIn_app (goodIn_of _ (by decide +kernel)) ggX4_tower_X4_takeTower
theorem dX4_tower_0 : decode cX4_tower 0 = .ok (.aload_n 0, 1) := by decide +kernel
theorem dX4_tower_1 : decode cX4_tower 1 = .ok (.iconst 0, 1) := by decide +kernel
theorem dX4_tower_2 : decode cX4_tower 2 = .ok (.putfield 55, 3) := by decide +kernel
theorem dX4_tower_5 : decode cX4_tower 5 = .ok (.iload_n 1, 1) := by decide +kernel
theorem dX4_tower_6 : decode cX4_tower 6 = .ok (.invokestatic 74, 3) := by decide +kernel
theorem dX4_tower_9 : decode cX4_tower 9 = .ok (.ifCond .ne 5, 3) := by decide +kernel
theorem dX4_tower_12 : decode cX4_tower 12 = .ok (.iconst (-1), 1) := by decide +kernel
theorem dX4_tower_13 : decode cX4_tower 13 = .ok (.ireturn, 1) := by decide +kernel
theorem dX4_tower_14 : decode cX4_tower 14 = .ok (.iload_n 2, 1) := by decide +kernel
theorem dX4_tower_15 : decode cX4_tower 15 = .ok (.invokestatic 78, 3) := by decide +kernel
theorem dX4_tower_18 : decode cX4_tower 18 = .ok (.ifCond .ne 6, 3) := by decide +kernel
theorem dX4_tower_21 : decode cX4_tower 21 = .ok (.bipush (-2), 2) := by decide +kernel
theorem dX4_tower_23 : decode cX4_tower 23 = .ok (.ireturn, 1) := by decide +kernel
theorem dX4_tower_24 : decode cX4_tower 24 = .ok (.aload_n 0, 1) := by decide +kernel
theorem dX4_tower_25 : decode cX4_tower 25 = .ok (.iload_n 1, 1) := by decide +kernel
theorem dX4_tower_26 : decode cX4_tower 26 = .ok (.iload_n 2, 1) := by decide +kernel
theorem dX4_tower_27 : decode cX4_tower 27 = .ok (.iload_n 3, 1) := by decide +kernel
theorem dX4_tower_28 : decode cX4_tower 28 = .ok (.iload 4, 2) := by decide +kernel
theorem dX4_tower_30 : decode cX4_tower 30 = .ok (.invokevirtual 81, 3) := by decide +kernel
theorem dX4_tower_33 : decode cX4_tower 33 = .ok (.istore 5, 2) := by decide +kernel
theorem dX4_tower_35 : decode cX4_tower 35 = .ok (.iload 5, 2) := by decide +kernel
theorem dX4_tower_37 : decode cX4_tower 37 = .ok (.ifCond .eq 10, 3) := by decide +kernel
theorem dX4_tower_40 : decode cX4_tower 40 = .ok (.aload_n 0, 1) := by decide +kernel
theorem dX4_tower_41 : decode cX4_tower 41 = .ok (.iload 5, 2) := by decide +kernel
theorem dX4_tower_43 : decode cX4_tower 43 = .ok (.invokevirtual 85, 3) := by decide +kernel
theorem dX4_tower_46 : decode cX4_tower 46 = .ok (.ireturn, 1) := by decide +kernel
theorem dX4_tower_47 : decode cX4_tower 47 = .ok (.bipush 60, 2) := by decide +kernel
theorem dX4_tower_49 : decode cX4_tower 49 = .ok (.iload_n 1, 1) := by decide +kernel
theorem dX4_tower_50 : decode cX4_tower 50 = .ok (.imul, 1) := by decide +kernel
theorem dX4_tower_51 : decode cX4_tower 51 = .ok (.iload_n 3, 1) := by decide +kernel
theorem dX4_tower_52 : decode cX4_tower 52 = .ok (.iadd, 1) := by decide +kernel
theorem dX4_tower_53 : decode cX4_tower 53 = .ok (.istore 6, 2) := by decide +kernel
theorem dX4_tower_55 : decode cX4_tower 55 = .ok (.aload_n 0, 1) := by decide +kernel
theorem dX4_tower_56 : decode cX4_tower 56 = .ok (.iload 6, 2) := by decide +kernel
theorem dX4_tower_58 : decode cX4_tower 58 = .ok (.putfield 71, 3) := by decide +kernel
theorem dX4_tower_61 : decode cX4_tower 61 = .ok (.aload_n 0, 1) := by decide +kernel
theorem dX4_tower_62 : decode cX4_tower 62 = .ok (.iload 6, 2) := by decide +kernel
theorem dX4_tower_64 : decode cX4_tower 64 = .ok (.iload 4, 2) := by decide +kernel
theorem dX4_tower_66 : decode cX4_tower 66 = .ok (.iadd, 1) := by decide +kernel
theorem dX4_tower_67 : decode cX4_tower 67 = .ok (.invokevirtual 89, 3) := by decide +kernel
theorem dX4_tower_70 : decode cX4_tower 70 = .ok (.ifCond .ne 14, 3) := by decide +kernel
theorem dX4_tower_73 : decode cX4_tower 73 = .ok (.bipush (-100), 2) := by decide +kernel
theorem dX4_tower_75 : decode cX4_tower 75 = .ok (.aload_n 0, 1) := by decide +kernel
theorem dX4_tower_76 : decode cX4_tower 76 = .ok (.getfield 71, 3) := by decide +kernel
theorem dX4_tower_79 : decode cX4_tower 79 = .ok (.iload 6, 2) := by decide +kernel
theorem dX4_tower_81 : decode cX4_tower 81 = .ok (.isub, 1) := by decide +kernel
theorem dX4_tower_82 : decode cX4_tower 82 = .ok (.isub, 1) := by decide +kernel
theorem dX4_tower_83 : decode cX4_tower 83 = .ok (.ireturn, 1) := by decide +kernel
theorem dX4_tower_84 : decode cX4_tower 84 = .ok (.aload_n 0, 1) := by decide +kernel
theorem dX4_tower_85 : decode cX4_tower 85 = .ok (.invokevirtual 92, 3) := by decide +kernel
theorem dX4_tower_88 : decode cX4_tower 88 = .ok (.aload_n 0, 1) := by decide +kernel
theorem dX4_tower_89 : decode cX4_tower 89 = .ok (.getfield 68, 3) := by decide +kernel
theorem dX4_tower_92 : decode cX4_tower 92 = .ok (.ireturn, 1) := by decide +kernel
theorem dX4_takeTower_0 : decode cX4_takeTower 0 = .ok (.aload_n 0, 1) := by decide +kernel
theorem dX4_takeTower_1 : decode cX4_takeTower 1 = .ok (.aload_n 0, 1) := by decide +kernel
theorem dX4_takeTower_2 : decode cX4_takeTower 2 = .ok (.getfield 95, 3) := by decide +kernel
theorem dX4_takeTower_5 : decode cX4_takeTower 5 = .ok (.putfield 65, 3) := by decide +kernel
theorem dX4_takeTower_8 : decode cX4_takeTower 8 = .ok (.iconst 0, 1) := by decide +kernel
theorem dX4_takeTower_9 : decode cX4_takeTower 9 = .ok (.istore_n 1, 1) := by decide +kernel
theorem dX4_takeTower_10 : decode cX4_takeTower 10 = .ok (.iload_n 1, 1) := by decide +kernel
theorem dX4_takeTower_11 : decode cX4_takeTower 11 = .ok (.aload_n 0, 1) := by decide +kernel
theorem dX4_takeTower_12 : decode cX4_takeTower 12 = .ok (.getfield 65, 3) := by decide +kernel
theorem dX4_takeTower_15 : decode cX4_takeTower 15 = .ok (.if_icmp .ge 21, 3) := by decide +kernel
theorem dX4_takeTower_18 : decode cX4_takeTower 18 = .ok (.aload_n 0, 1) := by decide +kernel
theorem dX4_takeTower_19 : decode cX4_takeTower 19 = .ok (.getfield 19, 3) := by decide +kernel
theorem dX4_takeTower_22 : decode cX4_takeTower 22 = .ok (.iload_n 1, 1) := by decide +kernel
theorem dX4_takeTower_23 : decode cX4_takeTower 23 = .ok (.aload_n 0, 1) := by decide +kernel
theorem dX4_takeTower_24 : decode cX4_takeTower 24 = .ok (.getfield 34, 3) := by decide +kernel
theorem dX4_takeTower_27 : decode cX4_takeTower 27 = .ok (.iload_n 1, 1) := by decide +kernel
theorem dX4_takeTower_28 : decode cX4_takeTower 28 = .ok (.iaload, 1) := by decide +kernel
theorem dX4_takeTower_29 : decode cX4_takeTower 29 = .ok (.iastore, 1) := by decide +kernel
theorem dX4_takeTower_30 : decode cX4_takeTower 30 = .ok (.iinc 1 1, 3) := by decide +kernel
theorem dX4_takeTower_33 : decode cX4_takeTower 33 = .ok (.goto (-23), 3) := by decide +kernel
theorem dX4_takeTower_36 : decode cX4_takeTower 36 = .ok (.aload_n 0, 1) := by decide +kernel
theorem dX4_takeTower_37 : decode cX4_takeTower 37 = .ok (.aload_n 0, 1) := by decide +kernel
theorem dX4_takeTower_38 : decode cX4_takeTower 38 = .ok (.getfield 98, 3) := by decide +kernel
theorem dX4_takeTower_41 : decode cX4_takeTower 41 = .ok (.putfield 68, 3) := by decide +kernel
theorem dX4_takeTower_44 : decode cX4_takeTower 44 = .ok (.iconst 0, 1) := by decide +kernel
theorem dX4_takeTower_45 : decode cX4_takeTower 45 = .ok (.istore_n 1, 1) := by decide +kernel
theorem dX4_takeTower_46 : decode cX4_takeTower 46 = .ok (.iload_n 1, 1) := by decide +kernel
theorem dX4_takeTower_47 : decode cX4_takeTower 47 = .ok (.aload_n 0, 1) := by decide +kernel
theorem dX4_takeTower_48 : decode cX4_takeTower 48 = .ok (.getfield 68, 3) := by decide +kernel
theorem dX4_takeTower_51 : decode cX4_takeTower 51 = .ok (.if_icmp .ge 71, 3) := by decide +kernel
theorem dX4_takeTower_54 : decode cX4_takeTower 54 = .ok (.aload_n 0, 1) := by decide +kernel
theorem dX4_takeTower_55 : decode cX4_takeTower 55 = .ok (.getfield 22, 3) := by decide +kernel
theorem dX4_takeTower_58 : decode cX4_takeTower 58 = .ok (.iload_n 1, 1) := by decide +kernel
theorem dX4_takeTower_59 : decode cX4_takeTower 59 = .ok (.aload_n 0, 1) := by decide +kernel
theorem dX4_takeTower_60 : decode cX4_takeTower 60 = .ok (.getfield 37, 3) := by decide +kernel
theorem dX4_takeTower_63 : decode cX4_takeTower 63 = .ok (.iconst 3, 1) := by decide +kernel
theorem dX4_takeTower_64 : decode cX4_takeTower 64 = .ok (.iload_n 1, 1) := by decide +kernel
theorem dX4_takeTower_65 : decode cX4_takeTower 65 = .ok (.imul, 1) := by decide +kernel
theorem dX4_takeTower_66 : decode cX4_takeTower 66 = .ok (.iaload, 1) := by decide +kernel
theorem dX4_takeTower_67 : decode cX4_takeTower 67 = .ok (.iastore, 1) := by decide +kernel
theorem dX4_takeTower_68 : decode cX4_takeTower 68 = .ok (.aload_n 0, 1) := by decide +kernel
theorem dX4_takeTower_69 : decode cX4_takeTower 69 = .ok (.getfield 25, 3) := by decide +kernel
theorem dX4_takeTower_72 : decode cX4_takeTower 72 = .ok (.iload_n 1, 1) := by decide +kernel
theorem dX4_takeTower_73 : decode cX4_takeTower 73 = .ok (.aload_n 0, 1) := by decide +kernel
theorem dX4_takeTower_74 : decode cX4_takeTower 74 = .ok (.getfield 37, 3) := by decide +kernel
theorem dX4_takeTower_77 : decode cX4_takeTower 77 = .ok (.iconst 3, 1) := by decide +kernel
theorem dX4_takeTower_78 : decode cX4_takeTower 78 = .ok (.iload_n 1, 1) := by decide +kernel
theorem dX4_takeTower_79 : decode cX4_takeTower 79 = .ok (.imul, 1) := by decide +kernel
theorem dX4_takeTower_80 : decode cX4_takeTower 80 = .ok (.iconst 1, 1) := by decide +kernel
theorem dX4_takeTower_81 : decode cX4_takeTower 81 = .ok (.iadd, 1) := by decide +kernel
theorem dX4_takeTower_82 : decode cX4_takeTower 82 = .ok (.iaload, 1) := by decide +kernel
theorem dX4_takeTower_83 : decode cX4_takeTower 83 = .ok (.iconst 1, 1) := by decide +kernel
theorem dX4_takeTower_84 : decode cX4_takeTower 84 = .ok (.aload_n 0, 1) := by decide +kernel
theorem dX4_takeTower_85 : decode cX4_takeTower 85 = .ok (.getfield 65, 3) := by decide +kernel
theorem dX4_takeTower_88 : decode cX4_takeTower 88 = .ok (.ishl, 1) := by decide +kernel
theorem dX4_takeTower_89 : decode cX4_takeTower 89 = .ok (.iconst 1, 1) := by decide +kernel
theorem dX4_takeTower_90 : decode cX4_takeTower 90 = .ok (.isub, 1) := by decide +kernel
theorem dX4_takeTower_91 : decode cX4_takeTower 91 = .ok (.iand, 1) := by decide +kernel
theorem dX4_takeTower_92 : decode cX4_takeTower 92 = .ok (.iastore, 1) := by decide +kernel
theorem dX4_takeTower_93 : decode cX4_takeTower 93 = .ok (.aload_n 0, 1) := by decide +kernel
theorem dX4_takeTower_94 : decode cX4_takeTower 94 = .ok (.getfield 28, 3) := by decide +kernel
theorem dX4_takeTower_97 : decode cX4_takeTower 97 = .ok (.iload_n 1, 1) := by decide +kernel
theorem dX4_takeTower_98 : decode cX4_takeTower 98 = .ok (.aload_n 0, 1) := by decide +kernel
theorem dX4_takeTower_99 : decode cX4_takeTower 99 = .ok (.getfield 37, 3) := by decide +kernel
theorem dX4_takeTower_102 : decode cX4_takeTower 102 = .ok (.iconst 3, 1) := by decide +kernel
theorem dX4_takeTower_103 : decode cX4_takeTower 103 = .ok (.iload_n 1, 1) := by decide +kernel
theorem dX4_takeTower_104 : decode cX4_takeTower 104 = .ok (.imul, 1) := by decide +kernel
theorem dX4_takeTower_105 : decode cX4_takeTower 105 = .ok (.iconst 2, 1) := by decide +kernel
theorem dX4_takeTower_106 : decode cX4_takeTower 106 = .ok (.iadd, 1) := by decide +kernel
theorem dX4_takeTower_107 : decode cX4_takeTower 107 = .ok (.iaload, 1) := by decide +kernel
theorem dX4_takeTower_108 : decode cX4_takeTower 108 = .ok (.iastore, 1) := by decide +kernel
theorem dX4_takeTower_109 : decode cX4_takeTower 109 = .ok (.aload_n 0, 1) := by decide +kernel
theorem dX4_takeTower_110 : decode cX4_takeTower 110 = .ok (.getfield 31, 3) := by decide +kernel
theorem dX4_takeTower_113 : decode cX4_takeTower 113 = .ok (.iload_n 1, 1) := by decide +kernel
theorem dX4_takeTower_114 : decode cX4_takeTower 114 = .ok (.iconst 0, 1) := by decide +kernel
theorem dX4_takeTower_115 : decode cX4_takeTower 115 = .ok (.iastore, 1) := by decide +kernel
theorem dX4_takeTower_116 : decode cX4_takeTower 116 = .ok (.iinc 1 1, 3) := by decide +kernel
theorem dX4_takeTower_119 : decode cX4_takeTower 119 = .ok (.goto (-73), 3) := by decide +kernel
theorem dX4_takeTower_122 : decode cX4_takeTower 122 = .ok (.aload_n 0, 1) := by decide +kernel
theorem dX4_takeTower_123 : decode cX4_takeTower 123 = .ok (.iconst 0, 1) := by decide +kernel
theorem dX4_takeTower_124 : decode cX4_takeTower 124 = .ok (.putfield 101, 3) := by decide +kernel
theorem dX4_takeTower_127 : decode cX4_takeTower 127 = .ok (.return_, 1) := by decide +kernel
set_option maxRecDepth 20000 in
theorem ggX4_readTower_X4_isSign : GoodIn wsX4_readTower wsX4_isSign := goodIn_r _ [8, 3, 9, 27, 28, 29, 30, 31, 32, 33, 34, 35, 36, 37, 38, 39, 40, 41, 42, 43, 44, 45, 46, 47, 48, 49, 50, 51] (by decide +kernel) (by decide +kernel)
set_option maxRecDepth 20000 in
theorem gX4_readTower_X4_isSign : GoodIn wsX4_readTower (wsV RX4 104 RX4 yX4_isSign wsX4_isSign) := goodIn_app (goodIn_of _ (by decide +kernel)) ggX4_readTower_X4_isSign
set_option maxRecDepth 20000 in
theorem ggX4_readTower_X4_readDeed : GoodIn wsX4_readTower wsX4_readDeed := goodIn_r _ [13, 14, 1, 15, 16, 17, 7, 18, 3, 9, 19, 20, 21, 27, 28, 29, 30, 31, 32, 33, 34, 35, 36, 37, 38, 39, 40, 41, 42, 43, 44, 45, 46, 47, 48, 49, 50, 51] (by decide +kernel) (by decide +kernel)
set_option maxRecDepth 20000 in
theorem gX4_readTower_X4_readDeed : GoodIn wsX4_readTower (wsV RX4 108 RX4 yX4_readDeed wsX4_readDeed) := goodIn_app (goodIn_of _ (by decide +kernel)) ggX4_readTower_X4_readDeed
set_option maxRecDepth 20000 in
theorem ggX4_readTower_X4_readPerson : GoodIn wsX4_readTower wsX4_readPerson := goodIn_r _ [25, 2, 3, 9, 26, 15, 16, 17, 7, 18, 19, 20, 21, 27, 28, 29, 30, 31, 32, 33, 34, 35, 36, 37, 38, 39, 40, 41, 42, 43, 44, 45, 46, 47, 48, 49, 50, 51] (by decide +kernel) (by decide +kernel)
set_option maxRecDepth 20000 in
theorem gX4_readTower_X4_readPerson : GoodIn wsX4_readTower (wsV RX4 111 RX4 yX4_readPerson wsX4_readPerson) := goodIn_app (goodIn_of _ (by decide +kernel)) ggX4_readTower_X4_readPerson
theorem dX4_readTower_0 : decode cX4_readTower 0 = .ok (.aload_n 0, 1) := by decide +kernel
theorem dX4_readTower_1 : decode cX4_readTower 1 = .ok (.iconst 0, 1) := by decide +kernel
theorem dX4_readTower_2 : decode cX4_readTower 2 = .ok (.putfield 95, 3) := by decide +kernel
theorem dX4_readTower_5 : decode cX4_readTower 5 = .ok (.aload_n 0, 1) := by decide +kernel
theorem dX4_readTower_6 : decode cX4_readTower 6 = .ok (.iconst 0, 1) := by decide +kernel
theorem dX4_readTower_7 : decode cX4_readTower 7 = .ok (.putfield 98, 3) := by decide +kernel
theorem dX4_readTower_10 : decode cX4_readTower 10 = .ok (.aload_n 0, 1) := by decide +kernel
theorem dX4_readTower_11 : decode cX4_readTower 11 = .ok (.iload_n 1, 1) := by decide +kernel
theorem dX4_readTower_12 : decode cX4_readTower 12 = .ok (.bipush 117, 2) := by decide +kernel
theorem dX4_readTower_14 : decode cX4_readTower 14 = .ok (.invokevirtual 104, 3) := by decide +kernel
theorem dX4_readTower_17 : decode cX4_readTower 17 = .ok (.ifCond .ne 5, 3) := by decide +kernel
theorem dX4_readTower_20 : decode cX4_readTower 20 = .ok (.iconst 0, 1) := by decide +kernel
theorem dX4_readTower_21 : decode cX4_readTower 21 = .ok (.ireturn, 1) := by decide +kernel
theorem dX4_readTower_22 : decode cX4_readTower 22 = .ok (.aload_n 0, 1) := by decide +kernel
theorem dX4_readTower_23 : decode cX4_readTower 23 = .ok (.iload_n 1, 1) := by decide +kernel
theorem dX4_readTower_24 : decode cX4_readTower 24 = .ok (.bipush 45, 2) := by decide +kernel
theorem dX4_readTower_26 : decode cX4_readTower 26 = .ok (.invokevirtual 104, 3) := by decide +kernel
theorem dX4_readTower_29 : decode cX4_readTower 29 = .ok (.ifCond .eq 11, 3) := by decide +kernel
theorem dX4_readTower_32 : decode cX4_readTower 32 = .ok (.aload_n 0, 1) := by decide +kernel
theorem dX4_readTower_33 : decode cX4_readTower 33 = .ok (.iload_n 1, 1) := by decide +kernel
theorem dX4_readTower_34 : decode cX4_readTower 34 = .ok (.invokevirtual 108, 3) := by decide +kernel
theorem dX4_readTower_37 : decode cX4_readTower 37 = .ok (.ifCond .ne 5, 3) := by decide +kernel
theorem dX4_readTower_40 : decode cX4_readTower 40 = .ok (.iconst 0, 1) := by decide +kernel
theorem dX4_readTower_41 : decode cX4_readTower 41 = .ok (.ireturn, 1) := by decide +kernel
theorem dX4_readTower_42 : decode cX4_readTower 42 = .ok (.aload_n 0, 1) := by decide +kernel
theorem dX4_readTower_43 : decode cX4_readTower 43 = .ok (.getfield 95, 3) := by decide +kernel
theorem dX4_readTower_46 : decode cX4_readTower 46 = .ok (.bipush 6, 2) := by decide +kernel
theorem dX4_readTower_48 : decode cX4_readTower 48 = .ok (.if_icmp .ge 23, 3) := by decide +kernel
theorem dX4_readTower_51 : decode cX4_readTower 51 = .ok (.aload_n 0, 1) := by decide +kernel
theorem dX4_readTower_52 : decode cX4_readTower 52 = .ok (.iload_n 1, 1) := by decide +kernel
theorem dX4_readTower_53 : decode cX4_readTower 53 = .ok (.bipush 45, 2) := by decide +kernel
theorem dX4_readTower_55 : decode cX4_readTower 55 = .ok (.invokevirtual 104, 3) := by decide +kernel
theorem dX4_readTower_58 : decode cX4_readTower 58 = .ok (.ifCond .eq 13, 3) := by decide +kernel
theorem dX4_readTower_61 : decode cX4_readTower 61 = .ok (.aload_n 0, 1) := by decide +kernel
theorem dX4_readTower_62 : decode cX4_readTower 62 = .ok (.iload_n 1, 1) := by decide +kernel
theorem dX4_readTower_63 : decode cX4_readTower 63 = .ok (.invokevirtual 108, 3) := by decide +kernel
theorem dX4_readTower_66 : decode cX4_readTower 66 = .ok (.ifCond .ne (-24), 3) := by decide +kernel
theorem dX4_readTower_69 : decode cX4_readTower 69 = .ok (.iconst 0, 1) := by decide +kernel
theorem dX4_readTower_70 : decode cX4_readTower 70 = .ok (.ireturn, 1) := by decide +kernel
theorem dX4_readTower_71 : decode cX4_readTower 71 = .ok (.aload_n 0, 1) := by decide +kernel
theorem dX4_readTower_72 : decode cX4_readTower 72 = .ok (.getfield 98, 3) := by decide +kernel
theorem dX4_readTower_75 : decode cX4_readTower 75 = .ok (.ifCond .eq 19, 3) := by decide +kernel
theorem dX4_readTower_78 : decode cX4_readTower 78 = .ok (.aload_n 0, 1) := by decide +kernel
theorem dX4_readTower_79 : decode cX4_readTower 79 = .ok (.getfield 98, 3) := by decide +kernel
theorem dX4_readTower_82 : decode cX4_readTower 82 = .ok (.iconst 4, 1) := by decide +kernel
theorem dX4_readTower_83 : decode cX4_readTower 83 = .ok (.if_icmp .ge 31, 3) := by decide +kernel
theorem dX4_readTower_86 : decode cX4_readTower 86 = .ok (.aload_n 0, 1) := by decide +kernel
theorem dX4_readTower_87 : decode cX4_readTower 87 = .ok (.getfield 71, 3) := by decide +kernel
theorem dX4_readTower_90 : decode cX4_readTower 90 = .ok (.iload_n 1, 1) := by decide +kernel
theorem dX4_readTower_91 : decode cX4_readTower 91 = .ok (.if_icmp .ge 23, 3) := by decide +kernel
theorem dX4_readTower_94 : decode cX4_readTower 94 = .ok (.aload_n 0, 1) := by decide +kernel
theorem dX4_readTower_95 : decode cX4_readTower 95 = .ok (.iload_n 1, 1) := by decide +kernel
theorem dX4_readTower_96 : decode cX4_readTower 96 = .ok (.bipush 44, 2) := by decide +kernel
theorem dX4_readTower_98 : decode cX4_readTower 98 = .ok (.invokevirtual 104, 3) := by decide +kernel
theorem dX4_readTower_101 : decode cX4_readTower 101 = .ok (.ifCond .eq 11, 3) := by decide +kernel
theorem dX4_readTower_104 : decode cX4_readTower 104 = .ok (.aload_n 0, 1) := by decide +kernel
theorem dX4_readTower_105 : decode cX4_readTower 105 = .ok (.iload_n 1, 1) := by decide +kernel
theorem dX4_readTower_106 : decode cX4_readTower 106 = .ok (.invokevirtual 111, 3) := by decide +kernel
theorem dX4_readTower_109 : decode cX4_readTower 109 = .ok (.ifCond .ne (-38), 3) := by decide +kernel
theorem dX4_readTower_112 : decode cX4_readTower 112 = .ok (.iconst 0, 1) := by decide +kernel
theorem dX4_readTower_113 : decode cX4_readTower 113 = .ok (.ireturn, 1) := by decide +kernel
theorem dX4_readTower_114 : decode cX4_readTower 114 = .ok (.aload_n 0, 1) := by decide +kernel
theorem dX4_readTower_115 : decode cX4_readTower 115 = .ok (.getfield 71, 3) := by decide +kernel
theorem dX4_readTower_118 : decode cX4_readTower 118 = .ok (.iload_n 1, 1) := by decide +kernel
theorem dX4_readTower_119 : decode cX4_readTower 119 = .ok (.if_icmp .ne 7, 3) := by decide +kernel
theorem dX4_readTower_122 : decode cX4_readTower 122 = .ok (.iconst 1, 1) := by decide +kernel
theorem dX4_readTower_123 : decode cX4_readTower 123 = .ok (.goto 4, 3) := by decide +kernel
theorem dX4_readTower_126 : decode cX4_readTower 126 = .ok (.iconst 0, 1) := by decide +kernel
theorem dX4_readTower_127 : decode cX4_readTower 127 = .ok (.ireturn, 1) := by decide +kernel
set_option maxRecDepth 20000 in
theorem ggX4_readDeed_X4_digit : GoodIn wsX4_readDeed wsX4_digit := goodIn_r _ [7, 8, 9, 10, 11, 6, 12, 13, 14, 15, 16, 17, 18, 19, 20, 21, 22, 23, 24, 25, 26, 27, 28, 29, 30, 31, 32, 33, 34, 35, 36, 37] (by decide +kernel) (by decide +kernel)
set_option maxRecDepth 20000 in
theorem gX4_readDeed_X4_digit : GoodIn wsX4_readDeed (wsV RX4 114 RX4 yX4_digit wsX4_digit) := goodIn_app (goodIn_of _ (by decide +kernel)) ggX4_readDeed_X4_digit
theorem dX4_readDeed_0 : decode cX4_readDeed 0 = .ok (.aload_n 0, 1) := by decide +kernel
theorem dX4_readDeed_1 : decode cX4_readDeed 1 = .ok (.getfield 34, 3) := by decide +kernel
theorem dX4_readDeed_4 : decode cX4_readDeed 4 = .ok (.aload_n 0, 1) := by decide +kernel
theorem dX4_readDeed_5 : decode cX4_readDeed 5 = .ok (.getfield 95, 3) := by decide +kernel
theorem dX4_readDeed_8 : decode cX4_readDeed 8 = .ok (.aload_n 0, 1) := by decide +kernel
theorem dX4_readDeed_9 : decode cX4_readDeed 9 = .ok (.iload_n 1, 1) := by decide +kernel
theorem dX4_readDeed_10 : decode cX4_readDeed 10 = .ok (.iconst 1, 1) := by decide +kernel
theorem dX4_readDeed_11 : decode cX4_readDeed 11 = .ok (.bipush 9, 2) := by decide +kernel
theorem dX4_readDeed_13 : decode cX4_readDeed 13 = .ok (.invokevirtual 114, 3) := by decide +kernel
theorem dX4_readDeed_16 : decode cX4_readDeed 16 = .ok (.iastore, 1) := by decide +kernel
theorem dX4_readDeed_17 : decode cX4_readDeed 17 = .ok (.aload_n 0, 1) := by decide +kernel
theorem dX4_readDeed_18 : decode cX4_readDeed 18 = .ok (.dup, 1) := by decide +kernel
theorem dX4_readDeed_19 : decode cX4_readDeed 19 = .ok (.getfield 95, 3) := by decide +kernel
theorem dX4_readDeed_22 : decode cX4_readDeed 22 = .ok (.iconst 1, 1) := by decide +kernel
theorem dX4_readDeed_23 : decode cX4_readDeed 23 = .ok (.iadd, 1) := by decide +kernel
theorem dX4_readDeed_24 : decode cX4_readDeed 24 = .ok (.putfield 95, 3) := by decide +kernel
theorem dX4_readDeed_27 : decode cX4_readDeed 27 = .ok (.aload_n 0, 1) := by decide +kernel
theorem dX4_readDeed_28 : decode cX4_readDeed 28 = .ok (.getfield 34, 3) := by decide +kernel
theorem dX4_readDeed_31 : decode cX4_readDeed 31 = .ok (.aload_n 0, 1) := by decide +kernel
theorem dX4_readDeed_32 : decode cX4_readDeed 32 = .ok (.getfield 95, 3) := by decide +kernel
theorem dX4_readDeed_35 : decode cX4_readDeed 35 = .ok (.iconst 1, 1) := by decide +kernel
theorem dX4_readDeed_36 : decode cX4_readDeed 36 = .ok (.isub, 1) := by decide +kernel
theorem dX4_readDeed_37 : decode cX4_readDeed 37 = .ok (.iaload, 1) := by decide +kernel
theorem dX4_readDeed_38 : decode cX4_readDeed 38 = .ok (.bipush (-9), 2) := by decide +kernel
theorem dX4_readDeed_40 : decode cX4_readDeed 40 = .ok (.if_icmp .eq 7, 3) := by decide +kernel
theorem dX4_readDeed_43 : decode cX4_readDeed 43 = .ok (.iconst 1, 1) := by decide +kernel
theorem dX4_readDeed_44 : decode cX4_readDeed 44 = .ok (.goto 4, 3) := by decide +kernel
theorem dX4_readDeed_47 : decode cX4_readDeed 47 = .ok (.iconst 0, 1) := by decide +kernel
theorem dX4_readDeed_48 : decode cX4_readDeed 48 = .ok (.ireturn, 1) := by decide +kernel
set_option maxRecDepth 20000 in
theorem ggX4_readPerson_X4_digit : GoodIn wsX4_readPerson wsX4_digit := goodIn_r _ [9, 2, 3, 10, 11, 8, 12, 13, 14, 15, 16, 17, 18, 19, 20, 21, 22, 23, 24, 25, 26, 27, 28, 29, 30, 31, 32, 33, 34, 35, 36, 37] (by decide +kernel) (by decide +kernel)
set_option maxRecDepth 20000 in
theorem gX4_readPerson_X4_digit : GoodIn wsX4_readPerson (wsV RX4 114 RX4 yX4_digit wsX4_digit) := goodIn_app (goodIn_of _ (by decide +kernel)) ggX4_readPerson_X4_digit
theorem dX4_readPerson_0 : decode cX4_readPerson 0 = .ok (.iconst 3, 1) := by decide +kernel
theorem dX4_readPerson_1 : decode cX4_readPerson 1 = .ok (.aload_n 0, 1) := by decide +kernel
theorem dX4_readPerson_2 : decode cX4_readPerson 2 = .ok (.getfield 98, 3) := by decide +kernel
theorem dX4_readPerson_5 : decode cX4_readPerson 5 = .ok (.imul, 1) := by decide +kernel
theorem dX4_readPerson_6 : decode cX4_readPerson 6 = .ok (.istore_n 2, 1) := by decide +kernel
theorem dX4_readPerson_7 : decode cX4_readPerson 7 = .ok (.aload_n 0, 1) := by decide +kernel
theorem dX4_readPerson_8 : decode cX4_readPerson 8 = .ok (.getfield 71, 3) := by decide +kernel
theorem dX4_readPerson_11 : decode cX4_readPerson 11 = .ok (.iload_n 1, 1) := by decide +kernel
theorem dX4_readPerson_12 : decode cX4_readPerson 12 = .ok (.if_icmp .ge 15, 3) := by decide +kernel
theorem dX4_readPerson_15 : decode cX4_readPerson 15 = .ok (.aload_n 0, 1) := by decide +kernel
theorem dX4_readPerson_16 : decode cX4_readPerson 16 = .ok (.getfield 16, 3) := by decide +kernel
theorem dX4_readPerson_19 : decode cX4_readPerson 19 = .ok (.aload_n 0, 1) := by decide +kernel
theorem dX4_readPerson_20 : decode cX4_readPerson 20 = .ok (.getfield 71, 3) := by decide +kernel
theorem dX4_readPerson_23 : decode cX4_readPerson 23 = .ok (.iaload, 1) := by decide +kernel
theorem dX4_readPerson_24 : decode cX4_readPerson 24 = .ok (.goto 4, 3) := by decide +kernel
theorem dX4_readPerson_27 : decode cX4_readPerson 27 = .ok (.iconst 0, 1) := by decide +kernel
theorem dX4_readPerson_28 : decode cX4_readPerson 28 = .ok (.istore_n 3, 1) := by decide +kernel
theorem dX4_readPerson_29 : decode cX4_readPerson 29 = .ok (.aload_n 0, 1) := by decide +kernel
theorem dX4_readPerson_30 : decode cX4_readPerson 30 = .ok (.getfield 37, 3) := by decide +kernel
theorem dX4_readPerson_33 : decode cX4_readPerson 33 = .ok (.iload_n 2, 1) := by decide +kernel
theorem dX4_readPerson_34 : decode cX4_readPerson 34 = .ok (.iload_n 3, 1) := by decide +kernel
theorem dX4_readPerson_35 : decode cX4_readPerson 35 = .ok (.bipush 112, 2) := by decide +kernel
theorem dX4_readPerson_37 : decode cX4_readPerson 37 = .ok (.if_icmp .ne 7, 3) := by decide +kernel
theorem dX4_readPerson_40 : decode cX4_readPerson 40 = .ok (.iconst 0, 1) := by decide +kernel
theorem dX4_readPerson_41 : decode cX4_readPerson 41 = .ok (.goto 25, 3) := by decide +kernel
theorem dX4_readPerson_44 : decode cX4_readPerson 44 = .ok (.iload_n 3, 1) := by decide +kernel
theorem dX4_readPerson_45 : decode cX4_readPerson 45 = .ok (.bipush 114, 2) := by decide +kernel
theorem dX4_readPerson_47 : decode cX4_readPerson 47 = .ok (.if_icmp .ne 7, 3) := by decide +kernel
theorem dX4_readPerson_50 : decode cX4_readPerson 50 = .ok (.iconst 1, 1) := by decide +kernel
theorem dX4_readPerson_51 : decode cX4_readPerson 51 = .ok (.goto 15, 3) := by decide +kernel
theorem dX4_readPerson_54 : decode cX4_readPerson 54 = .ok (.iload_n 3, 1) := by decide +kernel
theorem dX4_readPerson_55 : decode cX4_readPerson 55 = .ok (.bipush 97, 2) := by decide +kernel
theorem dX4_readPerson_57 : decode cX4_readPerson 57 = .ok (.if_icmp .ne 7, 3) := by decide +kernel
theorem dX4_readPerson_60 : decode cX4_readPerson 60 = .ok (.iconst 2, 1) := by decide +kernel
theorem dX4_readPerson_61 : decode cX4_readPerson 61 = .ok (.goto 5, 3) := by decide +kernel
theorem dX4_readPerson_64 : decode cX4_readPerson 64 = .ok (.bipush (-9), 2) := by decide +kernel
theorem dX4_readPerson_66 : decode cX4_readPerson 66 = .ok (.iastore, 1) := by decide +kernel
theorem dX4_readPerson_67 : decode cX4_readPerson 67 = .ok (.aload_n 0, 1) := by decide +kernel
theorem dX4_readPerson_68 : decode cX4_readPerson 68 = .ok (.getfield 37, 3) := by decide +kernel
theorem dX4_readPerson_71 : decode cX4_readPerson 71 = .ok (.iload_n 2, 1) := by decide +kernel
theorem dX4_readPerson_72 : decode cX4_readPerson 72 = .ok (.iaload, 1) := by decide +kernel
theorem dX4_readPerson_73 : decode cX4_readPerson 73 = .ok (.bipush (-9), 2) := by decide +kernel
theorem dX4_readPerson_75 : decode cX4_readPerson 75 = .ok (.if_icmp .ne 5, 3) := by decide +kernel
theorem dX4_readPerson_78 : decode cX4_readPerson 78 = .ok (.iconst 0, 1) := by decide +kernel
theorem dX4_readPerson_79 : decode cX4_readPerson 79 = .ok (.ireturn, 1) := by decide +kernel
theorem dX4_readPerson_80 : decode cX4_readPerson 80 = .ok (.aload_n 0, 1) := by decide +kernel
theorem dX4_readPerson_81 : decode cX4_readPerson 81 = .ok (.dup, 1) := by decide +kernel
theorem dX4_readPerson_82 : decode cX4_readPerson 82 = .ok (.getfield 71, 3) := by decide +kernel
theorem dX4_readPerson_85 : decode cX4_readPerson 85 = .ok (.iconst 1, 1) := by decide +kernel
theorem dX4_readPerson_86 : decode cX4_readPerson 86 = .ok (.iadd, 1) := by decide +kernel
theorem dX4_readPerson_87 : decode cX4_readPerson 87 = .ok (.putfield 71, 3) := by decide +kernel
theorem dX4_readPerson_90 : decode cX4_readPerson 90 = .ok (.aload_n 0, 1) := by decide +kernel
theorem dX4_readPerson_91 : decode cX4_readPerson 91 = .ok (.iload_n 1, 1) := by decide +kernel
theorem dX4_readPerson_92 : decode cX4_readPerson 92 = .ok (.iconst 0, 1) := by decide +kernel
theorem dX4_readPerson_93 : decode cX4_readPerson 93 = .ok (.bipush 6, 2) := by decide +kernel
theorem dX4_readPerson_95 : decode cX4_readPerson 95 = .ok (.invokevirtual 114, 3) := by decide +kernel
theorem dX4_readPerson_98 : decode cX4_readPerson 98 = .ok (.istore 4, 2) := by decide +kernel
theorem dX4_readPerson_100 : decode cX4_readPerson 100 = .ok (.iload 4, 2) := by decide +kernel
theorem dX4_readPerson_102 : decode cX4_readPerson 102 = .ok (.bipush (-9), 2) := by decide +kernel
theorem dX4_readPerson_104 : decode cX4_readPerson 104 = .ok (.if_icmp .ne 5, 3) := by decide +kernel
theorem dX4_readPerson_107 : decode cX4_readPerson 107 = .ok (.iconst 0, 1) := by decide +kernel
theorem dX4_readPerson_108 : decode cX4_readPerson 108 = .ok (.ireturn, 1) := by decide +kernel
theorem dX4_readPerson_109 : decode cX4_readPerson 109 = .ok (.aload_n 0, 1) := by decide +kernel
theorem dX4_readPerson_110 : decode cX4_readPerson 110 = .ok (.iload_n 1, 1) := by decide +kernel
theorem dX4_readPerson_111 : decode cX4_readPerson 111 = .ok (.iconst 0, 1) := by decide +kernel
theorem dX4_readPerson_112 : decode cX4_readPerson 112 = .ok (.iload 4, 2) := by decide +kernel
theorem dX4_readPerson_114 : decode cX4_readPerson 114 = .ok (.bipush 6, 2) := by decide +kernel
theorem dX4_readPerson_116 : decode cX4_readPerson 116 = .ok (.if_icmp .ne 7, 3) := by decide +kernel
theorem dX4_readPerson_119 : decode cX4_readPerson 119 = .ok (.iconst 3, 1) := by decide +kernel
theorem dX4_readPerson_120 : decode cX4_readPerson 120 = .ok (.goto 5, 3) := by decide +kernel
theorem dX4_readPerson_123 : decode cX4_readPerson 123 = .ok (.bipush 9, 2) := by decide +kernel
theorem dX4_readPerson_125 : decode cX4_readPerson 125 = .ok (.invokevirtual 114, 3) := by decide +kernel
theorem dX4_readPerson_128 : decode cX4_readPerson 128 = .ok (.istore 5, 2) := by decide +kernel
theorem dX4_readPerson_130 : decode cX4_readPerson 130 = .ok (.iload 5, 2) := by decide +kernel
theorem dX4_readPerson_132 : decode cX4_readPerson 132 = .ok (.bipush (-9), 2) := by decide +kernel
theorem dX4_readPerson_134 : decode cX4_readPerson 134 = .ok (.if_icmp .ne 5, 3) := by decide +kernel
theorem dX4_readPerson_137 : decode cX4_readPerson 137 = .ok (.iconst 0, 1) := by decide +kernel
theorem dX4_readPerson_138 : decode cX4_readPerson 138 = .ok (.ireturn, 1) := by decide +kernel
theorem dX4_readPerson_139 : decode cX4_readPerson 139 = .ok (.aload_n 0, 1) := by decide +kernel
theorem dX4_readPerson_140 : decode cX4_readPerson 140 = .ok (.getfield 37, 3) := by decide +kernel
theorem dX4_readPerson_143 : decode cX4_readPerson 143 = .ok (.iload_n 2, 1) := by decide +kernel
theorem dX4_readPerson_144 : decode cX4_readPerson 144 = .ok (.iconst 1, 1) := by decide +kernel
theorem dX4_readPerson_145 : decode cX4_readPerson 145 = .ok (.iadd, 1) := by decide +kernel
theorem dX4_readPerson_146 : decode cX4_readPerson 146 = .ok (.bipush 10, 2) := by decide +kernel
theorem dX4_readPerson_148 : decode cX4_readPerson 148 = .ok (.iload 4, 2) := by decide +kernel
theorem dX4_readPerson_150 : decode cX4_readPerson 150 = .ok (.imul, 1) := by decide +kernel
theorem dX4_readPerson_151 : decode cX4_readPerson 151 = .ok (.iload 5, 2) := by decide +kernel
theorem dX4_readPerson_153 : decode cX4_readPerson 153 = .ok (.iadd, 1) := by decide +kernel
theorem dX4_readPerson_154 : decode cX4_readPerson 154 = .ok (.iastore, 1) := by decide +kernel
theorem dX4_readPerson_155 : decode cX4_readPerson 155 = .ok (.aload_n 0, 1) := by decide +kernel
theorem dX4_readPerson_156 : decode cX4_readPerson 156 = .ok (.getfield 37, 3) := by decide +kernel
theorem dX4_readPerson_159 : decode cX4_readPerson 159 = .ok (.iload_n 2, 1) := by decide +kernel
theorem dX4_readPerson_160 : decode cX4_readPerson 160 = .ok (.iconst 2, 1) := by decide +kernel
theorem dX4_readPerson_161 : decode cX4_readPerson 161 = .ok (.iadd, 1) := by decide +kernel
theorem dX4_readPerson_162 : decode cX4_readPerson 162 = .ok (.aload_n 0, 1) := by decide +kernel
theorem dX4_readPerson_163 : decode cX4_readPerson 163 = .ok (.iload_n 1, 1) := by decide +kernel
theorem dX4_readPerson_164 : decode cX4_readPerson 164 = .ok (.iconst 0, 1) := by decide +kernel
theorem dX4_readPerson_165 : decode cX4_readPerson 165 = .ok (.iconst 4, 1) := by decide +kernel
theorem dX4_readPerson_166 : decode cX4_readPerson 166 = .ok (.invokevirtual 114, 3) := by decide +kernel
theorem dX4_readPerson_169 : decode cX4_readPerson 169 = .ok (.iastore, 1) := by decide +kernel
theorem dX4_readPerson_170 : decode cX4_readPerson 170 = .ok (.aload_n 0, 1) := by decide +kernel
theorem dX4_readPerson_171 : decode cX4_readPerson 171 = .ok (.dup, 1) := by decide +kernel
theorem dX4_readPerson_172 : decode cX4_readPerson 172 = .ok (.getfield 98, 3) := by decide +kernel
theorem dX4_readPerson_175 : decode cX4_readPerson 175 = .ok (.iconst 1, 1) := by decide +kernel
theorem dX4_readPerson_176 : decode cX4_readPerson 176 = .ok (.iadd, 1) := by decide +kernel
theorem dX4_readPerson_177 : decode cX4_readPerson 177 = .ok (.putfield 98, 3) := by decide +kernel
theorem dX4_readPerson_180 : decode cX4_readPerson 180 = .ok (.aload_n 0, 1) := by decide +kernel
theorem dX4_readPerson_181 : decode cX4_readPerson 181 = .ok (.getfield 37, 3) := by decide +kernel
theorem dX4_readPerson_184 : decode cX4_readPerson 184 = .ok (.iload_n 2, 1) := by decide +kernel
theorem dX4_readPerson_185 : decode cX4_readPerson 185 = .ok (.iconst 2, 1) := by decide +kernel
theorem dX4_readPerson_186 : decode cX4_readPerson 186 = .ok (.iadd, 1) := by decide +kernel
theorem dX4_readPerson_187 : decode cX4_readPerson 187 = .ok (.iaload, 1) := by decide +kernel
theorem dX4_readPerson_188 : decode cX4_readPerson 188 = .ok (.bipush (-9), 2) := by decide +kernel
theorem dX4_readPerson_190 : decode cX4_readPerson 190 = .ok (.if_icmp .eq 7, 3) := by decide +kernel
theorem dX4_readPerson_193 : decode cX4_readPerson 193 = .ok (.iconst 1, 1) := by decide +kernel
theorem dX4_readPerson_194 : decode cX4_readPerson 194 = .ok (.goto 4, 3) := by decide +kernel
theorem dX4_readPerson_197 : decode cX4_readPerson 197 = .ok (.iconst 0, 1) := by decide +kernel
theorem dX4_readPerson_198 : decode cX4_readPerson 198 = .ok (.ireturn, 1) := by decide +kernel
theorem dX4_storeysOf_0 : decode cX4_storeysOf 0 = .ok (.aload_n 0, 1) := by decide +kernel
theorem dX4_storeysOf_1 : decode cX4_storeysOf 1 = .ok (.getfield 22, 3) := by decide +kernel
theorem dX4_storeysOf_4 : decode cX4_storeysOf 4 = .ok (.iload_n 1, 1) := by decide +kernel
theorem dX4_storeysOf_5 : decode cX4_storeysOf 5 = .ok (.iaload, 1) := by decide +kernel
theorem dX4_storeysOf_6 : decode cX4_storeysOf 6 = .ok (.ifCond .ne 12, 3) := by decide +kernel
theorem dX4_storeysOf_9 : decode cX4_storeysOf 9 = .ok (.aload_n 0, 1) := by decide +kernel
theorem dX4_storeysOf_10 : decode cX4_storeysOf 10 = .ok (.getfield 19, 3) := by decide +kernel
theorem dX4_storeysOf_13 : decode cX4_storeysOf 13 = .ok (.iload_n 2, 1) := by decide +kernel
theorem dX4_storeysOf_14 : decode cX4_storeysOf 14 = .ok (.iaload, 1) := by decide +kernel
theorem dX4_storeysOf_15 : decode cX4_storeysOf 15 = .ok (.goto 32, 3) := by decide +kernel
theorem dX4_storeysOf_18 : decode cX4_storeysOf 18 = .ok (.aload_n 0, 1) := by decide +kernel
theorem dX4_storeysOf_19 : decode cX4_storeysOf 19 = .ok (.getfield 22, 3) := by decide +kernel
theorem dX4_storeysOf_22 : decode cX4_storeysOf 22 = .ok (.iload_n 1, 1) := by decide +kernel
theorem dX4_storeysOf_23 : decode cX4_storeysOf 23 = .ok (.iaload, 1) := by decide +kernel
theorem dX4_storeysOf_24 : decode cX4_storeysOf 24 = .ok (.iconst 1, 1) := by decide +kernel
theorem dX4_storeysOf_25 : decode cX4_storeysOf 25 = .ok (.if_icmp .ne 14, 3) := by decide +kernel
theorem dX4_storeysOf_28 : decode cX4_storeysOf 28 = .ok (.aload_n 0, 1) := by decide +kernel
theorem dX4_storeysOf_29 : decode cX4_storeysOf 29 = .ok (.getfield 19, 3) := by decide +kernel
theorem dX4_storeysOf_32 : decode cX4_storeysOf 32 = .ok (.iload_n 2, 1) := by decide +kernel
theorem dX4_storeysOf_33 : decode cX4_storeysOf 33 = .ok (.iaload, 1) := by decide +kernel
theorem dX4_storeysOf_34 : decode cX4_storeysOf 34 = .ok (.iconst 1, 1) := by decide +kernel
theorem dX4_storeysOf_35 : decode cX4_storeysOf 35 = .ok (.isub, 1) := by decide +kernel
theorem dX4_storeysOf_36 : decode cX4_storeysOf 36 = .ok (.goto 11, 3) := by decide +kernel
theorem dX4_storeysOf_39 : decode cX4_storeysOf 39 = .ok (.iconst 2, 1) := by decide +kernel
theorem dX4_storeysOf_40 : decode cX4_storeysOf 40 = .ok (.aload_n 0, 1) := by decide +kernel
theorem dX4_storeysOf_41 : decode cX4_storeysOf 41 = .ok (.getfield 19, 3) := by decide +kernel
theorem dX4_storeysOf_44 : decode cX4_storeysOf 44 = .ok (.iload_n 2, 1) := by decide +kernel
theorem dX4_storeysOf_45 : decode cX4_storeysOf 45 = .ok (.iaload, 1) := by decide +kernel
theorem dX4_storeysOf_46 : decode cX4_storeysOf 46 = .ok (.imul, 1) := by decide +kernel
theorem dX4_storeysOf_47 : decode cX4_storeysOf 47 = .ok (.ireturn, 1) := by decide +kernel
set_option maxRecDepth 20000 in
theorem ggX4_floorBy_X4_storeysOf : GoodIn wsX4_floorBy wsX4_storeysOf := goodIn_r _ [6, 7, 8, 9, 10, 11, 12, 13, 14, 15, 16, 17, 18, 19, 20, 21, 22, 23, 24, 25, 26, 27, 28, 29, 30, 31, 32, 33] (by decide +kernel) (by decide +kernel)
set_option maxRecDepth 20000 in
theorem gX4_floorBy_X4_storeysOf : GoodIn wsX4_floorBy (wsV RX4 118 RX4 yX4_storeysOf wsX4_storeysOf) := goodIn_app (goodIn_of _ (by decide +kernel)) ggX4_floorBy_X4_storeysOf
theorem dX4_floorBy_0 : decode cX4_floorBy 0 = .ok (.iconst 0, 1) := by decide +kernel
theorem dX4_floorBy_1 : decode cX4_floorBy 1 = .ok (.istore_n 3, 1) := by decide +kernel
theorem dX4_floorBy_2 : decode cX4_floorBy 2 = .ok (.iconst 0, 1) := by decide +kernel
theorem dX4_floorBy_3 : decode cX4_floorBy 3 = .ok (.istore 4, 2) := by decide +kernel
theorem dX4_floorBy_5 : decode cX4_floorBy 5 = .ok (.iload 4, 2) := by decide +kernel
theorem dX4_floorBy_7 : decode cX4_floorBy 7 = .ok (.aload_n 0, 1) := by decide +kernel
theorem dX4_floorBy_8 : decode cX4_floorBy 8 = .ok (.getfield 65, 3) := by decide +kernel
theorem dX4_floorBy_11 : decode cX4_floorBy 11 = .ok (.if_icmp .ge 33, 3) := by decide +kernel
theorem dX4_floorBy_14 : decode cX4_floorBy 14 = .ok (.iload_n 3, 1) := by decide +kernel
theorem dX4_floorBy_15 : decode cX4_floorBy 15 = .ok (.iload_n 2, 1) := by decide +kernel
theorem dX4_floorBy_16 : decode cX4_floorBy 16 = .ok (.iload 4, 2) := by decide +kernel
theorem dX4_floorBy_18 : decode cX4_floorBy 18 = .ok (.ishr, 1) := by decide +kernel
theorem dX4_floorBy_19 : decode cX4_floorBy 19 = .ok (.iconst 1, 1) := by decide +kernel
theorem dX4_floorBy_20 : decode cX4_floorBy 20 = .ok (.iand, 1) := by decide +kernel
theorem dX4_floorBy_21 : decode cX4_floorBy 21 = .ok (.iconst 1, 1) := by decide +kernel
theorem dX4_floorBy_22 : decode cX4_floorBy 22 = .ok (.if_icmp .ne 13, 3) := by decide +kernel
theorem dX4_floorBy_25 : decode cX4_floorBy 25 = .ok (.aload_n 0, 1) := by decide +kernel
theorem dX4_floorBy_26 : decode cX4_floorBy 26 = .ok (.iload_n 1, 1) := by decide +kernel
theorem dX4_floorBy_27 : decode cX4_floorBy 27 = .ok (.iload 4, 2) := by decide +kernel
theorem dX4_floorBy_29 : decode cX4_floorBy 29 = .ok (.invokevirtual 118, 3) := by decide +kernel
theorem dX4_floorBy_32 : decode cX4_floorBy 32 = .ok (.goto 4, 3) := by decide +kernel
theorem dX4_floorBy_35 : decode cX4_floorBy 35 = .ok (.iconst 0, 1) := by decide +kernel
theorem dX4_floorBy_36 : decode cX4_floorBy 36 = .ok (.iadd, 1) := by decide +kernel
theorem dX4_floorBy_37 : decode cX4_floorBy 37 = .ok (.istore_n 3, 1) := by decide +kernel
theorem dX4_floorBy_38 : decode cX4_floorBy 38 = .ok (.iinc 4 1, 3) := by decide +kernel
theorem dX4_floorBy_41 : decode cX4_floorBy 41 = .ok (.goto (-36), 3) := by decide +kernel
theorem dX4_floorBy_44 : decode cX4_floorBy 44 = .ok (.iload_n 3, 1) := by decide +kernel
theorem dX4_floorBy_45 : decode cX4_floorBy 45 = .ok (.ireturn, 1) := by decide +kernel
set_option maxRecDepth 20000 in
theorem ggX4_ofPerson_X4_isPerson : GoodIn wsX4_ofPerson wsX4_isPerson := goodIn_r _ [9, 10, 21, 22, 23, 24, 25, 26, 27, 28, 29, 30, 31, 32, 33, 34, 35, 36, 37, 38, 39, 40, 41, 42, 43, 44, 45] (by decide +kernel) (by decide +kernel)
set_option maxRecDepth 20000 in
theorem gX4_ofPerson_X4_isPerson : GoodIn wsX4_ofPerson (wsV RX4 122 RX4 yX4_isPerson wsX4_isPerson) := goodIn_app (goodIn_of _ (by decide +kernel)) ggX4_ofPerson_X4_isPerson
set_option maxRecDepth 20000 in
theorem ggX4_ofPerson_X4_floorBy : GoodIn wsX4_ofPerson wsX4_floorBy := goodIn_r _ [14, 15, 16, 17, 18, 8, 19, 1, 20, 21, 22, 23, 24, 25, 26, 27, 28, 29, 30, 31, 32, 33, 34, 35, 36, 37, 38, 39, 40, 41, 42, 43, 44, 45] (by decide +kernel) (by decide +kernel)
set_option maxRecDepth 20000 in
theorem gX4_ofPerson_X4_floorBy : GoodIn wsX4_ofPerson (wsV RX4 125 RX4 yX4_floorBy wsX4_floorBy) := goodIn_app (goodIn_of _ (by decide +kernel)) ggX4_ofPerson_X4_floorBy
theorem dX4_ofPerson_0 : decode cX4_ofPerson 0 = .ok (.aload_n 0, 1) := by decide +kernel
theorem dX4_ofPerson_1 : decode cX4_ofPerson 1 = .ok (.iload_n 1, 1) := by decide +kernel
theorem dX4_ofPerson_2 : decode cX4_ofPerson 2 = .ok (.invokevirtual 122, 3) := by decide +kernel
theorem dX4_ofPerson_5 : decode cX4_ofPerson 5 = .ok (.ifCond .ne 5, 3) := by decide +kernel
theorem dX4_ofPerson_8 : decode cX4_ofPerson 8 = .ok (.iconst (-1), 1) := by decide +kernel
theorem dX4_ofPerson_9 : decode cX4_ofPerson 9 = .ok (.ireturn, 1) := by decide +kernel
theorem dX4_ofPerson_10 : decode cX4_ofPerson 10 = .ok (.iload_n 2, 1) := by decide +kernel
theorem dX4_ofPerson_11 : decode cX4_ofPerson 11 = .ok (.tableswitch 73 0 4 #[33, 40, 47, 54, 61], 33) := by decide +kernel
theorem dX4_ofPerson_44 : decode cX4_ofPerson 44 = .ok (.aload_n 0, 1) := by decide +kernel
theorem dX4_ofPerson_45 : decode cX4_ofPerson 45 = .ok (.getfield 22, 3) := by decide +kernel
theorem dX4_ofPerson_48 : decode cX4_ofPerson 48 = .ok (.iload_n 1, 1) := by decide +kernel
theorem dX4_ofPerson_49 : decode cX4_ofPerson 49 = .ok (.iaload, 1) := by decide +kernel
theorem dX4_ofPerson_50 : decode cX4_ofPerson 50 = .ok (.ireturn, 1) := by decide +kernel
theorem dX4_ofPerson_51 : decode cX4_ofPerson 51 = .ok (.aload_n 0, 1) := by decide +kernel
theorem dX4_ofPerson_52 : decode cX4_ofPerson 52 = .ok (.getfield 25, 3) := by decide +kernel
theorem dX4_ofPerson_55 : decode cX4_ofPerson 55 = .ok (.iload_n 1, 1) := by decide +kernel
theorem dX4_ofPerson_56 : decode cX4_ofPerson 56 = .ok (.iaload, 1) := by decide +kernel
theorem dX4_ofPerson_57 : decode cX4_ofPerson 57 = .ok (.ireturn, 1) := by decide +kernel
theorem dX4_ofPerson_58 : decode cX4_ofPerson 58 = .ok (.aload_n 0, 1) := by decide +kernel
theorem dX4_ofPerson_59 : decode cX4_ofPerson 59 = .ok (.getfield 28, 3) := by decide +kernel
theorem dX4_ofPerson_62 : decode cX4_ofPerson 62 = .ok (.iload_n 1, 1) := by decide +kernel
theorem dX4_ofPerson_63 : decode cX4_ofPerson 63 = .ok (.iaload, 1) := by decide +kernel
theorem dX4_ofPerson_64 : decode cX4_ofPerson 64 = .ok (.ireturn, 1) := by decide +kernel
theorem dX4_ofPerson_65 : decode cX4_ofPerson 65 = .ok (.aload_n 0, 1) := by decide +kernel
theorem dX4_ofPerson_66 : decode cX4_ofPerson 66 = .ok (.getfield 31, 3) := by decide +kernel
theorem dX4_ofPerson_69 : decode cX4_ofPerson 69 = .ok (.iload_n 1, 1) := by decide +kernel
theorem dX4_ofPerson_70 : decode cX4_ofPerson 70 = .ok (.iaload, 1) := by decide +kernel
theorem dX4_ofPerson_71 : decode cX4_ofPerson 71 = .ok (.ireturn, 1) := by decide +kernel
theorem dX4_ofPerson_72 : decode cX4_ofPerson 72 = .ok (.aload_n 0, 1) := by decide +kernel
theorem dX4_ofPerson_73 : decode cX4_ofPerson 73 = .ok (.iload_n 1, 1) := by decide +kernel
theorem dX4_ofPerson_74 : decode cX4_ofPerson 74 = .ok (.aload_n 0, 1) := by decide +kernel
theorem dX4_ofPerson_75 : decode cX4_ofPerson 75 = .ok (.getfield 31, 3) := by decide +kernel
theorem dX4_ofPerson_78 : decode cX4_ofPerson 78 = .ok (.iload_n 1, 1) := by decide +kernel
theorem dX4_ofPerson_79 : decode cX4_ofPerson 79 = .ok (.iaload, 1) := by decide +kernel
theorem dX4_ofPerson_80 : decode cX4_ofPerson 80 = .ok (.invokevirtual 125, 3) := by decide +kernel
theorem dX4_ofPerson_83 : decode cX4_ofPerson 83 = .ok (.ireturn, 1) := by decide +kernel
theorem dX4_ofPerson_84 : decode cX4_ofPerson 84 = .ok (.bipush (-2), 2) := by decide +kernel
theorem dX4_ofPerson_86 : decode cX4_ofPerson 86 = .ok (.ireturn, 1) := by decide +kernel
set_option maxRecDepth 20000 in
theorem ggX4_weight_X4_isDeed : GoodIn wsX4_weight wsX4_isDeed := goodIn_r _ [6, 7, 8, 9, 10, 11, 12, 13, 14, 15, 16, 17, 18, 19, 20, 21, 22, 23, 24, 25, 26, 27, 28, 29, 30, 31, 32] (by decide +kernel) (by decide +kernel)
set_option maxRecDepth 20000 in
theorem gX4_weight_X4_isDeed : GoodIn wsX4_weight (wsV RX4 128 RX4 yX4_isDeed wsX4_isDeed) := goodIn_app (goodIn_of _ (by decide +kernel)) ggX4_weight_X4_isDeed
theorem dX4_weight_0 : decode cX4_weight 0 = .ok (.aload_n 0, 1) := by decide +kernel
theorem dX4_weight_1 : decode cX4_weight 1 = .ok (.iload_n 1, 1) := by decide +kernel
theorem dX4_weight_2 : decode cX4_weight 2 = .ok (.invokevirtual 128, 3) := by decide +kernel
theorem dX4_weight_5 : decode cX4_weight 5 = .ok (.ifCond .eq 12, 3) := by decide +kernel
theorem dX4_weight_8 : decode cX4_weight 8 = .ok (.aload_n 0, 1) := by decide +kernel
theorem dX4_weight_9 : decode cX4_weight 9 = .ok (.getfield 19, 3) := by decide +kernel
theorem dX4_weight_12 : decode cX4_weight 12 = .ok (.iload_n 1, 1) := by decide +kernel
theorem dX4_weight_13 : decode cX4_weight 13 = .ok (.iaload, 1) := by decide +kernel
theorem dX4_weight_14 : decode cX4_weight 14 = .ok (.goto 4, 3) := by decide +kernel
theorem dX4_weight_17 : decode cX4_weight 17 = .ok (.iconst (-1), 1) := by decide +kernel
theorem dX4_weight_18 : decode cX4_weight 18 = .ok (.ireturn, 1) := by decide +kernel
set_option maxRecDepth 20000 in
theorem ggX4_weigh_X4_isDeed : GoodIn wsX4_weigh wsX4_isDeed := goodIn_r _ [6, 7, 11, 12, 13, 14, 15, 16, 17, 18, 19, 20, 21, 22, 23, 24, 25, 26, 27, 28, 29, 30, 31, 32, 33, 34, 35] (by decide +kernel) (by decide +kernel)
set_option maxRecDepth 20000 in
theorem gX4_weigh_X4_isDeed : GoodIn wsX4_weigh (wsV RX4 128 RX4 yX4_isDeed wsX4_isDeed) := goodIn_app (goodIn_of _ (by decide +kernel)) ggX4_weigh_X4_isDeed
set_option maxRecDepth 20000 in
theorem ggX4_weigh_X4_within : GoodIn wsX4_weigh wsX4_within := goodIn_r _ [10] (by decide +kernel) (by decide +kernel)
set_option maxRecDepth 20000 in
theorem gX4_weigh_X4_within : GoodIn wsX4_weigh (va_wsS RX4 61 yX4_within wsX4_within) := goodIn_app (goodIn_of _ (by decide +kernel)) ggX4_weigh_X4_within
theorem dX4_weigh_0 : decode cX4_weigh 0 = .ok (.aload_n 0, 1) := by decide +kernel
theorem dX4_weigh_1 : decode cX4_weigh 1 = .ok (.iload_n 1, 1) := by decide +kernel
theorem dX4_weigh_2 : decode cX4_weigh 2 = .ok (.invokevirtual 128, 3) := by decide +kernel
theorem dX4_weigh_5 : decode cX4_weigh 5 = .ok (.ifCond .ne 5, 3) := by decide +kernel
theorem dX4_weigh_8 : decode cX4_weigh 8 = .ok (.iconst (-1), 1) := by decide +kernel
theorem dX4_weigh_9 : decode cX4_weigh 9 = .ok (.ireturn, 1) := by decide +kernel
theorem dX4_weigh_10 : decode cX4_weigh 10 = .ok (.iload_n 2, 1) := by decide +kernel
theorem dX4_weigh_11 : decode cX4_weigh 11 = .ok (.iconst 1, 1) := by decide +kernel
theorem dX4_weigh_12 : decode cX4_weigh 12 = .ok (.bipush 9, 2) := by decide +kernel
theorem dX4_weigh_14 : decode cX4_weigh 14 = .ok (.invokestatic 61, 3) := by decide +kernel
theorem dX4_weigh_17 : decode cX4_weigh 17 = .ok (.ifCond .ne 6, 3) := by decide +kernel
theorem dX4_weigh_20 : decode cX4_weigh 20 = .ok (.bipush (-2), 2) := by decide +kernel
theorem dX4_weigh_22 : decode cX4_weigh 22 = .ok (.ireturn, 1) := by decide +kernel
theorem dX4_weigh_23 : decode cX4_weigh 23 = .ok (.aload_n 0, 1) := by decide +kernel
theorem dX4_weigh_24 : decode cX4_weigh 24 = .ok (.getfield 19, 3) := by decide +kernel
theorem dX4_weigh_27 : decode cX4_weigh 27 = .ok (.iload_n 1, 1) := by decide +kernel
theorem dX4_weigh_28 : decode cX4_weigh 28 = .ok (.iaload, 1) := by decide +kernel
theorem dX4_weigh_29 : decode cX4_weigh 29 = .ok (.istore_n 3, 1) := by decide +kernel
theorem dX4_weigh_30 : decode cX4_weigh 30 = .ok (.aload_n 0, 1) := by decide +kernel
theorem dX4_weigh_31 : decode cX4_weigh 31 = .ok (.getfield 19, 3) := by decide +kernel
theorem dX4_weigh_34 : decode cX4_weigh 34 = .ok (.iload_n 1, 1) := by decide +kernel
theorem dX4_weigh_35 : decode cX4_weigh 35 = .ok (.iload_n 2, 1) := by decide +kernel
theorem dX4_weigh_36 : decode cX4_weigh 36 = .ok (.iastore, 1) := by decide +kernel
theorem dX4_weigh_37 : decode cX4_weigh 37 = .ok (.iload_n 3, 1) := by decide +kernel
theorem dX4_weigh_38 : decode cX4_weigh 38 = .ok (.ireturn, 1) := by decide +kernel
set_option maxRecDepth 20000 in
theorem ggX4_storeys_X4_isPerson : GoodIn wsX4_storeys wsX4_isPerson := goodIn_r _ [5, 6, 18, 19, 20, 21, 22, 23, 24, 25, 26, 27, 28, 29, 30, 31, 32, 33, 34, 35, 36, 37, 38, 39, 40, 41, 42] (by decide +kernel) (by decide +kernel)
set_option maxRecDepth 20000 in
theorem gX4_storeys_X4_isPerson : GoodIn wsX4_storeys (wsV RX4 122 RX4 yX4_isPerson wsX4_isPerson) := goodIn_app (goodIn_of _ (by decide +kernel)) ggX4_storeys_X4_isPerson
set_option maxRecDepth 20000 in
theorem ggX4_storeys_X4_isDeed : GoodIn wsX4_storeys wsX4_isDeed := goodIn_r _ [10, 11, 18, 19, 20, 21, 22, 23, 24, 25, 26, 27, 28, 29, 30, 31, 32, 33, 34, 35, 36, 37, 38, 39, 40, 41, 42] (by decide +kernel) (by decide +kernel)
set_option maxRecDepth 20000 in
theorem gX4_storeys_X4_isDeed : GoodIn wsX4_storeys (wsV RX4 128 RX4 yX4_isDeed wsX4_isDeed) := goodIn_app (goodIn_of _ (by decide +kernel)) ggX4_storeys_X4_isDeed
set_option maxRecDepth 20000 in
theorem ggX4_storeys_X4_storeysOf : GoodIn wsX4_storeys wsX4_storeysOf := goodIn_r _ [15, 16, 17, 18, 19, 20, 21, 22, 23, 24, 25, 26, 27, 28, 29, 30, 31, 32, 33, 34, 35, 36, 37, 38, 39, 40, 41, 42] (by decide +kernel) (by decide +kernel)
set_option maxRecDepth 20000 in
theorem gX4_storeys_X4_storeysOf : GoodIn wsX4_storeys (wsV RX4 118 RX4 yX4_storeysOf wsX4_storeysOf) := goodIn_app (goodIn_of _ (by decide +kernel)) ggX4_storeys_X4_storeysOf
theorem dX4_storeys_0 : decode cX4_storeys 0 = .ok (.aload_n 0, 1) := by decide +kernel
theorem dX4_storeys_1 : decode cX4_storeys 1 = .ok (.iload_n 1, 1) := by decide +kernel
theorem dX4_storeys_2 : decode cX4_storeys 2 = .ok (.invokevirtual 122, 3) := by decide +kernel
theorem dX4_storeys_5 : decode cX4_storeys 5 = .ok (.ifCond .eq 20, 3) := by decide +kernel
theorem dX4_storeys_8 : decode cX4_storeys 8 = .ok (.aload_n 0, 1) := by decide +kernel
theorem dX4_storeys_9 : decode cX4_storeys 9 = .ok (.iload_n 2, 1) := by decide +kernel
theorem dX4_storeys_10 : decode cX4_storeys 10 = .ok (.invokevirtual 128, 3) := by decide +kernel
theorem dX4_storeys_13 : decode cX4_storeys 13 = .ok (.ifCond .eq 12, 3) := by decide +kernel
theorem dX4_storeys_16 : decode cX4_storeys 16 = .ok (.aload_n 0, 1) := by decide +kernel
theorem dX4_storeys_17 : decode cX4_storeys 17 = .ok (.iload_n 1, 1) := by decide +kernel
theorem dX4_storeys_18 : decode cX4_storeys 18 = .ok (.iload_n 2, 1) := by decide +kernel
theorem dX4_storeys_19 : decode cX4_storeys 19 = .ok (.invokevirtual 118, 3) := by decide +kernel
theorem dX4_storeys_22 : decode cX4_storeys 22 = .ok (.goto 4, 3) := by decide +kernel
theorem dX4_storeys_25 : decode cX4_storeys 25 = .ok (.iconst (-1), 1) := by decide +kernel
theorem dX4_storeys_26 : decode cX4_storeys 26 = .ok (.ireturn, 1) := by decide +kernel
theorem dX4_asNow_0 : decode cX4_asNow 0 = .ok (.iconst 0, 1) := by decide +kernel
theorem dX4_asNow_1 : decode cX4_asNow 1 = .ok (.istore_n 1, 1) := by decide +kernel
theorem dX4_asNow_2 : decode cX4_asNow 2 = .ok (.iload_n 1, 1) := by decide +kernel
theorem dX4_asNow_3 : decode cX4_asNow 3 = .ok (.aload_n 0, 1) := by decide +kernel
theorem dX4_asNow_4 : decode cX4_asNow 4 = .ok (.getfield 68, 3) := by decide +kernel
theorem dX4_asNow_7 : decode cX4_asNow 7 = .ok (.if_icmp .ge 21, 3) := by decide +kernel
theorem dX4_asNow_10 : decode cX4_asNow 10 = .ok (.aload_n 0, 1) := by decide +kernel
theorem dX4_asNow_11 : decode cX4_asNow 11 = .ok (.getfield 40, 3) := by decide +kernel
theorem dX4_asNow_14 : decode cX4_asNow 14 = .ok (.iload_n 1, 1) := by decide +kernel
theorem dX4_asNow_15 : decode cX4_asNow 15 = .ok (.aload_n 0, 1) := by decide +kernel
theorem dX4_asNow_16 : decode cX4_asNow 16 = .ok (.getfield 31, 3) := by decide +kernel
theorem dX4_asNow_19 : decode cX4_asNow 19 = .ok (.iload_n 1, 1) := by decide +kernel
theorem dX4_asNow_20 : decode cX4_asNow 20 = .ok (.iaload, 1) := by decide +kernel
theorem dX4_asNow_21 : decode cX4_asNow 21 = .ok (.iastore, 1) := by decide +kernel
theorem dX4_asNow_22 : decode cX4_asNow 22 = .ok (.iinc 1 1, 3) := by decide +kernel
theorem dX4_asNow_25 : decode cX4_asNow 25 = .ok (.goto (-23), 3) := by decide +kernel
theorem dX4_asNow_28 : decode cX4_asNow 28 = .ok (.return_, 1) := by decide +kernel
set_option maxRecDepth 20000 in
theorem ggX4_isKnown_X4_floorBy : GoodIn wsX4_isKnown wsX4_floorBy := goodIn_r _ [8, 9, 10, 11, 12, 7, 13, 14, 15, 16, 17, 18, 19, 20, 21, 22, 23, 24, 25, 26, 27, 28, 29, 30, 31, 32, 33, 34, 35, 36, 37, 38, 39, 40] (by decide +kernel) (by decide +kernel)
set_option maxRecDepth 20000 in
theorem gX4_isKnown_X4_floorBy : GoodIn wsX4_isKnown (wsV RX4 125 RX4 yX4_floorBy wsX4_floorBy) := goodIn_app (goodIn_of _ (by decide +kernel)) ggX4_isKnown_X4_floorBy
theorem dX4_isKnown_0 : decode cX4_isKnown 0 = .ok (.aload_n 0, 1) := by decide +kernel
theorem dX4_isKnown_1 : decode cX4_isKnown 1 = .ok (.iload_n 1, 1) := by decide +kernel
theorem dX4_isKnown_2 : decode cX4_isKnown 2 = .ok (.aload_n 0, 1) := by decide +kernel
theorem dX4_isKnown_3 : decode cX4_isKnown 3 = .ok (.getfield 40, 3) := by decide +kernel
theorem dX4_isKnown_6 : decode cX4_isKnown 6 = .ok (.iload_n 1, 1) := by decide +kernel
theorem dX4_isKnown_7 : decode cX4_isKnown 7 = .ok (.iaload, 1) := by decide +kernel
theorem dX4_isKnown_8 : decode cX4_isKnown 8 = .ok (.invokevirtual 125, 3) := by decide +kernel
theorem dX4_isKnown_11 : decode cX4_isKnown 11 = .ok (.istore_n 2, 1) := by decide +kernel
theorem dX4_isKnown_12 : decode cX4_isKnown 12 = .ok (.iconst 0, 1) := by decide +kernel
theorem dX4_isKnown_13 : decode cX4_isKnown 13 = .ok (.istore_n 3, 1) := by decide +kernel
theorem dX4_isKnown_14 : decode cX4_isKnown 14 = .ok (.iload_n 3, 1) := by decide +kernel
theorem dX4_isKnown_15 : decode cX4_isKnown 15 = .ok (.aload_n 0, 1) := by decide +kernel
theorem dX4_isKnown_16 : decode cX4_isKnown 16 = .ok (.getfield 68, 3) := by decide +kernel
theorem dX4_isKnown_19 : decode cX4_isKnown 19 = .ok (.if_icmp .ge 41, 3) := by decide +kernel
theorem dX4_isKnown_22 : decode cX4_isKnown 22 = .ok (.iload_n 3, 1) := by decide +kernel
theorem dX4_isKnown_23 : decode cX4_isKnown 23 = .ok (.iload_n 1, 1) := by decide +kernel
theorem dX4_isKnown_24 : decode cX4_isKnown 24 = .ok (.if_icmp .eq 30, 3) := by decide +kernel
theorem dX4_isKnown_27 : decode cX4_isKnown 27 = .ok (.aload_n 0, 1) := by decide +kernel
theorem dX4_isKnown_28 : decode cX4_isKnown 28 = .ok (.getfield 28, 3) := by decide +kernel
theorem dX4_isKnown_31 : decode cX4_isKnown 31 = .ok (.iload_n 3, 1) := by decide +kernel
theorem dX4_isKnown_32 : decode cX4_isKnown 32 = .ok (.iaload, 1) := by decide +kernel
theorem dX4_isKnown_33 : decode cX4_isKnown 33 = .ok (.iload_n 1, 1) := by decide +kernel
theorem dX4_isKnown_34 : decode cX4_isKnown 34 = .ok (.if_icmp .ne 20, 3) := by decide +kernel
theorem dX4_isKnown_37 : decode cX4_isKnown 37 = .ok (.aload_n 0, 1) := by decide +kernel
theorem dX4_isKnown_38 : decode cX4_isKnown 38 = .ok (.iload_n 3, 1) := by decide +kernel
theorem dX4_isKnown_39 : decode cX4_isKnown 39 = .ok (.aload_n 0, 1) := by decide +kernel
theorem dX4_isKnown_40 : decode cX4_isKnown 40 = .ok (.getfield 40, 3) := by decide +kernel
theorem dX4_isKnown_43 : decode cX4_isKnown 43 = .ok (.iload_n 3, 1) := by decide +kernel
theorem dX4_isKnown_44 : decode cX4_isKnown 44 = .ok (.iaload, 1) := by decide +kernel
theorem dX4_isKnown_45 : decode cX4_isKnown 45 = .ok (.invokevirtual 125, 3) := by decide +kernel
theorem dX4_isKnown_48 : decode cX4_isKnown 48 = .ok (.iload_n 2, 1) := by decide +kernel
theorem dX4_isKnown_49 : decode cX4_isKnown 49 = .ok (.if_icmp .ne 5, 3) := by decide +kernel
theorem dX4_isKnown_52 : decode cX4_isKnown 52 = .ok (.iconst 1, 1) := by decide +kernel
theorem dX4_isKnown_53 : decode cX4_isKnown 53 = .ok (.ireturn, 1) := by decide +kernel
theorem dX4_isKnown_54 : decode cX4_isKnown 54 = .ok (.iinc 3 1, 3) := by decide +kernel
theorem dX4_isKnown_57 : decode cX4_isKnown 57 = .ok (.goto (-43), 3) := by decide +kernel
theorem dX4_isKnown_60 : decode cX4_isKnown 60 = .ok (.iconst 0, 1) := by decide +kernel
theorem dX4_isKnown_61 : decode cX4_isKnown 61 = .ok (.ireturn, 1) := by decide +kernel
set_option maxRecDepth 20000 in
theorem ggX4_tells_X4_isKnown : GoodIn wsX4_tells wsX4_isKnown := goodIn_r _ [7, 2, 8, 9, 10, 11, 12, 6, 13, 14, 15, 16, 17, 18, 19, 20, 21, 22, 23, 24, 25, 26, 27, 28, 29, 30, 31, 32, 33, 34, 35, 36, 37, 38, 39, 40, 41, 42, 43, 44, 45] (by decide +kernel) (by decide +kernel)
set_option maxRecDepth 20000 in
theorem gX4_tells_X4_isKnown : GoodIn wsX4_tells (wsV RX4 131 RX4 yX4_isKnown wsX4_isKnown) := goodIn_app (goodIn_of _ (by decide +kernel)) ggX4_tells_X4_isKnown
theorem dX4_tells_0 : decode cX4_tells 0 = .ok (.aload_n 0, 1) := by decide +kernel
theorem dX4_tells_1 : decode cX4_tells 1 = .ok (.getfield 25, 3) := by decide +kernel
theorem dX4_tells_4 : decode cX4_tells 4 = .ok (.iload_n 1, 1) := by decide +kernel
theorem dX4_tells_5 : decode cX4_tells 5 = .ok (.iaload, 1) := by decide +kernel
theorem dX4_tells_6 : decode cX4_tells 6 = .ok (.iload_n 2, 1) := by decide +kernel
theorem dX4_tells_7 : decode cX4_tells 7 = .ok (.ishr, 1) := by decide +kernel
theorem dX4_tells_8 : decode cX4_tells 8 = .ok (.iconst 1, 1) := by decide +kernel
theorem dX4_tells_9 : decode cX4_tells 9 = .ok (.iand, 1) := by decide +kernel
theorem dX4_tells_10 : decode cX4_tells 10 = .ok (.ifCond .ne 20, 3) := by decide +kernel
theorem dX4_tells_13 : decode cX4_tells 13 = .ok (.aload_n 0, 1) := by decide +kernel
theorem dX4_tells_14 : decode cX4_tells 14 = .ok (.iload_n 1, 1) := by decide +kernel
theorem dX4_tells_15 : decode cX4_tells 15 = .ok (.invokevirtual 131, 3) := by decide +kernel
theorem dX4_tells_18 : decode cX4_tells 18 = .ok (.ifCond .eq 12, 3) := by decide +kernel
theorem dX4_tells_21 : decode cX4_tells 21 = .ok (.aload_n 0, 1) := by decide +kernel
theorem dX4_tells_22 : decode cX4_tells 22 = .ok (.getfield 40, 3) := by decide +kernel
theorem dX4_tells_25 : decode cX4_tells 25 = .ok (.iload_n 1, 1) := by decide +kernel
theorem dX4_tells_26 : decode cX4_tells 26 = .ok (.iconst 0, 1) := by decide +kernel
theorem dX4_tells_27 : decode cX4_tells 27 = .ok (.iastore, 1) := by decide +kernel
theorem dX4_tells_28 : decode cX4_tells 28 = .ok (.iconst 1, 1) := by decide +kernel
theorem dX4_tells_29 : decode cX4_tells 29 = .ok (.ireturn, 1) := by decide +kernel
theorem dX4_tells_30 : decode cX4_tells 30 = .ok (.aload_n 0, 1) := by decide +kernel
theorem dX4_tells_31 : decode cX4_tells 31 = .ok (.getfield 40, 3) := by decide +kernel
theorem dX4_tells_34 : decode cX4_tells 34 = .ok (.iload_n 1, 1) := by decide +kernel
theorem dX4_tells_35 : decode cX4_tells 35 = .ok (.dup2, 1) := by decide +kernel
theorem dX4_tells_36 : decode cX4_tells 36 = .ok (.iaload, 1) := by decide +kernel
theorem dX4_tells_37 : decode cX4_tells 37 = .ok (.iconst 1, 1) := by decide +kernel
theorem dX4_tells_38 : decode cX4_tells 38 = .ok (.iload_n 2, 1) := by decide +kernel
theorem dX4_tells_39 : decode cX4_tells 39 = .ok (.ishl, 1) := by decide +kernel
theorem dX4_tells_40 : decode cX4_tells 40 = .ok (.ior, 1) := by decide +kernel
theorem dX4_tells_41 : decode cX4_tells 41 = .ok (.iastore, 1) := by decide +kernel
theorem dX4_tells_42 : decode cX4_tells 42 = .ok (.iconst 0, 1) := by decide +kernel
theorem dX4_tells_43 : decode cX4_tells 43 = .ok (.ireturn, 1) := by decide +kernel
set_option maxRecDepth 20000 in
theorem ggX4_say_X4_isPerson : GoodIn wsX4_say wsX4_isPerson := goodIn_r _ [7, 8, 38, 39, 40, 41, 42, 43, 44, 45, 46, 47, 48, 49, 50, 51, 52, 53, 54, 55, 56, 57, 58, 59, 60, 61, 62] (by decide +kernel) (by decide +kernel)
set_option maxRecDepth 20000 in
theorem gX4_say_X4_isPerson : GoodIn wsX4_say (wsV RX4 122 RX4 yX4_isPerson wsX4_isPerson) := goodIn_app (goodIn_of _ (by decide +kernel)) ggX4_say_X4_isPerson
set_option maxRecDepth 20000 in
theorem ggX4_say_X4_isDeed : GoodIn wsX4_say wsX4_isDeed := goodIn_r _ [12, 13, 38, 39, 40, 41, 42, 43, 44, 45, 46, 47, 48, 49, 50, 51, 52, 53, 54, 55, 56, 57, 58, 59, 60, 61, 62] (by decide +kernel) (by decide +kernel)
set_option maxRecDepth 20000 in
theorem gX4_say_X4_isDeed : GoodIn wsX4_say (wsV RX4 128 RX4 yX4_isDeed wsX4_isDeed) := goodIn_app (goodIn_of _ (by decide +kernel)) ggX4_say_X4_isDeed
set_option maxRecDepth 20000 in
theorem ggX4_say_X4_asNow : GoodIn wsX4_say wsX4_asNow := goodIn_r _ [17, 8, 2, 1, 38, 39, 40, 41, 42, 43, 44, 45, 46, 47, 48, 49, 50, 51, 52, 53, 54, 55, 56, 57, 58, 59, 60, 61, 62] (by decide +kernel) (by decide +kernel)
set_option maxRecDepth 20000 in
theorem gX4_say_X4_asNow : GoodIn wsX4_say (wsV RX4 134 RX4 yX4_asNow wsX4_asNow) := goodIn_app (goodIn_of _ (by decide +kernel)) ggX4_say_X4_asNow
set_option maxRecDepth 20000 in
theorem ggX4_say_X4_tells : GoodIn wsX4_say wsX4_tells := goodIn_r _ [21, 22, 2, 23, 24, 25, 6, 26, 8, 27, 28, 29, 30, 31, 13, 32, 33, 34, 35, 36, 37, 38, 39, 40, 41, 42, 43, 44, 45, 46, 47, 48, 49, 50, 51, 52, 53, 54, 55, 56, 57, 58, 59, 60, 61, 62] (by decide +kernel) (by decide +kernel)
set_option maxRecDepth 20000 in
theorem gX4_say_X4_tells : GoodIn wsX4_say (wsV RX4 137 RX4 yX4_tells wsX4_tells) := goodIn_app (goodIn_of _ (by decide +kernel)) ggX4_say_X4_tells
set_option maxRecDepth 20000 in
theorem ggX4_say_X4_floorBy : GoodIn wsX4_say wsX4_floorBy := goodIn_r _ [31, 13, 32, 33, 34, 6, 35, 36, 37, 38, 39, 40, 41, 42, 43, 44, 45, 46, 47, 48, 49, 50, 51, 52, 53, 54, 55, 56, 57, 58, 59, 60, 61, 62] (by decide +kernel) (by decide +kernel)
set_option maxRecDepth 20000 in
theorem gX4_say_X4_floorBy : GoodIn wsX4_say (wsV RX4 125 RX4 yX4_floorBy wsX4_floorBy) := goodIn_app (goodIn_of _ (by decide +kernel)) ggX4_say_X4_floorBy
theorem dX4_say_0 : decode cX4_say 0 = .ok (.aload_n 0, 1) := by decide +kernel
theorem dX4_say_1 : decode cX4_say 1 = .ok (.iload_n 1, 1) := by decide +kernel
theorem dX4_say_2 : decode cX4_say 2 = .ok (.invokevirtual 122, 3) := by decide +kernel
theorem dX4_say_5 : decode cX4_say 5 = .ok (.ifCond .eq 11, 3) := by decide +kernel
theorem dX4_say_8 : decode cX4_say 8 = .ok (.aload_n 0, 1) := by decide +kernel
theorem dX4_say_9 : decode cX4_say 9 = .ok (.iload_n 2, 1) := by decide +kernel
theorem dX4_say_10 : decode cX4_say 10 = .ok (.invokevirtual 128, 3) := by decide +kernel
theorem dX4_say_13 : decode cX4_say 13 = .ok (.ifCond .ne 5, 3) := by decide +kernel
theorem dX4_say_16 : decode cX4_say 16 = .ok (.iconst (-1), 1) := by decide +kernel
theorem dX4_say_17 : decode cX4_say 17 = .ok (.ireturn, 1) := by decide +kernel
theorem dX4_say_18 : decode cX4_say 18 = .ok (.aload_n 0, 1) := by decide +kernel
theorem dX4_say_19 : decode cX4_say 19 = .ok (.getfield 31, 3) := by decide +kernel
theorem dX4_say_22 : decode cX4_say 22 = .ok (.iload_n 1, 1) := by decide +kernel
theorem dX4_say_23 : decode cX4_say 23 = .ok (.iaload, 1) := by decide +kernel
theorem dX4_say_24 : decode cX4_say 24 = .ok (.iload_n 2, 1) := by decide +kernel
theorem dX4_say_25 : decode cX4_say 25 = .ok (.ishr, 1) := by decide +kernel
theorem dX4_say_26 : decode cX4_say 26 = .ok (.iconst 1, 1) := by decide +kernel
theorem dX4_say_27 : decode cX4_say 27 = .ok (.iand, 1) := by decide +kernel
theorem dX4_say_28 : decode cX4_say 28 = .ok (.iconst 1, 1) := by decide +kernel
theorem dX4_say_29 : decode cX4_say 29 = .ok (.if_icmp .ne 6, 3) := by decide +kernel
theorem dX4_say_32 : decode cX4_say 32 = .ok (.bipush (-3), 2) := by decide +kernel
theorem dX4_say_34 : decode cX4_say 34 = .ok (.ireturn, 1) := by decide +kernel
theorem dX4_say_35 : decode cX4_say 35 = .ok (.aload_n 0, 1) := by decide +kernel
theorem dX4_say_36 : decode cX4_say 36 = .ok (.invokevirtual 134, 3) := by decide +kernel
theorem dX4_say_39 : decode cX4_say 39 = .ok (.aload_n 0, 1) := by decide +kernel
theorem dX4_say_40 : decode cX4_say 40 = .ok (.iload_n 1, 1) := by decide +kernel
theorem dX4_say_41 : decode cX4_say 41 = .ok (.iload_n 2, 1) := by decide +kernel
theorem dX4_say_42 : decode cX4_say 42 = .ok (.invokevirtual 137, 3) := by decide +kernel
theorem dX4_say_45 : decode cX4_say 45 = .ok (.pop, 1) := by decide +kernel
theorem dX4_say_46 : decode cX4_say 46 = .ok (.aload_n 0, 1) := by decide +kernel
theorem dX4_say_47 : decode cX4_say 47 = .ok (.getfield 31, 3) := by decide +kernel
theorem dX4_say_50 : decode cX4_say 50 = .ok (.iload_n 1, 1) := by decide +kernel
theorem dX4_say_51 : decode cX4_say 51 = .ok (.aload_n 0, 1) := by decide +kernel
theorem dX4_say_52 : decode cX4_say 52 = .ok (.getfield 40, 3) := by decide +kernel
theorem dX4_say_55 : decode cX4_say 55 = .ok (.iload_n 1, 1) := by decide +kernel
theorem dX4_say_56 : decode cX4_say 56 = .ok (.iaload, 1) := by decide +kernel
theorem dX4_say_57 : decode cX4_say 57 = .ok (.iastore, 1) := by decide +kernel
theorem dX4_say_58 : decode cX4_say 58 = .ok (.aload_n 0, 1) := by decide +kernel
theorem dX4_say_59 : decode cX4_say 59 = .ok (.iload_n 1, 1) := by decide +kernel
theorem dX4_say_60 : decode cX4_say 60 = .ok (.aload_n 0, 1) := by decide +kernel
theorem dX4_say_61 : decode cX4_say 61 = .ok (.getfield 31, 3) := by decide +kernel
theorem dX4_say_64 : decode cX4_say 64 = .ok (.iload_n 1, 1) := by decide +kernel
theorem dX4_say_65 : decode cX4_say 65 = .ok (.iaload, 1) := by decide +kernel
theorem dX4_say_66 : decode cX4_say 66 = .ok (.invokevirtual 125, 3) := by decide +kernel
theorem dX4_say_69 : decode cX4_say 69 = .ok (.ireturn, 1) := by decide +kernel
set_option maxRecDepth 20000 in
theorem ggX4_hush_X4_isPerson : GoodIn wsX4_hush wsX4_isPerson := goodIn_r _ [6, 7, 19, 20, 21, 22, 23, 24, 25, 26, 27, 28, 29, 30, 31, 32, 33, 34, 35, 36, 37, 38, 39, 40, 41, 42, 43] (by decide +kernel) (by decide +kernel)
set_option maxRecDepth 20000 in
theorem gX4_hush_X4_isPerson : GoodIn wsX4_hush (wsV RX4 122 RX4 yX4_isPerson wsX4_isPerson) := goodIn_app (goodIn_of _ (by decide +kernel)) ggX4_hush_X4_isPerson
set_option maxRecDepth 20000 in
theorem ggX4_hush_X4_floorBy : GoodIn wsX4_hush wsX4_floorBy := goodIn_r _ [11, 12, 13, 14, 15, 5, 16, 17, 18, 19, 20, 21, 22, 23, 24, 25, 26, 27, 28, 29, 30, 31, 32, 33, 34, 35, 36, 37, 38, 39, 40, 41, 42, 43] (by decide +kernel) (by decide +kernel)
set_option maxRecDepth 20000 in
theorem gX4_hush_X4_floorBy : GoodIn wsX4_hush (wsV RX4 125 RX4 yX4_floorBy wsX4_floorBy) := goodIn_app (goodIn_of _ (by decide +kernel)) ggX4_hush_X4_floorBy
theorem dX4_hush_0 : decode cX4_hush 0 = .ok (.aload_n 0, 1) := by decide +kernel
theorem dX4_hush_1 : decode cX4_hush 1 = .ok (.iload_n 1, 1) := by decide +kernel
theorem dX4_hush_2 : decode cX4_hush 2 = .ok (.invokevirtual 122, 3) := by decide +kernel
theorem dX4_hush_5 : decode cX4_hush 5 = .ok (.ifCond .ne 5, 3) := by decide +kernel
theorem dX4_hush_8 : decode cX4_hush 8 = .ok (.iconst (-1), 1) := by decide +kernel
theorem dX4_hush_9 : decode cX4_hush 9 = .ok (.ireturn, 1) := by decide +kernel
theorem dX4_hush_10 : decode cX4_hush 10 = .ok (.aload_n 0, 1) := by decide +kernel
theorem dX4_hush_11 : decode cX4_hush 11 = .ok (.iload_n 1, 1) := by decide +kernel
theorem dX4_hush_12 : decode cX4_hush 12 = .ok (.aload_n 0, 1) := by decide +kernel
theorem dX4_hush_13 : decode cX4_hush 13 = .ok (.getfield 31, 3) := by decide +kernel
theorem dX4_hush_16 : decode cX4_hush 16 = .ok (.iload_n 1, 1) := by decide +kernel
theorem dX4_hush_17 : decode cX4_hush 17 = .ok (.iaload, 1) := by decide +kernel
theorem dX4_hush_18 : decode cX4_hush 18 = .ok (.invokevirtual 125, 3) := by decide +kernel
theorem dX4_hush_21 : decode cX4_hush 21 = .ok (.istore_n 2, 1) := by decide +kernel
theorem dX4_hush_22 : decode cX4_hush 22 = .ok (.aload_n 0, 1) := by decide +kernel
theorem dX4_hush_23 : decode cX4_hush 23 = .ok (.getfield 31, 3) := by decide +kernel
theorem dX4_hush_26 : decode cX4_hush 26 = .ok (.iload_n 1, 1) := by decide +kernel
theorem dX4_hush_27 : decode cX4_hush 27 = .ok (.iconst 0, 1) := by decide +kernel
theorem dX4_hush_28 : decode cX4_hush 28 = .ok (.iastore, 1) := by decide +kernel
theorem dX4_hush_29 : decode cX4_hush 29 = .ok (.iload_n 2, 1) := by decide +kernel
theorem dX4_hush_30 : decode cX4_hush 30 = .ok (.ireturn, 1) := by decide +kernel
set_option maxRecDepth 20000 in
theorem ggX4_landing_X4_floorBy : GoodIn wsX4_landing wsX4_floorBy := goodIn_r _ [7, 8, 9, 10, 11, 6, 12, 13, 14, 15, 16, 17, 18, 19, 20, 21, 22, 23, 24, 25, 26, 27, 28, 29, 30, 31, 32, 33, 34, 35, 36, 37, 38, 39] (by decide +kernel) (by decide +kernel)
set_option maxRecDepth 20000 in
theorem gX4_landing_X4_floorBy : GoodIn wsX4_landing (wsV RX4 125 RX4 yX4_floorBy wsX4_floorBy) := goodIn_app (goodIn_of _ (by decide +kernel)) ggX4_landing_X4_floorBy
theorem dX4_landing_0 : decode cX4_landing 0 = .ok (.aload_n 0, 1) := by decide +kernel
theorem dX4_landing_1 : decode cX4_landing 1 = .ok (.getfield 68, 3) := by decide +kernel
theorem dX4_landing_4 : decode cX4_landing 4 = .ok (.ifCond .ne 6, 3) := by decide +kernel
theorem dX4_landing_7 : decode cX4_landing 7 = .ok (.bipush (-3), 2) := by decide +kernel
theorem dX4_landing_9 : decode cX4_landing 9 = .ok (.ireturn, 1) := by decide +kernel
theorem dX4_landing_10 : decode cX4_landing 10 = .ok (.iload_n 1, 1) := by decide +kernel
theorem dX4_landing_11 : decode cX4_landing 11 = .ok (.ifCond .ge 6, 3) := by decide +kernel
theorem dX4_landing_14 : decode cX4_landing 14 = .ok (.bipush (-2), 2) := by decide +kernel
theorem dX4_landing_16 : decode cX4_landing 16 = .ok (.ireturn, 1) := by decide +kernel
theorem dX4_landing_17 : decode cX4_landing 17 = .ok (.iconst 0, 1) := by decide +kernel
theorem dX4_landing_18 : decode cX4_landing 18 = .ok (.istore_n 2, 1) := by decide +kernel
theorem dX4_landing_19 : decode cX4_landing 19 = .ok (.iconst 0, 1) := by decide +kernel
theorem dX4_landing_20 : decode cX4_landing 20 = .ok (.istore_n 3, 1) := by decide +kernel
theorem dX4_landing_21 : decode cX4_landing 21 = .ok (.iload_n 3, 1) := by decide +kernel
theorem dX4_landing_22 : decode cX4_landing 22 = .ok (.aload_n 0, 1) := by decide +kernel
theorem dX4_landing_23 : decode cX4_landing 23 = .ok (.getfield 68, 3) := by decide +kernel
theorem dX4_landing_26 : decode cX4_landing 26 = .ok (.if_icmp .ge 34, 3) := by decide +kernel
theorem dX4_landing_29 : decode cX4_landing 29 = .ok (.iload_n 2, 1) := by decide +kernel
theorem dX4_landing_30 : decode cX4_landing 30 = .ok (.aload_n 0, 1) := by decide +kernel
theorem dX4_landing_31 : decode cX4_landing 31 = .ok (.iload_n 3, 1) := by decide +kernel
theorem dX4_landing_32 : decode cX4_landing 32 = .ok (.aload_n 0, 1) := by decide +kernel
theorem dX4_landing_33 : decode cX4_landing 33 = .ok (.getfield 31, 3) := by decide +kernel
theorem dX4_landing_36 : decode cX4_landing 36 = .ok (.iload_n 3, 1) := by decide +kernel
theorem dX4_landing_37 : decode cX4_landing 37 = .ok (.iaload, 1) := by decide +kernel
theorem dX4_landing_38 : decode cX4_landing 38 = .ok (.invokevirtual 125, 3) := by decide +kernel
theorem dX4_landing_41 : decode cX4_landing 41 = .ok (.iload_n 1, 1) := by decide +kernel
theorem dX4_landing_42 : decode cX4_landing 42 = .ok (.if_icmp .ne 9, 3) := by decide +kernel
theorem dX4_landing_45 : decode cX4_landing 45 = .ok (.iconst 1, 1) := by decide +kernel
theorem dX4_landing_46 : decode cX4_landing 46 = .ok (.iload_n 3, 1) := by decide +kernel
theorem dX4_landing_47 : decode cX4_landing 47 = .ok (.ishl, 1) := by decide +kernel
theorem dX4_landing_48 : decode cX4_landing 48 = .ok (.goto 4, 3) := by decide +kernel
theorem dX4_landing_51 : decode cX4_landing 51 = .ok (.iconst 0, 1) := by decide +kernel
theorem dX4_landing_52 : decode cX4_landing 52 = .ok (.ior, 1) := by decide +kernel
theorem dX4_landing_53 : decode cX4_landing 53 = .ok (.istore_n 2, 1) := by decide +kernel
theorem dX4_landing_54 : decode cX4_landing 54 = .ok (.iinc 3 1, 3) := by decide +kernel
theorem dX4_landing_57 : decode cX4_landing 57 = .ok (.goto (-36), 3) := by decide +kernel
theorem dX4_landing_60 : decode cX4_landing 60 = .ok (.iload_n 2, 1) := by decide +kernel
theorem dX4_landing_61 : decode cX4_landing 61 = .ok (.ireturn, 1) := by decide +kernel
set_option maxRecDepth 20000 in
theorem ggX4_isRow_X4_isSort : GoodIn wsX4_isRow wsX4_isSort := goodIn_r _ [4, 5, 6, 3, 7] (by decide +kernel) (by decide +kernel)
set_option maxRecDepth 20000 in
theorem gX4_isRow_X4_isSort : GoodIn wsX4_isRow (va_wsS RX4 78 yX4_isSort wsX4_isSort) := goodIn_app (goodIn_of _ (by decide +kernel)) ggX4_isRow_X4_isSort
set_option maxRecDepth 20000 in
theorem ggX4_isRow_X4_within : GoodIn wsX4_isRow wsX4_within := goodIn_r _ [7] (by decide +kernel) (by decide +kernel)
set_option maxRecDepth 20000 in
theorem gX4_isRow_X4_within : GoodIn wsX4_isRow (va_wsS RX4 61 yX4_within wsX4_within) := goodIn_app (goodIn_of _ (by decide +kernel)) ggX4_isRow_X4_within
theorem dX4_isRow_0 : decode cX4_isRow 0 = .ok (.iload_n 0, 1) := by decide +kernel
theorem dX4_isRow_1 : decode cX4_isRow 1 = .ok (.invokestatic 78, 3) := by decide +kernel
theorem dX4_isRow_4 : decode cX4_isRow 4 = .ok (.ifCond .eq 17, 3) := by decide +kernel
theorem dX4_isRow_7 : decode cX4_isRow 7 = .ok (.iload_n 1, 1) := by decide +kernel
theorem dX4_isRow_8 : decode cX4_isRow 8 = .ok (.iconst 0, 1) := by decide +kernel
theorem dX4_isRow_9 : decode cX4_isRow 9 = .ok (.bipush 20, 2) := by decide +kernel
theorem dX4_isRow_11 : decode cX4_isRow 11 = .ok (.invokestatic 61, 3) := by decide +kernel
theorem dX4_isRow_14 : decode cX4_isRow 14 = .ok (.ifCond .eq 7, 3) := by decide +kernel
theorem dX4_isRow_17 : decode cX4_isRow 17 = .ok (.iconst 1, 1) := by decide +kernel
theorem dX4_isRow_18 : decode cX4_isRow 18 = .ok (.goto 4, 3) := by decide +kernel
theorem dX4_isRow_21 : decode cX4_isRow 21 = .ok (.iconst 0, 1) := by decide +kernel
theorem dX4_isRow_22 : decode cX4_isRow 22 = .ok (.ireturn, 1) := by decide +kernel
set_option maxRecDepth 20000 in
theorem ggX4_layDays_X4_against : GoodIn wsX4_layDays wsX4_against := goodIn_r _ [10, 11, 12, 27, 28, 29, 30, 31, 32, 33, 34, 35, 36, 37, 38, 39, 40, 41, 42, 43, 44, 45, 46, 47, 48, 49, 50, 51] (by decide +kernel) (by decide +kernel)
set_option maxRecDepth 20000 in
theorem gX4_layDays_X4_against : GoodIn wsX4_layDays (wsV RX4 81 RX4 yX4_against wsX4_against) := goodIn_app (goodIn_of _ (by decide +kernel)) ggX4_layDays_X4_against
set_option maxRecDepth 20000 in
theorem ggX4_layDays_X4_fails : GoodIn wsX4_layDays wsX4_fails := goodIn_r _ [16, 17, 27, 28, 29, 30, 31, 32, 33, 34, 35, 36, 37, 38, 39, 40, 41, 42, 43, 44, 45, 46, 47, 48, 49, 50, 51] (by decide +kernel) (by decide +kernel)
set_option maxRecDepth 20000 in
theorem gX4_layDays_X4_fails : GoodIn wsX4_layDays (wsV RX4 85 RX4 yX4_fails wsX4_fails) := goodIn_app (goodIn_of _ (by decide +kernel)) ggX4_layDays_X4_fails
set_option maxRecDepth 20000 in
theorem ggX4_layDays_X4_isPerson : GoodIn wsX4_layDays wsX4_isPerson := goodIn_r _ [21, 1, 27, 28, 29, 30, 31, 32, 33, 34, 35, 36, 37, 38, 39, 40, 41, 42, 43, 44, 45, 46, 47, 48, 49, 50, 51] (by decide +kernel) (by decide +kernel)
set_option maxRecDepth 20000 in
theorem gX4_layDays_X4_isPerson : GoodIn wsX4_layDays (wsV RX4 122 RX4 yX4_isPerson wsX4_isPerson) := goodIn_app (goodIn_of _ (by decide +kernel)) ggX4_layDays_X4_isPerson
set_option maxRecDepth 20000 in
theorem ggX4_layDays_X4_isDeed : GoodIn wsX4_layDays wsX4_isDeed := goodIn_r _ [25, 26, 27, 28, 29, 30, 31, 32, 33, 34, 35, 36, 37, 38, 39, 40, 41, 42, 43, 44, 45, 46, 47, 48, 49, 50, 51] (by decide +kernel) (by decide +kernel)
set_option maxRecDepth 20000 in
theorem gX4_layDays_X4_isDeed : GoodIn wsX4_layDays (wsV RX4 128 RX4 yX4_isDeed wsX4_isDeed) := goodIn_app (goodIn_of _ (by decide +kernel)) ggX4_layDays_X4_isDeed
theorem dX4_layDays_0 : decode cX4_layDays 0 = .ok (.aload_n 0, 1) := by decide +kernel
theorem dX4_layDays_1 : decode cX4_layDays 1 = .ok (.iload_n 1, 1) := by decide +kernel
theorem dX4_layDays_2 : decode cX4_layDays 2 = .ok (.iload_n 2, 1) := by decide +kernel
theorem dX4_layDays_3 : decode cX4_layDays 3 = .ok (.iload_n 3, 1) := by decide +kernel
theorem dX4_layDays_4 : decode cX4_layDays 4 = .ok (.iconst 2, 1) := by decide +kernel
theorem dX4_layDays_5 : decode cX4_layDays 5 = .ok (.iload 4, 2) := by decide +kernel
theorem dX4_layDays_7 : decode cX4_layDays 7 = .ok (.imul, 1) := by decide +kernel
theorem dX4_layDays_8 : decode cX4_layDays 8 = .ok (.invokevirtual 81, 3) := by decide +kernel
theorem dX4_layDays_11 : decode cX4_layDays 11 = .ok (.istore 5, 2) := by decide +kernel
theorem dX4_layDays_13 : decode cX4_layDays 13 = .ok (.iload 5, 2) := by decide +kernel
theorem dX4_layDays_15 : decode cX4_layDays 15 = .ok (.ifCond .eq 10, 3) := by decide +kernel
theorem dX4_layDays_18 : decode cX4_layDays 18 = .ok (.aload_n 0, 1) := by decide +kernel
theorem dX4_layDays_19 : decode cX4_layDays 19 = .ok (.iload 5, 2) := by decide +kernel
theorem dX4_layDays_21 : decode cX4_layDays 21 = .ok (.invokevirtual 85, 3) := by decide +kernel
theorem dX4_layDays_24 : decode cX4_layDays 24 = .ok (.ireturn, 1) := by decide +kernel
theorem dX4_layDays_25 : decode cX4_layDays 25 = .ok (.aload_n 0, 1) := by decide +kernel
theorem dX4_layDays_26 : decode cX4_layDays 26 = .ok (.getfield 68, 3) := by decide +kernel
theorem dX4_layDays_29 : decode cX4_layDays 29 = .ok (.ifCond .ne 6, 3) := by decide +kernel
theorem dX4_layDays_32 : decode cX4_layDays 32 = .ok (.bipush (-3), 2) := by decide +kernel
theorem dX4_layDays_34 : decode cX4_layDays 34 = .ok (.ireturn, 1) := by decide +kernel
theorem dX4_layDays_35 : decode cX4_layDays 35 = .ok (.iconst 0, 1) := by decide +kernel
theorem dX4_layDays_36 : decode cX4_layDays 36 = .ok (.istore 6, 2) := by decide +kernel
theorem dX4_layDays_38 : decode cX4_layDays 38 = .ok (.iload 6, 2) := by decide +kernel
theorem dX4_layDays_40 : decode cX4_layDays 40 = .ok (.iload 4, 2) := by decide +kernel
theorem dX4_layDays_42 : decode cX4_layDays 42 = .ok (.if_icmp .ge 87, 3) := by decide +kernel
theorem dX4_layDays_45 : decode cX4_layDays 45 = .ok (.aload_n 0, 1) := by decide +kernel
theorem dX4_layDays_46 : decode cX4_layDays 46 = .ok (.getfield 43, 3) := by decide +kernel
theorem dX4_layDays_49 : decode cX4_layDays 49 = .ok (.iload 6, 2) := by decide +kernel
theorem dX4_layDays_51 : decode cX4_layDays 51 = .ok (.aload_n 0, 1) := by decide +kernel
theorem dX4_layDays_52 : decode cX4_layDays 52 = .ok (.getfield 16, 3) := by decide +kernel
theorem dX4_layDays_55 : decode cX4_layDays 55 = .ok (.bipush 60, 2) := by decide +kernel
theorem dX4_layDays_57 : decode cX4_layDays 57 = .ok (.iload_n 1, 1) := by decide +kernel
theorem dX4_layDays_58 : decode cX4_layDays 58 = .ok (.imul, 1) := by decide +kernel
theorem dX4_layDays_59 : decode cX4_layDays 59 = .ok (.iload_n 3, 1) := by decide +kernel
theorem dX4_layDays_60 : decode cX4_layDays 60 = .ok (.iadd, 1) := by decide +kernel
theorem dX4_layDays_61 : decode cX4_layDays 61 = .ok (.iconst 2, 1) := by decide +kernel
theorem dX4_layDays_62 : decode cX4_layDays 62 = .ok (.iload 6, 2) := by decide +kernel
theorem dX4_layDays_64 : decode cX4_layDays 64 = .ok (.imul, 1) := by decide +kernel
theorem dX4_layDays_65 : decode cX4_layDays 65 = .ok (.iadd, 1) := by decide +kernel
theorem dX4_layDays_66 : decode cX4_layDays 66 = .ok (.iaload, 1) := by decide +kernel
theorem dX4_layDays_67 : decode cX4_layDays 67 = .ok (.iastore, 1) := by decide +kernel
theorem dX4_layDays_68 : decode cX4_layDays 68 = .ok (.aload_n 0, 1) := by decide +kernel
theorem dX4_layDays_69 : decode cX4_layDays 69 = .ok (.getfield 46, 3) := by decide +kernel
theorem dX4_layDays_72 : decode cX4_layDays 72 = .ok (.iload 6, 2) := by decide +kernel
theorem dX4_layDays_74 : decode cX4_layDays 74 = .ok (.aload_n 0, 1) := by decide +kernel
theorem dX4_layDays_75 : decode cX4_layDays 75 = .ok (.getfield 16, 3) := by decide +kernel
theorem dX4_layDays_78 : decode cX4_layDays 78 = .ok (.bipush 60, 2) := by decide +kernel
theorem dX4_layDays_80 : decode cX4_layDays 80 = .ok (.iload_n 1, 1) := by decide +kernel
theorem dX4_layDays_81 : decode cX4_layDays 81 = .ok (.imul, 1) := by decide +kernel
theorem dX4_layDays_82 : decode cX4_layDays 82 = .ok (.iload_n 3, 1) := by decide +kernel
theorem dX4_layDays_83 : decode cX4_layDays 83 = .ok (.iadd, 1) := by decide +kernel
theorem dX4_layDays_84 : decode cX4_layDays 84 = .ok (.iconst 2, 1) := by decide +kernel
theorem dX4_layDays_85 : decode cX4_layDays 85 = .ok (.iload 6, 2) := by decide +kernel
theorem dX4_layDays_87 : decode cX4_layDays 87 = .ok (.imul, 1) := by decide +kernel
theorem dX4_layDays_88 : decode cX4_layDays 88 = .ok (.iadd, 1) := by decide +kernel
