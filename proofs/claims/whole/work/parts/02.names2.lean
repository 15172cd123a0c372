theorem dX3_init_43 : decode cX3_init 43 = .ok (.invokespecial 20, 3) := by decide +kernel
theorem dX3_init_46 : decode cX3_init 46 = .ok (.putfield 21, 3) := by decide +kernel
theorem dX3_init_49 : decode cX3_init 49 = .ok (.aload_n 0, 1) := by decide +kernel
theorem dX3_init_50 : decode cX3_init 50 = .ok (.bipush 8, 2) := by decide +kernel
theorem dX3_init_52 : decode cX3_init 52 = .ok (.newarray .int, 2) := by decide +kernel
theorem dX3_init_54 : decode cX3_init 54 = .ok (.putfield 25, 3) := by decide +kernel
theorem dX3_init_57 : decode cX3_init 57 = .ok (.aload_n 0, 1) := by decide +kernel
theorem dX3_init_58 : decode cX3_init 58 = .ok (.bipush 8, 2) := by decide +kernel
theorem dX3_init_60 : decode cX3_init 60 = .ok (.newarray .int, 2) := by decide +kernel
theorem dX3_init_62 : decode cX3_init 62 = .ok (.putfield 29, 3) := by decide +kernel
theorem dX3_init_65 : decode cX3_init 65 = .ok (.aload_n 0, 1) := by decide +kernel
theorem dX3_init_66 : decode cX3_init 66 = .ok (.new 32, 3) := by decide +kernel
theorem dX3_init_69 : decode cX3_init 69 = .ok (.dup, 1) := by decide +kernel
theorem dX3_init_70 : decode cX3_init 70 = .ok (.invokespecial 34, 3) := by decide +kernel
theorem dX3_init_73 : decode cX3_init 73 = .ok (.putfield 35, 3) := by decide +kernel
theorem dX3_init_76 : decode cX3_init 76 = .ok (.aload_n 0, 1) := by decide +kernel
theorem dX3_init_77 : decode cX3_init 77 = .ok (.new 32, 3) := by decide +kernel
theorem dX3_init_80 : decode cX3_init 80 = .ok (.dup, 1) := by decide +kernel
theorem dX3_init_81 : decode cX3_init 81 = .ok (.invokespecial 34, 3) := by decide +kernel
theorem dX3_init_84 : decode cX3_init 84 = .ok (.putfield 39, 3) := by decide +kernel
theorem dX3_init_87 : decode cX3_init 87 = .ok (.return_, 1) := by decide +kernel
set_option maxRecDepth 20000 in
theorem ggX3_tower_X3_isSheet : GoodIn wsX3_tower wsX3_isSheet := goodIn_r _ [11] (by decide +kernel) (by decide +kernel)
set_option maxRecDepth 20000 in
theorem gX3_tower_X3_isSheet : GoodIn wsX3_tower (va_wsS RX3 46 yX3_isSheet wsX3_isSheet) := goodIn_app (goodIn_of _ (by decide +kernel)) ggX3_tower_X3_isSheet
set_option maxRecDepth 20000 in
theorem ggX3_tower_X3_isLane : GoodIn wsX3_tower wsX3_isLane := goodIn_r _ [14] (by decide +kernel) (by decide +kernel)
set_option maxRecDepth 20000 in
theorem gX3_tower_X3_isLane : GoodIn wsX3_tower (va_wsS RX3 50 yX3_isLane wsX3_isLane) := goodIn_app (goodIn_of _ (by decide +kernel)) ggX3_tower_X3_isLane
set_option maxRecDepth 20000 in
theorem ggX3_tower_X0_faultOf : GoodIn wsX3_tower wsX0_faultOf := goodIn_r _ [19, 20, 21, 22, 23, 18, 24, 25, 26, 27, 28, 29, 105, 106, 107] (by decide +kernel) (by decide +kernel)
set_option maxRecDepth 20000 in
theorem gX3_tower_X0_faultOf : GoodIn wsX3_tower (wsV RX3 53 RX0 yX0_faultOf wsX0_faultOf) := goodIn_app (goodIn_of _ (by decide +kernel)) ggX3_tower_X0_faultOf
set_option maxRecDepth 20000 in
theorem ggX3_tower_X3_faulted : GoodIn wsX3_tower wsX3_faulted := goodIn_r _ [33, 1, 88, 89, 90, 91, 92, 93, 94, 95, 96] (by decide +kernel) (by decide +kernel)
set_option maxRecDepth 20000 in
theorem gX3_tower_X3_faulted : GoodIn wsX3_tower (wsV RX3 57 RX3 yX3_faulted wsX3_faulted) := goodIn_app (goodIn_of _ (by decide +kernel)) ggX3_tower_X3_faulted
set_option maxRecDepth 20000 in
theorem ggX3_tower_X1_firstFault : GoodIn wsX3_tower wsX1_firstFault := goodIn_r _ [38, 39, 40, 41, 42, 43, 44, 45, 46, 47, 48, 49, 50, 51, 52, 53, 37, 54, 55, 56, 57, 58, 59, 60, 61, 62, 63, 64, 65, 66, 67, 68, 69, 70, 71, 72, 73, 74, 75, 76, 77, 78, 79, 80, 81, 82, 83, 84, 85, 86, 87, 105, 106, 107, 108, 109, 110, 111, 97, 98, 99, 100, 101, 102, 103, 104] (by decide +kernel) (by decide +kernel)
set_option maxRecDepth 20000 in
theorem gX3_tower_X1_firstFault : GoodIn wsX3_tower (wsV RX3 61 RX1 yX1_firstFault wsX1_firstFault) := goodIn_app (goodIn_of _ (by decide +kernel)) ggX3_tower_X1_firstFault
theorem dX3_tower_0 : decode cX3_tower 0 = .ok (.aload_n 0, 1) := by decide +kernel
theorem dX3_tower_1 : decode cX3_tower 1 = .ok (.iconst 0, 1) := by decide +kernel
theorem dX3_tower_2 : decode cX3_tower 2 = .ok (.putfield 42, 3) := by decide +kernel
theorem dX3_tower_5 : decode cX3_tower 5 = .ok (.iload_n 1, 1) := by decide +kernel
theorem dX3_tower_6 : decode cX3_tower 6 = .ok (.invokestatic 46, 3) := by decide +kernel
theorem dX3_tower_9 : decode cX3_tower 9 = .ok (.ifCond .ne 5, 3) := by decide +kernel
theorem dX3_tower_12 : decode cX3_tower 12 = .ok (.iconst (-1), 1) := by decide +kernel
theorem dX3_tower_13 : decode cX3_tower 13 = .ok (.ireturn, 1) := by decide +kernel
theorem dX3_tower_14 : decode cX3_tower 14 = .ok (.iload_n 2, 1) := by decide +kernel
theorem dX3_tower_15 : decode cX3_tower 15 = .ok (.invokestatic 50, 3) := by decide +kernel
theorem dX3_tower_18 : decode cX3_tower 18 = .ok (.ifCond .ne 6, 3) := by decide +kernel
theorem dX3_tower_21 : decode cX3_tower 21 = .ok (.bipush (-2), 2) := by decide +kernel
theorem dX3_tower_23 : decode cX3_tower 23 = .ok (.ireturn, 1) := by decide +kernel
theorem dX3_tower_24 : decode cX3_tower 24 = .ok (.aload_n 0, 1) := by decide +kernel
theorem dX3_tower_25 : decode cX3_tower 25 = .ok (.getfield 13, 3) := by decide +kernel
theorem dX3_tower_28 : decode cX3_tower 28 = .ok (.iload_n 1, 1) := by decide +kernel
theorem dX3_tower_29 : decode cX3_tower 29 = .ok (.aaload, 1) := by decide +kernel
theorem dX3_tower_30 : decode cX3_tower 30 = .ok (.iload_n 2, 1) := by decide +kernel
theorem dX3_tower_31 : decode cX3_tower 31 = .ok (.iload_n 3, 1) := by decide +kernel
theorem dX3_tower_32 : decode cX3_tower 32 = .ok (.iload 4, 2) := by decide +kernel
theorem dX3_tower_34 : decode cX3_tower 34 = .ok (.invokevirtual 53, 3) := by decide +kernel
theorem dX3_tower_37 : decode cX3_tower 37 = .ok (.istore 5, 2) := by decide +kernel
theorem dX3_tower_39 : decode cX3_tower 39 = .ok (.iload 5, 2) := by decide +kernel
theorem dX3_tower_41 : decode cX3_tower 41 = .ok (.ifCond .eq 10, 3) := by decide +kernel
theorem dX3_tower_44 : decode cX3_tower 44 = .ok (.aload_n 0, 1) := by decide +kernel
theorem dX3_tower_45 : decode cX3_tower 45 = .ok (.iload 5, 2) := by decide +kernel
theorem dX3_tower_47 : decode cX3_tower 47 = .ok (.invokevirtual 57, 3) := by decide +kernel
theorem dX3_tower_50 : decode cX3_tower 50 = .ok (.ireturn, 1) := by decide +kernel
theorem dX3_tower_51 : decode cX3_tower 51 = .ok (.aload_n 0, 1) := by decide +kernel
theorem dX3_tower_52 : decode cX3_tower 52 = .ok (.getfield 21, 3) := by decide +kernel
theorem dX3_tower_55 : decode cX3_tower 55 = .ok (.aload_n 0, 1) := by decide +kernel
theorem dX3_tower_56 : decode cX3_tower 56 = .ok (.getfield 13, 3) := by decide +kernel
theorem dX3_tower_59 : decode cX3_tower 59 = .ok (.iload_n 1, 1) := by decide +kernel
theorem dX3_tower_60 : decode cX3_tower 60 = .ok (.aaload, 1) := by decide +kernel
theorem dX3_tower_61 : decode cX3_tower 61 = .ok (.iload_n 3, 1) := by decide +kernel
theorem dX3_tower_62 : decode cX3_tower 62 = .ok (.iload 4, 2) := by decide +kernel
theorem dX3_tower_64 : decode cX3_tower 64 = .ok (.aload_n 0, 1) := by decide +kernel
theorem dX3_tower_65 : decode cX3_tower 65 = .ok (.getfield 39, 3) := by decide +kernel
theorem dX3_tower_68 : decode cX3_tower 68 = .ok (.invokevirtual 61, 3) := by decide +kernel
theorem dX3_tower_71 : decode cX3_tower 71 = .ok (.istore 6, 2) := by decide +kernel
theorem dX3_tower_73 : decode cX3_tower 73 = .ok (.iload 6, 2) := by decide +kernel
theorem dX3_tower_75 : decode cX3_tower 75 = .ok (.bipush (-9), 2) := by decide +kernel
theorem dX3_tower_77 : decode cX3_tower 77 = .ok (.if_icmp .eq 9, 3) := by decide +kernel
theorem dX3_tower_80 : decode cX3_tower 80 = .ok (.bipush (-100), 2) := by decide +kernel
theorem dX3_tower_82 : decode cX3_tower 82 = .ok (.iload 6, 2) := by decide +kernel
theorem dX3_tower_84 : decode cX3_tower 84 = .ok (.isub, 1) := by decide +kernel
theorem dX3_tower_85 : decode cX3_tower 85 = .ok (.ireturn, 1) := by decide +kernel
theorem dX3_tower_86 : decode cX3_tower 86 = .ok (.aload_n 0, 1) := by decide +kernel
theorem dX3_tower_87 : decode cX3_tower 87 = .ok (.getfield 35, 3) := by decide +kernel
theorem dX3_tower_90 : decode cX3_tower 90 = .ok (.astore 7, 2) := by decide +kernel
theorem dX3_tower_92 : decode cX3_tower 92 = .ok (.aload_n 0, 1) := by decide +kernel
theorem dX3_tower_93 : decode cX3_tower 93 = .ok (.aload_n 0, 1) := by decide +kernel
theorem dX3_tower_94 : decode cX3_tower 94 = .ok (.getfield 39, 3) := by decide +kernel
theorem dX3_tower_97 : decode cX3_tower 97 = .ok (.putfield 35, 3) := by decide +kernel
theorem dX3_tower_100 : decode cX3_tower 100 = .ok (.aload_n 0, 1) := by decide +kernel
theorem dX3_tower_101 : decode cX3_tower 101 = .ok (.aload 7, 2) := by decide +kernel
theorem dX3_tower_103 : decode cX3_tower 103 = .ok (.putfield 39, 3) := by decide +kernel
theorem dX3_tower_106 : decode cX3_tower 106 = .ok (.aload_n 0, 1) := by decide +kernel
theorem dX3_tower_107 : decode cX3_tower 107 = .ok (.iconst 0, 1) := by decide +kernel
theorem dX3_tower_108 : decode cX3_tower 108 = .ok (.putfield 65, 3) := by decide +kernel
theorem dX3_tower_111 : decode cX3_tower 111 = .ok (.aload_n 0, 1) := by decide +kernel
theorem dX3_tower_112 : decode cX3_tower 112 = .ok (.getfield 35, 3) := by decide +kernel
theorem dX3_tower_115 : decode cX3_tower 115 = .ok (.getfield 68, 3) := by decide +kernel
theorem dX3_tower_118 : decode cX3_tower 118 = .ok (.ireturn, 1) := by decide +kernel
set_option maxRecDepth 20000 in
theorem ggX3_ofPerson_X2_isPerson : GoodIn wsX3_ofPerson wsX2_isPerson := goodIn_r _ [9, 10, 41, 42, 43, 44, 45, 46, 47, 48] (by decide +kernel) (by decide +kernel)
set_option maxRecDepth 20000 in
theorem gX3_ofPerson_X2_isPerson : GoodIn wsX3_ofPerson (wsV RX3 71 RX2 yX2_isPerson wsX2_isPerson) := goodIn_app (goodIn_of _ (by decide +kernel)) ggX3_ofPerson_X2_isPerson
set_option maxRecDepth 20000 in
theorem ggX3_ofPerson_X2_truthsOf : GoodIn wsX3_ofPerson wsX2_truthsOf := goodIn_r _ [14, 15, 16, 41, 42, 43, 44, 45, 46, 47, 48] (by decide +kernel) (by decide +kernel)
set_option maxRecDepth 20000 in
theorem gX3_ofPerson_X2_truthsOf : GoodIn wsX3_ofPerson (wsV RX3 77 RX2 yX2_truthsOf wsX2_truthsOf) := goodIn_app (goodIn_of _ (by decide +kernel)) ggX3_ofPerson_X2_truthsOf
set_option maxRecDepth 20000 in
theorem ggX3_ofPerson_X2_floorOf : GoodIn wsX3_ofPerson wsX2_floorOf := goodIn_r _ [20, 21, 22, 23, 24, 8, 25, 16, 26, 27, 28, 29, 30, 31, 41, 42, 43, 44, 45, 46, 47, 48] (by decide +kernel) (by decide +kernel)
set_option maxRecDepth 20000 in
theorem gX3_ofPerson_X2_floorOf : GoodIn wsX3_ofPerson (wsV RX3 86 RX2 yX2_floorOf wsX2_floorOf) := goodIn_app (goodIn_of _ (by decide +kernel)) ggX3_ofPerson_X2_floorOf
theorem dX3_ofPerson_0 : decode cX3_ofPerson 0 = .ok (.aload_n 0, 1) := by decide +kernel
theorem dX3_ofPerson_1 : decode cX3_ofPerson 1 = .ok (.getfield 35, 3) := by decide +kernel
theorem dX3_ofPerson_4 : decode cX3_ofPerson 4 = .ok (.iload_n 1, 1) := by decide +kernel
theorem dX3_ofPerson_5 : decode cX3_ofPerson 5 = .ok (.invokevirtual 71, 3) := by decide +kernel
theorem dX3_ofPerson_8 : decode cX3_ofPerson 8 = .ok (.ifCond .ne 5, 3) := by decide +kernel
theorem dX3_ofPerson_11 : decode cX3_ofPerson 11 = .ok (.iconst (-1), 1) := by decide +kernel
theorem dX3_ofPerson_12 : decode cX3_ofPerson 12 = .ok (.ireturn, 1) := by decide +kernel
theorem dX3_ofPerson_13 : decode cX3_ofPerson 13 = .ok (.iload_n 2, 1) := by decide +kernel
theorem dX3_ofPerson_14 : decode cX3_ofPerson 14 = .ok (.tableswitch 82 0 4 #[34, 44, 53, 63, 73], 34) := by decide +kernel
theorem dX3_ofPerson_48 : decode cX3_ofPerson 48 = .ok (.aload_n 0, 1) := by decide +kernel
theorem dX3_ofPerson_49 : decode cX3_ofPerson 49 = .ok (.getfield 35, 3) := by decide +kernel
theorem dX3_ofPerson_52 : decode cX3_ofPerson 52 = .ok (.getfield 74, 3) := by decide +kernel
theorem dX3_ofPerson_55 : decode cX3_ofPerson 55 = .ok (.iload_n 1, 1) := by decide +kernel
theorem dX3_ofPerson_56 : decode cX3_ofPerson 56 = .ok (.iaload, 1) := by decide +kernel
theorem dX3_ofPerson_57 : decode cX3_ofPerson 57 = .ok (.ireturn, 1) := by decide +kernel
theorem dX3_ofPerson_58 : decode cX3_ofPerson 58 = .ok (.aload_n 0, 1) := by decide +kernel
theorem dX3_ofPerson_59 : decode cX3_ofPerson 59 = .ok (.getfield 35, 3) := by decide +kernel
theorem dX3_ofPerson_62 : decode cX3_ofPerson 62 = .ok (.iload_n 1, 1) := by decide +kernel
theorem dX3_ofPerson_63 : decode cX3_ofPerson 63 = .ok (.invokevirtual 77, 3) := by decide +kernel
theorem dX3_ofPerson_66 : decode cX3_ofPerson 66 = .ok (.ireturn, 1) := by decide +kernel
theorem dX3_ofPerson_67 : decode cX3_ofPerson 67 = .ok (.aload_n 0, 1) := by decide +kernel
theorem dX3_ofPerson_68 : decode cX3_ofPerson 68 = .ok (.getfield 35, 3) := by decide +kernel
theorem dX3_ofPerson_71 : decode cX3_ofPerson 71 = .ok (.getfield 80, 3) := by decide +kernel
theorem dX3_ofPerson_74 : decode cX3_ofPerson 74 = .ok (.iload_n 1, 1) := by decide +kernel
theorem dX3_ofPerson_75 : decode cX3_ofPerson 75 = .ok (.iaload, 1) := by decide +kernel
theorem dX3_ofPerson_76 : decode cX3_ofPerson 76 = .ok (.ireturn, 1) := by decide +kernel
theorem dX3_ofPerson_77 : decode cX3_ofPerson 77 = .ok (.aload_n 0, 1) := by decide +kernel
theorem dX3_ofPerson_78 : decode cX3_ofPerson 78 = .ok (.getfield 35, 3) := by decide +kernel
theorem dX3_ofPerson_81 : decode cX3_ofPerson 81 = .ok (.getfield 83, 3) := by decide +kernel
theorem dX3_ofPerson_84 : decode cX3_ofPerson 84 = .ok (.iload_n 1, 1) := by decide +kernel
theorem dX3_ofPerson_85 : decode cX3_ofPerson 85 = .ok (.iaload, 1) := by decide +kernel
theorem dX3_ofPerson_86 : decode cX3_ofPerson 86 = .ok (.ireturn, 1) := by decide +kernel
theorem dX3_ofPerson_87 : decode cX3_ofPerson 87 = .ok (.aload_n 0, 1) := by decide +kernel
theorem dX3_ofPerson_88 : decode cX3_ofPerson 88 = .ok (.getfield 35, 3) := by decide +kernel
theorem dX3_ofPerson_91 : decode cX3_ofPerson 91 = .ok (.iload_n 1, 1) := by decide +kernel
theorem dX3_ofPerson_92 : decode cX3_ofPerson 92 = .ok (.invokevirtual 86, 3) := by decide +kernel
theorem dX3_ofPerson_95 : decode cX3_ofPerson 95 = .ok (.ireturn, 1) := by decide +kernel
theorem dX3_ofPerson_96 : decode cX3_ofPerson 96 = .ok (.bipush (-2), 2) := by decide +kernel
theorem dX3_ofPerson_98 : decode cX3_ofPerson 98 = .ok (.ireturn, 1) := by decide +kernel
set_option maxRecDepth 20000 in
theorem ggX3_weight_X2_isDeed : GoodIn wsX3_weight wsX2_isDeed := goodIn_r _ [7, 8, 18, 19, 20, 21, 22, 23, 24, 25] (by decide +kernel) (by decide +kernel)
set_option maxRecDepth 20000 in
theorem gX3_weight_X2_isDeed : GoodIn wsX3_weight (wsV RX3 89 RX2 yX2_isDeed wsX2_isDeed) := goodIn_app (goodIn_of _ (by decide +kernel)) ggX3_weight_X2_isDeed
theorem dX3_weight_0 : decode cX3_weight 0 = .ok (.aload_n 0, 1) := by decide +kernel
theorem dX3_weight_1 : decode cX3_weight 1 = .ok (.getfield 35, 3) := by decide +kernel
theorem dX3_weight_4 : decode cX3_weight 4 = .ok (.iload_n 1, 1) := by decide +kernel
theorem dX3_weight_5 : decode cX3_weight 5 = .ok (.invokevirtual 89, 3) := by decide +kernel
theorem dX3_weight_8 : decode cX3_weight 8 = .ok (.ifCond .eq 15, 3) := by decide +kernel
theorem dX3_weight_11 : decode cX3_weight 11 = .ok (.aload_n 0, 1) := by decide +kernel
theorem dX3_weight_12 : decode cX3_weight 12 = .ok (.getfield 35, 3) := by decide +kernel
theorem dX3_weight_15 : decode cX3_weight 15 = .ok (.getfield 92, 3) := by decide +kernel
theorem dX3_weight_18 : decode cX3_weight 18 = .ok (.iload_n 1, 1) := by decide +kernel
theorem dX3_weight_19 : decode cX3_weight 19 = .ok (.iaload, 1) := by decide +kernel
theorem dX3_weight_20 : decode cX3_weight 20 = .ok (.goto 4, 3) := by decide +kernel
theorem dX3_weight_23 : decode cX3_weight 23 = .ok (.iconst (-1), 1) := by decide +kernel
theorem dX3_weight_24 : decode cX3_weight 24 = .ok (.ireturn, 1) := by decide +kernel
set_option maxRecDepth 20000 in
theorem ggX3_weigh_X2_isDeed : GoodIn wsX3_weigh wsX2_isDeed := goodIn_r _ [7, 8, 18, 19, 20, 21, 22, 23, 24, 25] (by decide +kernel) (by decide +kernel)
set_option maxRecDepth 20000 in
theorem gX3_weigh_X2_isDeed : GoodIn wsX3_weigh (wsV RX3 89 RX2 yX2_isDeed wsX2_isDeed) := goodIn_app (goodIn_of _ (by decide +kernel)) ggX3_weigh_X2_isDeed
theorem dX3_weigh_0 : decode cX3_weigh 0 = .ok (.aload_n 0, 1) := by decide +kernel
theorem dX3_weigh_1 : decode cX3_weigh 1 = .ok (.getfield 35, 3) := by decide +kernel
theorem dX3_weigh_4 : decode cX3_weigh 4 = .ok (.iload_n 1, 1) := by decide +kernel
theorem dX3_weigh_5 : decode cX3_weigh 5 = .ok (.invokevirtual 89, 3) := by decide +kernel
theorem dX3_weigh_8 : decode cX3_weigh 8 = .ok (.ifCond .ne 5, 3) := by decide +kernel
theorem dX3_weigh_11 : decode cX3_weigh 11 = .ok (.iconst (-1), 1) := by decide +kernel
theorem dX3_weigh_12 : decode cX3_weigh 12 = .ok (.ireturn, 1) := by decide +kernel
theorem dX3_weigh_13 : decode cX3_weigh 13 = .ok (.iload_n 2, 1) := by decide +kernel
theorem dX3_weigh_14 : decode cX3_weigh 14 = .ok (.iconst 1, 1) := by decide +kernel
theorem dX3_weigh_15 : decode cX3_weigh 15 = .ok (.if_icmp .lt 9, 3) := by decide +kernel
theorem dX3_weigh_18 : decode cX3_weigh 18 = .ok (.iload_n 2, 1) := by decide +kernel
theorem dX3_weigh_19 : decode cX3_weigh 19 = .ok (.bipush 9, 2) := by decide +kernel
theorem dX3_weigh_21 : decode cX3_weigh 21 = .ok (.if_icmp .le 6, 3) := by decide +kernel
theorem dX3_weigh_24 : decode cX3_weigh 24 = .ok (.bipush (-2), 2) := by decide +kernel
theorem dX3_weigh_26 : decode cX3_weigh 26 = .ok (.ireturn, 1) := by decide +kernel
theorem dX3_weigh_27 : decode cX3_weigh 27 = .ok (.aload_n 0, 1) := by decide +kernel
theorem dX3_weigh_28 : decode cX3_weigh 28 = .ok (.getfield 35, 3) := by decide +kernel
theorem dX3_weigh_31 : decode cX3_weigh 31 = .ok (.getfield 92, 3) := by decide +kernel
theorem dX3_weigh_34 : decode cX3_weigh 34 = .ok (.iload_n 1, 1) := by decide +kernel
theorem dX3_weigh_35 : decode cX3_weigh 35 = .ok (.iaload, 1) := by decide +kernel
theorem dX3_weigh_36 : decode cX3_weigh 36 = .ok (.istore_n 3, 1) := by decide +kernel
theorem dX3_weigh_37 : decode cX3_weigh 37 = .ok (.aload_n 0, 1) := by decide +kernel
theorem dX3_weigh_38 : decode cX3_weigh 38 = .ok (.getfield 35, 3) := by decide +kernel
theorem dX3_weigh_41 : decode cX3_weigh 41 = .ok (.getfield 92, 3) := by decide +kernel
theorem dX3_weigh_44 : decode cX3_weigh 44 = .ok (.iload_n 1, 1) := by decide +kernel
theorem dX3_weigh_45 : decode cX3_weigh 45 = .ok (.iload_n 2, 1) := by decide +kernel
theorem dX3_weigh_46 : decode cX3_weigh 46 = .ok (.iastore, 1) := by decide +kernel
theorem dX3_weigh_47 : decode cX3_weigh 47 = .ok (.iload_n 3, 1) := by decide +kernel
theorem dX3_weigh_48 : decode cX3_weigh 48 = .ok (.ireturn, 1) := by decide +kernel
set_option maxRecDepth 20000 in
theorem ggX3_storeys_X2_isPerson : GoodIn wsX3_storeys wsX2_isPerson := goodIn_r _ [6, 7, 28, 29, 30, 31, 32, 33, 34, 35] (by decide +kernel) (by decide +kernel)
set_option maxRecDepth 20000 in
theorem gX3_storeys_X2_isPerson : GoodIn wsX3_storeys (wsV RX3 71 RX2 yX2_isPerson wsX2_isPerson) := goodIn_app (goodIn_of _ (by decide +kernel)) ggX3_storeys_X2_isPerson
set_option maxRecDepth 20000 in
theorem ggX3_storeys_X2_isDeed : GoodIn wsX3_storeys wsX2_isDeed := goodIn_r _ [11, 12, 28, 29, 30, 31, 32, 33, 34, 35] (by decide +kernel) (by decide +kernel)
set_option maxRecDepth 20000 in
theorem gX3_storeys_X2_isDeed : GoodIn wsX3_storeys (wsV RX3 89 RX2 yX2_isDeed wsX2_isDeed) := goodIn_app (goodIn_of _ (by decide +kernel)) ggX3_storeys_X2_isDeed
set_option maxRecDepth 20000 in
theorem ggX3_storeys_X2_rise : GoodIn wsX3_storeys wsX2_rise := goodIn_r _ [16, 17, 18, 28, 29, 30, 31, 32, 33, 34, 35] (by decide +kernel) (by decide +kernel)
set_option maxRecDepth 20000 in
theorem gX3_storeys_X2_rise : GoodIn wsX3_storeys (wsV RX3 95 RX2 yX2_rise wsX2_rise) := goodIn_app (goodIn_of _ (by decide +kernel)) ggX3_storeys_X2_rise
theorem dX3_storeys_0 : decode cX3_storeys 0 = .ok (.aload_n 0, 1) := by decide +kernel
theorem dX3_storeys_1 : decode cX3_storeys 1 = .ok (.getfield 35, 3) := by decide +kernel
theorem dX3_storeys_4 : decode cX3_storeys 4 = .ok (.iload_n 1, 1) := by decide +kernel
theorem dX3_storeys_5 : decode cX3_storeys 5 = .ok (.invokevirtual 71, 3) := by decide +kernel
theorem dX3_storeys_8 : decode cX3_storeys 8 = .ok (.ifCond .eq 26, 3) := by decide +kernel
theorem dX3_storeys_11 : decode cX3_storeys 11 = .ok (.aload_n 0, 1) := by decide +kernel
theorem dX3_storeys_12 : decode cX3_storeys 12 = .ok (.getfield 35, 3) := by decide +kernel
theorem dX3_storeys_15 : decode cX3_storeys 15 = .ok (.iload_n 2, 1) := by decide +kernel
theorem dX3_storeys_16 : decode cX3_storeys 16 = .ok (.invokevirtual 89, 3) := by decide +kernel
theorem dX3_storeys_19 : decode cX3_storeys 19 = .ok (.ifCond .eq 15, 3) := by decide +kernel
theorem dX3_storeys_22 : decode cX3_storeys 22 = .ok (.aload_n 0, 1) := by decide +kernel
theorem dX3_storeys_23 : decode cX3_storeys 23 = .ok (.getfield 35, 3) := by decide +kernel
theorem dX3_storeys_26 : decode cX3_storeys 26 = .ok (.iload_n 1, 1) := by decide +kernel
theorem dX3_storeys_27 : decode cX3_storeys 27 = .ok (.iload_n 2, 1) := by decide +kernel
theorem dX3_storeys_28 : decode cX3_storeys 28 = .ok (.invokevirtual 95, 3) := by decide +kernel
theorem dX3_storeys_31 : decode cX3_storeys 31 = .ok (.goto 4, 3) := by decide +kernel
theorem dX3_storeys_34 : decode cX3_storeys 34 = .ok (.iconst (-1), 1) := by decide +kernel
theorem dX3_storeys_35 : decode cX3_storeys 35 = .ok (.ireturn, 1) := by decide +kernel
set_option maxRecDepth 20000 in
theorem ggX3_say_X2_isPerson : GoodIn wsX3_say wsX2_isPerson := goodIn_r _ [6, 7, 53, 54, 55, 56, 57, 58, 59, 60] (by decide +kernel) (by decide +kernel)
set_option maxRecDepth 20000 in
theorem gX3_say_X2_isPerson : GoodIn wsX3_say (wsV RX3 71 RX2 yX2_isPerson wsX2_isPerson) := goodIn_app (goodIn_of _ (by decide +kernel)) ggX3_say_X2_isPerson
set_option maxRecDepth 20000 in
theorem ggX3_say_X2_isDeed : GoodIn wsX3_say wsX2_isDeed := goodIn_r _ [11, 12, 53, 54, 55, 56, 57, 58, 59, 60] (by decide +kernel) (by decide +kernel)
set_option maxRecDepth 20000 in
theorem gX3_say_X2_isDeed : GoodIn wsX3_say (wsV RX3 89 RX2 yX2_isDeed wsX2_isDeed) := goodIn_app (goodIn_of _ (by decide +kernel)) ggX3_say_X2_isDeed
set_option maxRecDepth 20000 in
theorem ggX3_say_X2_hasTold : GoodIn wsX3_say wsX2_hasTold := goodIn_r _ [16, 17, 53, 54, 55, 56, 57, 58, 59, 60] (by decide +kernel) (by decide +kernel)
set_option maxRecDepth 20000 in
theorem gX3_say_X2_hasTold : GoodIn wsX3_say (wsV RX3 99 RX2 yX2_hasTold wsX2_hasTold) := goodIn_app (goodIn_of _ (by decide +kernel)) ggX3_say_X2_hasTold
set_option maxRecDepth 20000 in
theorem ggX3_say_X2_hear : GoodIn wsX3_say wsX2_hear := goodIn_r _ [21, 17, 22, 23, 24, 25, 5, 26, 27, 7, 28, 29, 30, 31, 32, 33, 34, 35, 36, 12, 37, 38, 39, 40, 41, 42, 53, 54, 55, 56, 57, 58, 59, 60] (by decide +kernel) (by decide +kernel)
set_option maxRecDepth 20000 in
theorem gX3_say_X2_hear : GoodIn wsX3_say (wsV RX3 103 RX2 yX2_hear wsX2_hear) := goodIn_app (goodIn_of _ (by decide +kernel)) ggX3_say_X2_hear
set_option maxRecDepth 20000 in
theorem ggX3_say_X2_floorOf : GoodIn wsX3_say wsX2_floorOf := goodIn_r _ [32, 17, 33, 34, 35, 5, 36, 12, 37, 38, 39, 40, 41, 42, 53, 54, 55, 56, 57, 58, 59, 60] (by decide +kernel) (by decide +kernel)
set_option maxRecDepth 20000 in
theorem gX3_say_X2_floorOf : GoodIn wsX3_say (wsV RX3 86 RX2 yX2_floorOf wsX2_floorOf) := goodIn_app (goodIn_of _ (by decide +kernel)) ggX3_say_X2_floorOf
theorem dX3_say_0 : decode cX3_say 0 = .ok (.aload_n 0, 1) := by decide +kernel
theorem dX3_say_1 : decode cX3_say 1 = .ok (.getfield 35, 3) := by decide +kernel
theorem dX3_say_4 : decode cX3_say 4 = .ok (.iload_n 1, 1) := by decide +kernel
theorem dX3_say_5 : decode cX3_say 5 = .ok (.invokevirtual 71, 3) := by decide +kernel
theorem dX3_say_8 : decode cX3_say 8 = .ok (.ifCond .eq 14, 3) := by decide +kernel
theorem dX3_say_11 : decode cX3_say 11 = .ok (.aload_n 0, 1) := by decide +kernel
theorem dX3_say_12 : decode cX3_say 12 = .ok (.getfield 35, 3) := by decide +kernel
theorem dX3_say_15 : decode cX3_say 15 = .ok (.iload_n 2, 1) := by decide +kernel
theorem dX3_say_16 : decode cX3_say 16 = .ok (.invokevirtual 89, 3) := by decide +kernel
theorem dX3_say_19 : decode cX3_say 19 = .ok (.ifCond .ne 5, 3) := by decide +kernel
theorem dX3_say_22 : decode cX3_say 22 = .ok (.iconst (-1), 1) := by decide +kernel
theorem dX3_say_23 : decode cX3_say 23 = .ok (.ireturn, 1) := by decide +kernel
theorem dX3_say_24 : decode cX3_say 24 = .ok (.aload_n 0, 1) := by decide +kernel
theorem dX3_say_25 : decode cX3_say 25 = .ok (.getfield 35, 3) := by decide +kernel
theorem dX3_say_28 : decode cX3_say 28 = .ok (.iload_n 1, 1) := by decide +kernel
theorem dX3_say_29 : decode cX3_say 29 = .ok (.iload_n 2, 1) := by decide +kernel
theorem dX3_say_30 : decode cX3_say 30 = .ok (.invokevirtual 99, 3) := by decide +kernel
theorem dX3_say_33 : decode cX3_say 33 = .ok (.ifCond .eq 6, 3) := by decide +kernel
theorem dX3_say_36 : decode cX3_say 36 = .ok (.bipush (-3), 2) := by decide +kernel
theorem dX3_say_38 : decode cX3_say 38 = .ok (.ireturn, 1) := by decide +kernel
theorem dX3_say_39 : decode cX3_say 39 = .ok (.aload_n 0, 1) := by decide +kernel
theorem dX3_say_40 : decode cX3_say 40 = .ok (.getfield 35, 3) := by decide +kernel
theorem dX3_say_43 : decode cX3_say 43 = .ok (.iload_n 1, 1) := by decide +kernel
theorem dX3_say_44 : decode cX3_say 44 = .ok (.iload_n 2, 1) := by decide +kernel
theorem dX3_say_45 : decode cX3_say 45 = .ok (.invokevirtual 103, 3) := by decide +kernel
theorem dX3_say_48 : decode cX3_say 48 = .ok (.aload_n 0, 1) := by decide +kernel
theorem dX3_say_49 : decode cX3_say 49 = .ok (.getfield 35, 3) := by decide +kernel
theorem dX3_say_52 : decode cX3_say 52 = .ok (.iload_n 1, 1) := by decide +kernel
theorem dX3_say_53 : decode cX3_say 53 = .ok (.invokevirtual 86, 3) := by decide +kernel
theorem dX3_say_56 : decode cX3_say 56 = .ok (.ireturn, 1) := by decide +kernel
set_option maxRecDepth 20000 in
theorem ggX3_hush_X2_isPerson : GoodIn wsX3_hush wsX2_isPerson := goodIn_r _ [7, 8, 34, 35, 36, 37, 38, 39, 40, 41] (by decide +kernel) (by decide +kernel)
set_option maxRecDepth 20000 in
theorem gX3_hush_X2_isPerson : GoodIn wsX3_hush (wsV RX3 71 RX2 yX2_isPerson wsX2_isPerson) := goodIn_app (goodIn_of _ (by decide +kernel)) ggX3_hush_X2_isPerson
set_option maxRecDepth 20000 in
theorem ggX3_hush_X2_floorOf : GoodIn wsX3_hush wsX2_floorOf := goodIn_r _ [12, 13, 14, 15, 16, 6, 17, 18, 19, 20, 21, 22, 23, 24, 34, 35, 36, 37, 38, 39, 40, 41] (by decide +kernel) (by decide +kernel)
set_option maxRecDepth 20000 in
theorem gX3_hush_X2_floorOf : GoodIn wsX3_hush (wsV RX3 86 RX2 yX2_floorOf wsX2_floorOf) := goodIn_app (goodIn_of _ (by decide +kernel)) ggX3_hush_X2_floorOf
theorem dX3_hush_0 : decode cX3_hush 0 = .ok (.aload_n 0, 1) := by decide +kernel
theorem dX3_hush_1 : decode cX3_hush 1 = .ok (.getfield 35, 3) := by decide +kernel
theorem dX3_hush_4 : decode cX3_hush 4 = .ok (.iload_n 1, 1) := by decide +kernel
theorem dX3_hush_5 : decode cX3_hush 5 = .ok (.invokevirtual 71, 3) := by decide +kernel
theorem dX3_hush_8 : decode cX3_hush 8 = .ok (.ifCond .ne 5, 3) := by decide +kernel
theorem dX3_hush_11 : decode cX3_hush 11 = .ok (.iconst (-1), 1) := by decide +kernel
theorem dX3_hush_12 : decode cX3_hush 12 = .ok (.ireturn, 1) := by decide +kernel
theorem dX3_hush_13 : decode cX3_hush 13 = .ok (.aload_n 0, 1) := by decide +kernel
theorem dX3_hush_14 : decode cX3_hush 14 = .ok (.getfield 35, 3) := by decide +kernel
theorem dX3_hush_17 : decode cX3_hush 17 = .ok (.iload_n 1, 1) := by decide +kernel
theorem dX3_hush_18 : decode cX3_hush 18 = .ok (.invokevirtual 86, 3) := by decide +kernel
theorem dX3_hush_21 : decode cX3_hush 21 = .ok (.istore_n 2, 1) := by decide +kernel
theorem dX3_hush_22 : decode cX3_hush 22 = .ok (.aload_n 0, 1) := by decide +kernel
theorem dX3_hush_23 : decode cX3_hush 23 = .ok (.getfield 35, 3) := by decide +kernel
theorem dX3_hush_26 : decode cX3_hush 26 = .ok (.getfield 83, 3) := by decide +kernel
theorem dX3_hush_29 : decode cX3_hush 29 = .ok (.iload_n 1, 1) := by decide +kernel
theorem dX3_hush_30 : decode cX3_hush 30 = .ok (.iconst 0, 1) := by decide +kernel
theorem dX3_hush_31 : decode cX3_hush 31 = .ok (.iastore, 1) := by decide +kernel
theorem dX3_hush_32 : decode cX3_hush 32 = .ok (.iload_n 2, 1) := by decide +kernel
theorem dX3_hush_33 : decode cX3_hush 33 = .ok (.ireturn, 1) := by decide +kernel
set_option maxRecDepth 20000 in
theorem ggX3_landing_X2_floorOf : GoodIn wsX3_landing wsX2_floorOf := goodIn_r _ [7, 8, 9, 10, 11, 6, 12, 13, 14, 15, 16, 17, 18, 19, 29, 30, 31, 32, 33, 34, 35, 36] (by decide +kernel) (by decide +kernel)
set_option maxRecDepth 20000 in
theorem gX3_landing_X2_floorOf : GoodIn wsX3_landing (wsV RX3 86 RX2 yX2_floorOf wsX2_floorOf) := goodIn_app (goodIn_of _ (by decide +kernel)) ggX3_landing_X2_floorOf
theorem dX3_landing_0 : decode cX3_landing 0 = .ok (.aload_n 0, 1) := by decide +kernel
theorem dX3_landing_1 : decode cX3_landing 1 = .ok (.getfield 35, 3) := by decide +kernel
theorem dX3_landing_4 : decode cX3_landing 4 = .ok (.getfield 68, 3) := by decide +kernel
theorem dX3_landing_7 : decode cX3_landing 7 = .ok (.ifCond .ne 6, 3) := by decide +kernel
theorem dX3_landing_10 : decode cX3_landing 10 = .ok (.bipush (-3), 2) := by decide +kernel
theorem dX3_landing_12 : decode cX3_landing 12 = .ok (.ireturn, 1) := by decide +kernel
theorem dX3_landing_13 : decode cX3_landing 13 = .ok (.iload_n 1, 1) := by decide +kernel
theorem dX3_landing_14 : decode cX3_landing 14 = .ok (.ifCond .ge 6, 3) := by decide +kernel
theorem dX3_landing_17 : decode cX3_landing 17 = .ok (.bipush (-2), 2) := by decide +kernel
theorem dX3_landing_19 : decode cX3_landing 19 = .ok (.ireturn, 1) := by decide +kernel
theorem dX3_landing_20 : decode cX3_landing 20 = .ok (.iconst 0, 1) := by decide +kernel
theorem dX3_landing_21 : decode cX3_landing 21 = .ok (.istore_n 2, 1) := by decide +kernel
theorem dX3_landing_22 : decode cX3_landing 22 = .ok (.iconst 0, 1) := by decide +kernel
theorem dX3_landing_23 : decode cX3_landing 23 = .ok (.istore_n 3, 1) := by decide +kernel
theorem dX3_landing_24 : decode cX3_landing 24 = .ok (.iload_n 3, 1) := by decide +kernel
theorem dX3_landing_25 : decode cX3_landing 25 = .ok (.aload_n 0, 1) := by decide +kernel
theorem dX3_landing_26 : decode cX3_landing 26 = .ok (.getfield 35, 3) := by decide +kernel
theorem dX3_landing_29 : decode cX3_landing 29 = .ok (.getfield 68, 3) := by decide +kernel
theorem dX3_landing_32 : decode cX3_landing 32 = .ok (.if_icmp .ge 27, 3) := by decide +kernel
theorem dX3_landing_35 : decode cX3_landing 35 = .ok (.aload_n 0, 1) := by decide +kernel
theorem dX3_landing_36 : decode cX3_landing 36 = .ok (.getfield 35, 3) := by decide +kernel
theorem dX3_landing_39 : decode cX3_landing 39 = .ok (.iload_n 3, 1) := by decide +kernel
theorem dX3_landing_40 : decode cX3_landing 40 = .ok (.invokevirtual 86, 3) := by decide +kernel
theorem dX3_landing_43 : decode cX3_landing 43 = .ok (.iload_n 1, 1) := by decide +kernel
theorem dX3_landing_44 : decode cX3_landing 44 = .ok (.if_icmp .ne 9, 3) := by decide +kernel
theorem dX3_landing_47 : decode cX3_landing 47 = .ok (.iload_n 2, 1) := by decide +kernel
theorem dX3_landing_48 : decode cX3_landing 48 = .ok (.iconst 1, 1) := by decide +kernel
theorem dX3_landing_49 : decode cX3_landing 49 = .ok (.iload_n 3, 1) := by decide +kernel
theorem dX3_landing_50 : decode cX3_landing 50 = .ok (.ishl, 1) := by decide +kernel
theorem dX3_landing_51 : decode cX3_landing 51 = .ok (.ior, 1) := by decide +kernel
theorem dX3_landing_52 : decode cX3_landing 52 = .ok (.istore_n 2, 1) := by decide +kernel
theorem dX3_landing_53 : decode cX3_landing 53 = .ok (.iinc 3 1, 3) := by decide +kernel
theorem dX3_landing_56 : decode cX3_landing 56 = .ok (.goto (-32), 3) := by decide +kernel
theorem dX3_landing_59 : decode cX3_landing 59 = .ok (.iload_n 2, 1) := by decide +kernel
theorem dX3_landing_60 : decode cX3_landing 60 = .ok (.ireturn, 1) := by decide +kernel
set_option maxRecDepth 20000 in
theorem ggX3_days_X3_isSheet : GoodIn wsX3_days wsX3_isSheet := goodIn_r _ [8] (by decide +kernel) (by decide +kernel)
set_option maxRecDepth 20000 in
theorem gX3_days_X3_isSheet : GoodIn wsX3_days (va_wsS RX3 46 yX3_isSheet wsX3_isSheet) := goodIn_app (goodIn_of _ (by decide +kernel)) ggX3_days_X3_isSheet
set_option maxRecDepth 20000 in
theorem ggX3_days_X3_isLane : GoodIn wsX3_days wsX3_isLane := goodIn_r _ [11] (by decide +kernel) (by decide +kernel)
set_option maxRecDepth 20000 in
theorem gX3_days_X3_isLane : GoodIn wsX3_days (va_wsS RX3 50 yX3_isLane wsX3_isLane) := goodIn_app (goodIn_of _ (by decide +kernel)) ggX3_days_X3_isLane
set_option maxRecDepth 20000 in
theorem ggX3_days_X3_isDaysLength : GoodIn wsX3_days wsX3_isDaysLength := goodIn_r _ [14] (by decide +kernel) (by decide +kernel)
set_option maxRecDepth 20000 in
theorem gX3_days_X3_isDaysLength : GoodIn wsX3_days (va_wsS RX3 107 yX3_isDaysLength wsX3_isDaysLength) := goodIn_app (goodIn_of _ (by decide +kernel)) ggX3_days_X3_isDaysLength
set_option maxRecDepth 20000 in
theorem ggX3_days_X3_isQuestion : GoodIn wsX3_days wsX3_isQuestion := goodIn_r _ [17] (by decide +kernel) (by decide +kernel)
set_option maxRecDepth 20000 in
theorem gX3_days_X3_isQuestion : GoodIn wsX3_days (va_wsS RX3 110 yX3_isQuestion wsX3_isQuestion) := goodIn_app (goodIn_of _ (by decide +kernel)) ggX3_days_X3_isQuestion
set_option maxRecDepth 20000 in
theorem ggX3_days_X3_stopOfDays : GoodIn wsX3_days wsX3_stopOfDays := goodIn_r _ [21, 4, 22, 23, 24, 25, 26, 27, 28, 29, 30, 31, 32, 33, 34, 35, 36, 37, 38, 39, 40, 41, 7, 42, 1, 43, 44, 45, 46, 47, 48, 49, 50, 51, 52, 53, 111, 112, 113, 114, 115, 116, 117, 118, 119, 120, 121, 122, 123, 124, 125, 126, 127, 128, 129, 130] (by decide +kernel) (by decide +kernel)
set_option maxRecDepth 20000 in
theorem gX3_days_X3_stopOfDays : GoodIn wsX3_days (wsV RX3 113 RX3 yX3_stopOfDays wsX3_stopOfDays) := goodIn_app (goodIn_of _ (by decide +kernel)) ggX3_days_X3_stopOfDays
set_option maxRecDepth 20000 in
theorem ggX3_days_X2_become : GoodIn wsX3_days wsX2_become := goodIn_r _ [57, 53, 48, 58, 59, 60, 61, 62, 63, 64, 65, 66, 67, 120, 121, 122, 123, 124, 125, 126, 127] (by decide +kernel) (by decide +kernel)
set_option maxRecDepth 20000 in
theorem gX3_days_X2_become : GoodIn wsX3_days (wsV RX3 117 RX2 yX2_become wsX2_become) := goodIn_app (goodIn_of _ (by decide +kernel)) ggX3_days_X2_become
set_option maxRecDepth 20000 in
theorem ggX3_days_X3_liveDays : GoodIn wsX3_days wsX3_liveDays := goodIn_r _ [71, 23, 3, 72, 73, 74, 46, 75, 67, 76, 77, 78, 79, 58, 80, 81, 82, 83, 65, 48, 66, 84, 85, 86, 87, 88, 89, 90, 91, 53, 92, 93, 94, 95, 64, 59, 128, 129, 130, 111, 112, 113, 114, 115, 116, 117, 118, 119, 120, 121, 122, 123, 124, 125, 126, 127] (by decide +kernel) (by decide +kernel)
set_option maxRecDepth 20000 in
theorem gX3_days_X3_liveDays : GoodIn wsX3_days (wsV RX3 121 RX3 yX3_liveDays wsX3_liveDays) := goodIn_app (goodIn_of _ (by decide +kernel)) ggX3_days_X3_liveDays
set_option maxRecDepth 20000 in
theorem ggX3_days_X3_answerOfTrial : GoodIn wsX3_days wsX3_answerOfTrial := goodIn_r _ [99, 3, 100, 101, 102, 103, 104, 46, 105, 48, 106, 107, 108, 109, 84, 85, 86, 87, 67, 88, 89, 90, 91, 53, 92, 93, 94, 95, 64, 59, 43, 44, 45, 47, 110, 111, 112, 113, 114, 115, 116, 117, 118, 119, 120, 121, 122, 123, 124, 125, 126, 127] (by decide +kernel) (by decide +kernel)
set_option maxRecDepth 20000 in
theorem gX3_days_X3_answerOfTrial : GoodIn wsX3_days (wsV RX3 125 RX3 yX3_answerOfTrial wsX3_answerOfTrial) := goodIn_app (goodIn_of _ (by decide +kernel)) ggX3_days_X3_answerOfTrial
theorem dX3_days_0 : decode cX3_days 0 = .ok (.aload_n 0, 1) := by decide +kernel
theorem dX3_days_1 : decode cX3_days 1 = .ok (.iconst 0, 1) := by decide +kernel
theorem dX3_days_2 : decode cX3_days 2 = .ok (.putfield 42, 3) := by decide +kernel
theorem dX3_days_5 : decode cX3_days 5 = .ok (.iload_n 1, 1) := by decide +kernel
theorem dX3_days_6 : decode cX3_days 6 = .ok (.invokestatic 46, 3) := by decide +kernel
theorem dX3_days_9 : decode cX3_days 9 = .ok (.ifCond .ne 5, 3) := by decide +kernel
theorem dX3_days_12 : decode cX3_days 12 = .ok (.iconst (-1), 1) := by decide +kernel
theorem dX3_days_13 : decode cX3_days 13 = .ok (.ireturn, 1) := by decide +kernel
theorem dX3_days_14 : decode cX3_days 14 = .ok (.iload_n 2, 1) := by decide +kernel
theorem dX3_days_15 : decode cX3_days 15 = .ok (.invokestatic 50, 3) := by decide +kernel
theorem dX3_days_18 : decode cX3_days 18 = .ok (.ifCond .eq 19, 3) := by decide +kernel
theorem dX3_days_21 : decode cX3_days 21 = .ok (.iload 4, 2) := by decide +kernel
theorem dX3_days_23 : decode cX3_days 23 = .ok (.invokestatic 107, 3) := by decide +kernel
theorem dX3_days_26 : decode cX3_days 26 = .ok (.ifCond .eq 11, 3) := by decide +kernel
theorem dX3_days_29 : decode cX3_days 29 = .ok (.iload 5, 2) := by decide +kernel
theorem dX3_days_31 : decode cX3_days 31 = .ok (.invokestatic 110, 3) := by decide +kernel
theorem dX3_days_34 : decode cX3_days 34 = .ok (.ifCond .ne 6, 3) := by decide +kernel
theorem dX3_days_37 : decode cX3_days 37 = .ok (.bipush (-2), 2) := by decide +kernel
theorem dX3_days_39 : decode cX3_days 39 = .ok (.ireturn, 1) := by decide +kernel
theorem dX3_days_40 : decode cX3_days 40 = .ok (.aload_n 0, 1) := by decide +kernel
theorem dX3_days_41 : decode cX3_days 41 = .ok (.aload_n 0, 1) := by decide +kernel
theorem dX3_days_42 : decode cX3_days 42 = .ok (.getfield 13, 3) := by decide +kernel
theorem dX3_days_45 : decode cX3_days 45 = .ok (.iload_n 1, 1) := by decide +kernel
theorem dX3_days_46 : decode cX3_days 46 = .ok (.aaload, 1) := by decide +kernel
theorem dX3_days_47 : decode cX3_days 47 = .ok (.iload_n 2, 1) := by decide +kernel
theorem dX3_days_48 : decode cX3_days 48 = .ok (.iload_n 3, 1) := by decide +kernel
theorem dX3_days_49 : decode cX3_days 49 = .ok (.iload 4, 2) := by decide +kernel
theorem dX3_days_51 : decode cX3_days 51 = .ok (.invokevirtual 113, 3) := by decide +kernel
theorem dX3_days_54 : decode cX3_days 54 = .ok (.istore 6, 2) := by decide +kernel
theorem dX3_days_56 : decode cX3_days 56 = .ok (.iload 6, 2) := by decide +kernel
theorem dX3_days_58 : decode cX3_days 58 = .ok (.ifCond .eq 6, 3) := by decide +kernel
theorem dX3_days_61 : decode cX3_days 61 = .ok (.iload 6, 2) := by decide +kernel
theorem dX3_days_63 : decode cX3_days 63 = .ok (.ireturn, 1) := by decide +kernel
theorem dX3_days_64 : decode cX3_days 64 = .ok (.aload_n 0, 1) := by decide +kernel
theorem dX3_days_65 : decode cX3_days 65 = .ok (.getfield 39, 3) := by decide +kernel
theorem dX3_days_68 : decode cX3_days 68 = .ok (.aload_n 0, 1) := by decide +kernel
theorem dX3_days_69 : decode cX3_days 69 = .ok (.getfield 35, 3) := by decide +kernel
theorem dX3_days_72 : decode cX3_days 72 = .ok (.invokevirtual 117, 3) := by decide +kernel
theorem dX3_days_75 : decode cX3_days 75 = .ok (.aload_n 0, 1) := by decide +kernel
theorem dX3_days_76 : decode cX3_days 76 = .ok (.aload_n 0, 1) := by decide +kernel
theorem dX3_days_77 : decode cX3_days 77 = .ok (.getfield 13, 3) := by decide +kernel
theorem dX3_days_80 : decode cX3_days 80 = .ok (.iload_n 1, 1) := by decide +kernel
theorem dX3_days_81 : decode cX3_days 81 = .ok (.aaload, 1) := by decide +kernel
theorem dX3_days_82 : decode cX3_days 82 = .ok (.iload_n 3, 1) := by decide +kernel
theorem dX3_days_83 : decode cX3_days 83 = .ok (.iload 4, 2) := by decide +kernel
theorem dX3_days_85 : decode cX3_days 85 = .ok (.invokevirtual 121, 3) := by decide +kernel
theorem dX3_days_88 : decode cX3_days 88 = .ok (.istore 7, 2) := by decide +kernel
theorem dX3_days_90 : decode cX3_days 90 = .ok (.iload 5, 2) := by decide +kernel
theorem dX3_days_92 : decode cX3_days 92 = .ok (.iconst 1, 1) := by decide +kernel
theorem dX3_days_93 : decode cX3_days 93 = .ok (.if_icmp .ne 6, 3) := by decide +kernel
theorem dX3_days_96 : decode cX3_days 96 = .ok (.iload 7, 2) := by decide +kernel
theorem dX3_days_98 : decode cX3_days 98 = .ok (.ireturn, 1) := by decide +kernel
theorem dX3_days_99 : decode cX3_days 99 = .ok (.iload 7, 2) := by decide +kernel
theorem dX3_days_101 : decode cX3_days 101 = .ok (.bipush (-9), 2) := by decide +kernel
theorem dX3_days_103 : decode cX3_days 103 = .ok (.if_icmp .ne 12, 3) := by decide +kernel
theorem dX3_days_106 : decode cX3_days 106 = .ok (.aload_n 0, 1) := by decide +kernel
theorem dX3_days_107 : decode cX3_days 107 = .ok (.iload 5, 2) := by decide +kernel
theorem dX3_days_109 : decode cX3_days 109 = .ok (.invokevirtual 125, 3) := by decide +kernel
theorem dX3_days_112 : decode cX3_days 112 = .ok (.goto 8, 3) := by decide +kernel
theorem dX3_days_115 : decode cX3_days 115 = .ok (.bipush (-100), 2) := by decide +kernel
theorem dX3_days_117 : decode cX3_days 117 = .ok (.iload 7, 2) := by decide +kernel
theorem dX3_days_119 : decode cX3_days 119 = .ok (.isub, 1) := by decide +kernel
theorem dX3_days_120 : decode cX3_days 120 = .ok (.ireturn, 1) := by decide +kernel
set_option maxRecDepth 20000 in
theorem ggX3_way_X2_isPerson : GoodIn wsX3_way wsX2_isPerson := goodIn_r _ [6, 7, 44, 45, 46, 47, 48, 49, 50, 51] (by decide +kernel) (by decide +kernel)
set_option maxRecDepth 20000 in
theorem gX3_way_X2_isPerson : GoodIn wsX3_way (wsV RX3 71 RX2 yX2_isPerson wsX2_isPerson) := goodIn_app (goodIn_of _ (by decide +kernel)) ggX3_way_X2_isPerson
set_option maxRecDepth 20000 in
theorem ggX3_way_X2_truthsOf : GoodIn wsX3_way wsX2_truthsOf := goodIn_r _ [11, 12, 13, 44, 45, 46, 47, 48, 49, 50, 51] (by decide +kernel) (by decide +kernel)
set_option maxRecDepth 20000 in
theorem gX3_way_X2_truthsOf : GoodIn wsX3_way (wsV RX3 77 RX2 yX2_truthsOf wsX2_truthsOf) := goodIn_app (goodIn_of _ (by decide +kernel)) ggX3_way_X2_truthsOf
set_option maxRecDepth 20000 in
theorem ggX3_way_X3_isWithin : GoodIn wsX3_way wsX3_isWithin := goodIn_r _ [17] (by decide +kernel) (by decide +kernel)
set_option maxRecDepth 20000 in
theorem gX3_way_X3_isWithin : GoodIn wsX3_way (va_wsS RX3 128 yX3_isWithin wsX3_isWithin) := goodIn_app (goodIn_of _ (by decide +kernel)) ggX3_way_X3_isWithin
set_option maxRecDepth 20000 in
theorem ggX3_way_X2_floorBy : GoodIn wsX3_way wsX2_floorBy := goodIn_r _ [21, 13, 22, 23, 24, 5, 25, 26, 27, 44, 45, 46, 47, 48, 49, 50, 51] (by decide +kernel) (by decide +kernel)
set_option maxRecDepth 20000 in
theorem gX3_way_X2_floorBy : GoodIn wsX3_way (wsV RX3 131 RX2 yX2_floorBy wsX2_floorBy) := goodIn_app (goodIn_of _ (by decide +kernel)) ggX3_way_X2_floorBy
set_option maxRecDepth 20000 in
theorem ggX3_way_J6_bitCount_0f7a4 : GoodIn wsX3_way wsJ6_bitCount_0f7a4 := goodIn_r _ [31, 32, 33, 34] (by decide +kernel) (by decide +kernel)
set_option maxRecDepth 20000 in
theorem gX3_way_J6_bitCount_0f7a4 : GoodIn wsX3_way (va_wsS RX3 134 yJ6_bitCount_0f7a4 wsJ6_bitCount_0f7a4) := goodIn_app (goodIn_of _ (by decide +kernel)) ggX3_way_J6_bitCount_0f7a4
theorem dX3_way_0 : decode cX3_way 0 = .ok (.aload_n 0, 1) := by decide +kernel
theorem dX3_way_1 : decode cX3_way 1 = .ok (.getfield 35, 3) := by decide +kernel
theorem dX3_way_4 : decode cX3_way 4 = .ok (.iload_n 1, 1) := by decide +kernel
theorem dX3_way_5 : decode cX3_way 5 = .ok (.invokevirtual 71, 3) := by decide +kernel
theorem dX3_way_8 : decode cX3_way 8 = .ok (.ifCond .ne 5, 3) := by decide +kernel
theorem dX3_way_11 : decode cX3_way 11 = .ok (.iconst (-1), 1) := by decide +kernel
theorem dX3_way_12 : decode cX3_way 12 = .ok (.ireturn, 1) := by decide +kernel
theorem dX3_way_13 : decode cX3_way 13 = .ok (.iload_n 2, 1) := by decide +kernel
theorem dX3_way_14 : decode cX3_way 14 = .ok (.ifCond .ge 6, 3) := by decide +kernel
theorem dX3_way_17 : decode cX3_way 17 = .ok (.bipush (-2), 2) := by decide +kernel
theorem dX3_way_19 : decode cX3_way 19 = .ok (.ireturn, 1) := by decide +kernel
theorem dX3_way_20 : decode cX3_way 20 = .ok (.aload_n 0, 1) := by decide +kernel
theorem dX3_way_21 : decode cX3_way 21 = .ok (.getfield 35, 3) := by decide +kernel
theorem dX3_way_24 : decode cX3_way 24 = .ok (.iload_n 1, 1) := by decide +kernel
theorem dX3_way_25 : decode cX3_way 25 = .ok (.invokevirtual 77, 3) := by decide +kernel
theorem dX3_way_28 : decode cX3_way 28 = .ok (.istore_n 3, 1) := by decide +kernel
theorem dX3_way_29 : decode cX3_way 29 = .ok (.bipush (-9), 2) := by decide +kernel
theorem dX3_way_31 : decode cX3_way 31 = .ok (.istore 4, 2) := by decide +kernel
theorem dX3_way_33 : decode cX3_way 33 = .ok (.iconst 0, 1) := by decide +kernel
theorem dX3_way_34 : decode cX3_way 34 = .ok (.istore 5, 2) := by decide +kernel
theorem dX3_way_36 : decode cX3_way 36 = .ok (.iload 5, 2) := by decide +kernel
theorem dX3_way_38 : decode cX3_way 38 = .ok (.iload_n 3, 1) := by decide +kernel
theorem dX3_way_39 : decode cX3_way 39 = .ok (.if_icmp .gt 68, 3) := by decide +kernel
theorem dX3_way_42 : decode cX3_way 42 = .ok (.iload 5, 2) := by decide +kernel
theorem dX3_way_44 : decode cX3_way 44 = .ok (.iload_n 3, 1) := by decide +kernel
theorem dX3_way_45 : decode cX3_way 45 = .ok (.invokestatic 128, 3) := by decide +kernel
theorem dX3_way_48 : decode cX3_way 48 = .ok (.ifCond .eq 21, 3) := by decide +kernel
theorem dX3_way_51 : decode cX3_way 51 = .ok (.aload_n 0, 1) := by decide +kernel
theorem dX3_way_52 : decode cX3_way 52 = .ok (.getfield 35, 3) := by decide +kernel
theorem dX3_way_55 : decode cX3_way 55 = .ok (.iload_n 1, 1) := by decide +kernel
theorem dX3_way_56 : decode cX3_way 56 = .ok (.iload 5, 2) := by decide +kernel
theorem dX3_way_58 : decode cX3_way 58 = .ok (.invokevirtual 131, 3) := by decide +kernel
theorem dX3_way_61 : decode cX3_way 61 = .ok (.iload_n 2, 1) := by decide +kernel
theorem dX3_way_62 : decode cX3_way 62 = .ok (.if_icmp .ne 7, 3) := by decide +kernel
theorem dX3_way_65 : decode cX3_way 65 = .ok (.iconst 1, 1) := by decide +kernel
theorem dX3_way_66 : decode cX3_way 66 = .ok (.goto 4, 3) := by decide +kernel
theorem dX3_way_69 : decode cX3_way 69 = .ok (.iconst 0, 1) := by decide +kernel
theorem dX3_way_70 : decode cX3_way 70 = .ok (.istore 6, 2) := by decide +kernel
theorem dX3_way_72 : decode cX3_way 72 = .ok (.iload 6, 2) := by decide +kernel
theorem dX3_way_74 : decode cX3_way 74 = .ok (.ifCond .eq 27, 3) := by decide +kernel
theorem dX3_way_77 : decode cX3_way 77 = .ok (.iload 4, 2) := by decide +kernel
theorem dX3_way_79 : decode cX3_way 79 = .ok (.bipush (-9), 2) := by decide +kernel
theorem dX3_way_81 : decode cX3_way 81 = .ok (.if_icmp .eq 16, 3) := by decide +kernel
theorem dX3_way_84 : decode cX3_way 84 = .ok (.iload 5, 2) := by decide +kernel
theorem dX3_way_86 : decode cX3_way 86 = .ok (.invokestatic 134, 3) := by decide +kernel
theorem dX3_way_89 : decode cX3_way 89 = .ok (.iload 4, 2) := by decide +kernel
theorem dX3_way_91 : decode cX3_way 91 = .ok (.invokestatic 134, 3) := by decide +kernel
theorem dX3_way_94 : decode cX3_way 94 = .ok (.if_icmp .ge 7, 3) := by decide +kernel
theorem dX3_way_97 : decode cX3_way 97 = .ok (.iload 5, 2) := by decide +kernel
theorem dX3_way_99 : decode cX3_way 99 = .ok (.istore 4, 2) := by decide +kernel
theorem dX3_way_101 : decode cX3_way 101 = .ok (.iinc 5 1, 3) := by decide +kernel
theorem dX3_way_104 : decode cX3_way 104 = .ok (.goto (-68), 3) := by decide +kernel
theorem dX3_way_107 : decode cX3_way 107 = .ok (.iload 4, 2) := by decide +kernel
theorem dX3_way_109 : decode cX3_way 109 = .ok (.ireturn, 1) := by decide +kernel
set_option maxRecDepth 20000 in
theorem ggX3_kept_X2_isPerson : GoodIn wsX3_kept wsX2_isPerson := goodIn_r _ [6, 7, 37, 38, 39, 40, 41, 42, 43, 44] (by decide +kernel) (by decide +kernel)
set_option maxRecDepth 20000 in
theorem gX3_kept_X2_isPerson : GoodIn wsX3_kept (wsV RX3 71 RX2 yX2_isPerson wsX2_isPerson) := goodIn_app (goodIn_of _ (by decide +kernel)) ggX3_kept_X2_isPerson
set_option maxRecDepth 20000 in
theorem ggX3_kept_X2_truthsOf : GoodIn wsX3_kept wsX2_truthsOf := goodIn_r _ [11, 12, 13, 37, 38, 39, 40, 41, 42, 43, 44] (by decide +kernel) (by decide +kernel)
set_option maxRecDepth 20000 in
theorem gX3_kept_X2_truthsOf : GoodIn wsX3_kept (wsV RX3 77 RX2 yX2_truthsOf wsX2_truthsOf) := goodIn_app (goodIn_of _ (by decide +kernel)) ggX3_kept_X2_truthsOf
set_option maxRecDepth 20000 in
theorem ggX3_kept_X3_isWithin : GoodIn wsX3_kept wsX3_isWithin := goodIn_r _ [17] (by decide +kernel) (by decide +kernel)
set_option maxRecDepth 20000 in
theorem gX3_kept_X3_isWithin : GoodIn wsX3_kept (va_wsS RX3 128 yX3_isWithin wsX3_isWithin) := goodIn_app (goodIn_of _ (by decide +kernel)) ggX3_kept_X3_isWithin
set_option maxRecDepth 20000 in
theorem ggX3_kept_X2_floorBy : GoodIn wsX3_kept wsX2_floorBy := goodIn_r _ [21, 13, 22, 23, 24, 5, 25, 26, 27, 37, 38, 39, 40, 41, 42, 43, 44] (by decide +kernel) (by decide +kernel)
set_option maxRecDepth 20000 in
theorem gX3_kept_X2_floorBy : GoodIn wsX3_kept (wsV RX3 131 RX2 yX2_floorBy wsX2_floorBy) := goodIn_app (goodIn_of _ (by decide +kernel)) ggX3_kept_X2_floorBy
theorem dX3_kept_0 : decode cX3_kept 0 = .ok (.aload_n 0, 1) := by decide +kernel
theorem dX3_kept_1 : decode cX3_kept 1 = .ok (.getfield 35, 3) := by decide +kernel
theorem dX3_kept_4 : decode cX3_kept 4 = .ok (.iload_n 1, 1) := by decide +kernel
theorem dX3_kept_5 : decode cX3_kept 5 = .ok (.invokevirtual 71, 3) := by decide +kernel
theorem dX3_kept_8 : decode cX3_kept 8 = .ok (.ifCond .ne 5, 3) := by decide +kernel
theorem dX3_kept_11 : decode cX3_kept 11 = .ok (.iconst (-1), 1) := by decide +kernel
theorem dX3_kept_12 : decode cX3_kept 12 = .ok (.ireturn, 1) := by decide +kernel
theorem dX3_kept_13 : decode cX3_kept 13 = .ok (.iload_n 2, 1) := by decide +kernel
theorem dX3_kept_14 : decode cX3_kept 14 = .ok (.ifCond .ge 6, 3) := by decide +kernel
theorem dX3_kept_17 : decode cX3_kept 17 = .ok (.bipush (-2), 2) := by decide +kernel
theorem dX3_kept_19 : decode cX3_kept 19 = .ok (.ireturn, 1) := by decide +kernel
theorem dX3_kept_20 : decode cX3_kept 20 = .ok (.aload_n 0, 1) := by decide +kernel
theorem dX3_kept_21 : decode cX3_kept 21 = .ok (.getfield 35, 3) := by decide +kernel
theorem dX3_kept_24 : decode cX3_kept 24 = .ok (.iload_n 1, 1) := by decide +kernel
theorem dX3_kept_25 : decode cX3_kept 25 = .ok (.invokevirtual 77, 3) := by decide +kernel
theorem dX3_kept_28 : decode cX3_kept 28 = .ok (.istore_n 3, 1) := by decide +kernel
theorem dX3_kept_29 : decode cX3_kept 29 = .ok (.bipush (-9), 2) := by decide +kernel
theorem dX3_kept_31 : decode cX3_kept 31 = .ok (.istore 4, 2) := by decide +kernel
theorem dX3_kept_33 : decode cX3_kept 33 = .ok (.iconst 0, 1) := by decide +kernel
theorem dX3_kept_34 : decode cX3_kept 34 = .ok (.istore 5, 2) := by decide +kernel
theorem dX3_kept_36 : decode cX3_kept 36 = .ok (.iload 5, 2) := by decide +kernel
theorem dX3_kept_38 : decode cX3_kept 38 = .ok (.iload_n 3, 1) := by decide +kernel
theorem dX3_kept_39 : decode cX3_kept 39 = .ok (.if_icmp .gt 51, 3) := by decide +kernel
theorem dX3_kept_42 : decode cX3_kept 42 = .ok (.iload 5, 2) := by decide +kernel
theorem dX3_kept_44 : decode cX3_kept 44 = .ok (.iload_n 3, 1) := by decide +kernel
theorem dX3_kept_45 : decode cX3_kept 45 = .ok (.invokestatic 128, 3) := by decide +kernel
theorem dX3_kept_48 : decode cX3_kept 48 = .ok (.ifCond .eq 36, 3) := by decide +kernel
theorem dX3_kept_51 : decode cX3_kept 51 = .ok (.aload_n 0, 1) := by decide +kernel
theorem dX3_kept_52 : decode cX3_kept 52 = .ok (.getfield 35, 3) := by decide +kernel
theorem dX3_kept_55 : decode cX3_kept 55 = .ok (.iload_n 1, 1) := by decide +kernel
theorem dX3_kept_56 : decode cX3_kept 56 = .ok (.iload 5, 2) := by decide +kernel
theorem dX3_kept_58 : decode cX3_kept 58 = .ok (.invokevirtual 131, 3) := by decide +kernel
theorem dX3_kept_61 : decode cX3_kept 61 = .ok (.iload_n 2, 1) := by decide +kernel
theorem dX3_kept_62 : decode cX3_kept 62 = .ok (.if_icmp .ne 22, 3) := by decide +kernel
theorem dX3_kept_65 : decode cX3_kept 65 = .ok (.iload 4, 2) := by decide +kernel
theorem dX3_kept_67 : decode cX3_kept 67 = .ok (.bipush (-9), 2) := by decide +kernel
theorem dX3_kept_69 : decode cX3_kept 69 = .ok (.if_icmp .ne 8, 3) := by decide +kernel
theorem dX3_kept_72 : decode cX3_kept 72 = .ok (.iload 5, 2) := by decide +kernel
theorem dX3_kept_74 : decode cX3_kept 74 = .ok (.goto 8, 3) := by decide +kernel
theorem dX3_kept_77 : decode cX3_kept 77 = .ok (.iload 4, 2) := by decide +kernel
theorem dX3_kept_79 : decode cX3_kept 79 = .ok (.iload 5, 2) := by decide +kernel
theorem dX3_kept_81 : decode cX3_kept 81 = .ok (.iand, 1) := by decide +kernel
theorem dX3_kept_82 : decode cX3_kept 82 = .ok (.istore 4, 2) := by decide +kernel
theorem dX3_kept_84 : decode cX3_kept 84 = .ok (.iinc 5 1, 3) := by decide +kernel
theorem dX3_kept_87 : decode cX3_kept 87 = .ok (.goto (-51), 3) := by decide +kernel
theorem dX3_kept_90 : decode cX3_kept 90 = .ok (.iload 4, 2) := by decide +kernel
theorem dX3_kept_92 : decode cX3_kept 92 = .ok (.ireturn, 1) := by decide +kernel
set_option maxRecDepth 20000 in
theorem ggX3_roof_X2_isPerson : GoodIn wsX3_roof wsX2_isPerson := goodIn_r _ [6, 7, 33, 34, 35, 36, 37, 38, 39, 40] (by decide +kernel) (by decide +kernel)
set_option maxRecDepth 20000 in
theorem gX3_roof_X2_isPerson : GoodIn wsX3_roof (wsV RX3 71 RX2 yX2_isPerson wsX2_isPerson) := goodIn_app (goodIn_of _ (by decide +kernel)) ggX3_roof_X2_isPerson
set_option maxRecDepth 20000 in
theorem ggX3_roof_X2_truthsOf : GoodIn wsX3_roof wsX2_truthsOf := goodIn_r _ [11, 12, 13, 33, 34, 35, 36, 37, 38, 39, 40] (by decide +kernel) (by decide +kernel)
set_option maxRecDepth 20000 in
theorem gX3_roof_X2_truthsOf : GoodIn wsX3_roof (wsV RX3 77 RX2 yX2_truthsOf wsX2_truthsOf) := goodIn_app (goodIn_of _ (by decide +kernel)) ggX3_roof_X2_truthsOf
set_option maxRecDepth 20000 in
theorem ggX3_roof_X2_floorBy : GoodIn wsX3_roof wsX2_floorBy := goodIn_r _ [17, 13, 18, 19, 20, 5, 21, 22, 23, 33, 34, 35, 36, 37, 38, 39, 40] (by decide +kernel) (by decide +kernel)
set_option maxRecDepth 20000 in
theorem gX3_roof_X2_floorBy : GoodIn wsX3_roof (wsV RX3 131 RX2 yX2_floorBy wsX2_floorBy) := goodIn_app (goodIn_of _ (by decide +kernel)) ggX3_roof_X2_floorBy
theorem dX3_roof_0 : decode cX3_roof 0 = .ok (.aload_n 0, 1) := by decide +kernel
theorem dX3_roof_1 : decode cX3_roof 1 = .ok (.getfield 35, 3) := by decide +kernel
theorem dX3_roof_4 : decode cX3_roof 4 = .ok (.iload_n 1, 1) := by decide +kernel
theorem dX3_roof_5 : decode cX3_roof 5 = .ok (.invokevirtual 71, 3) := by decide +kernel
theorem dX3_roof_8 : decode cX3_roof 8 = .ok (.ifCond .eq 22, 3) := by decide +kernel
theorem dX3_roof_11 : decode cX3_roof 11 = .ok (.aload_n 0, 1) := by decide +kernel
theorem dX3_roof_12 : decode cX3_roof 12 = .ok (.getfield 35, 3) := by decide +kernel
theorem dX3_roof_15 : decode cX3_roof 15 = .ok (.iload_n 1, 1) := by decide +kernel
theorem dX3_roof_16 : decode cX3_roof 16 = .ok (.aload_n 0, 1) := by decide +kernel
theorem dX3_roof_17 : decode cX3_roof 17 = .ok (.getfield 35, 3) := by decide +kernel
theorem dX3_roof_20 : decode cX3_roof 20 = .ok (.iload_n 1, 1) := by decide +kernel
theorem dX3_roof_21 : decode cX3_roof 21 = .ok (.invokevirtual 77, 3) := by decide +kernel
theorem dX3_roof_24 : decode cX3_roof 24 = .ok (.invokevirtual 131, 3) := by decide +kernel
theorem dX3_roof_27 : decode cX3_roof 27 = .ok (.goto 4, 3) := by decide +kernel
theorem dX3_roof_30 : decode cX3_roof 30 = .ok (.iconst (-1), 1) := by decide +kernel
theorem dX3_roof_31 : decode cX3_roof 31 = .ok (.ireturn, 1) := by decide +kernel
set_option maxRecDepth 20000 in
theorem ggX3_safe_X2_isPerson : GoodIn wsX3_safe wsX2_isPerson := goodIn_r _ [7, 8, 44, 45, 46, 47, 48, 49, 50, 51] (by decide +kernel) (by decide +kernel)
set_option maxRecDepth 20000 in
theorem gX3_safe_X2_isPerson : GoodIn wsX3_safe (wsV RX3 71 RX2 yX2_isPerson wsX2_isPerson) := goodIn_app (goodIn_of _ (by decide +kernel)) ggX3_safe_X2_isPerson
set_option maxRecDepth 20000 in
theorem ggX3_safe_X2_hasTold : GoodIn wsX3_safe wsX2_hasTold := goodIn_r _ [12, 13, 44, 45, 46, 47, 48, 49, 50, 51] (by decide +kernel) (by decide +kernel)
set_option maxRecDepth 20000 in
theorem gX3_safe_X2_hasTold : GoodIn wsX3_safe (wsV RX3 99 RX2 yX2_hasTold wsX2_hasTold) := goodIn_app (goodIn_of _ (by decide +kernel)) ggX3_safe_X2_hasTold
set_option maxRecDepth 20000 in
theorem ggX3_safe_X2_wouldBeCaught : GoodIn wsX3_safe wsX2_wouldBeCaught := goodIn_r _ [17, 18, 8, 19, 20, 21, 22, 6, 23, 13, 24, 25, 26, 27, 28, 29, 30, 31, 32, 33, 34, 44, 45, 46, 47, 48, 49, 50, 51] (by decide +kernel) (by decide +kernel)
set_option maxRecDepth 20000 in
theorem gX3_safe_X2_wouldBeCaught : GoodIn wsX3_safe (wsV RX3 142 RX2 yX2_wouldBeCaught wsX2_wouldBeCaught) := goodIn_app (goodIn_of _ (by decide +kernel)) ggX3_safe_X2_wouldBeCaught
theorem dX3_safe_0 : decode cX3_safe 0 = .ok (.aload_n 0, 1) := by decide +kernel
theorem dX3_safe_1 : decode cX3_safe 1 = .ok (.getfield 35, 3) := by decide +kernel
theorem dX3_safe_4 : decode cX3_safe 4 = .ok (.iload_n 1, 1) := by decide +kernel
theorem dX3_safe_5 : decode cX3_safe 5 = .ok (.invokevirtual 71, 3) := by decide +kernel
theorem dX3_safe_8 : decode cX3_safe 8 = .ok (.ifCond .ne 5, 3) := by decide +kernel
theorem dX3_safe_11 : decode cX3_safe 11 = .ok (.iconst (-1), 1) := by decide +kernel
theorem dX3_safe_12 : decode cX3_safe 12 = .ok (.ireturn, 1) := by decide +kernel
theorem dX3_safe_13 : decode cX3_safe 13 = .ok (.iconst 0, 1) := by decide +kernel
theorem dX3_safe_14 : decode cX3_safe 14 = .ok (.istore_n 2, 1) := by decide +kernel
theorem dX3_safe_15 : decode cX3_safe 15 = .ok (.iconst 0, 1) := by decide +kernel
theorem dX3_safe_16 : decode cX3_safe 16 = .ok (.istore_n 3, 1) := by decide +kernel
theorem dX3_safe_17 : decode cX3_safe 17 = .ok (.iload_n 3, 1) := by decide +kernel
theorem dX3_safe_18 : decode cX3_safe 18 = .ok (.aload_n 0, 1) := by decide +kernel
theorem dX3_safe_19 : decode cX3_safe 19 = .ok (.getfield 35, 3) := by decide +kernel
theorem dX3_safe_22 : decode cX3_safe 22 = .ok (.getfield 139, 3) := by decide +kernel
theorem dX3_safe_25 : decode cX3_safe 25 = .ok (.if_icmp .ge 39, 3) := by decide +kernel
theorem dX3_safe_28 : decode cX3_safe 28 = .ok (.aload_n 0, 1) := by decide +kernel
theorem dX3_safe_29 : decode cX3_safe 29 = .ok (.getfield 35, 3) := by decide +kernel
theorem dX3_safe_32 : decode cX3_safe 32 = .ok (.iload_n 1, 1) := by decide +kernel
theorem dX3_safe_33 : decode cX3_safe 33 = .ok (.iload_n 3, 1) := by decide +kernel
theorem dX3_safe_34 : decode cX3_safe 34 = .ok (.invokevirtual 99, 3) := by decide +kernel
theorem dX3_safe_37 : decode cX3_safe 37 = .ok (.ifCond .ne 21, 3) := by decide +kernel
theorem dX3_safe_40 : decode cX3_safe 40 = .ok (.aload_n 0, 1) := by decide +kernel
theorem dX3_safe_41 : decode cX3_safe 41 = .ok (.getfield 35, 3) := by decide +kernel
theorem dX3_safe_44 : decode cX3_safe 44 = .ok (.iload_n 1, 1) := by decide +kernel
theorem dX3_safe_45 : decode cX3_safe 45 = .ok (.iload_n 3, 1) := by decide +kernel
theorem dX3_safe_46 : decode cX3_safe 46 = .ok (.invokevirtual 142, 3) := by decide +kernel
theorem dX3_safe_49 : decode cX3_safe 49 = .ok (.ifCond .ne 9, 3) := by decide +kernel
theorem dX3_safe_52 : decode cX3_safe 52 = .ok (.iload_n 2, 1) := by decide +kernel
theorem dX3_safe_53 : decode cX3_safe 53 = .ok (.iconst 1, 1) := by decide +kernel
theorem dX3_safe_54 : decode cX3_safe 54 = .ok (.iload_n 3, 1) := by decide +kernel
theorem dX3_safe_55 : decode cX3_safe 55 = .ok (.ishl, 1) := by decide +kernel
theorem dX3_safe_56 : decode cX3_safe 56 = .ok (.ior, 1) := by decide +kernel
theorem dX3_safe_57 : decode cX3_safe 57 = .ok (.istore_n 2, 1) := by decide +kernel
theorem dX3_safe_58 : decode cX3_safe 58 = .ok (.iinc 3 1, 3) := by decide +kernel
theorem dX3_safe_61 : decode cX3_safe 61 = .ok (.goto (-44), 3) := by decide +kernel
theorem dX3_safe_64 : decode cX3_safe 64 = .ok (.iload_n 2, 1) := by decide +kernel
theorem dX3_safe_65 : decode cX3_safe 65 = .ok (.ireturn, 1) := by decide +kernel
set_option maxRecDepth 20000 in
theorem ggX3_reading_X2_isPerson : GoodIn wsX3_reading wsX2_isPerson := goodIn_r _ [9, 10, 20, 21, 22, 23, 24, 25, 26, 27] (by decide +kernel) (by decide +kernel)
set_option maxRecDepth 20000 in
theorem gX3_reading_X2_isPerson : GoodIn wsX3_reading (wsV RX3 71 RX2 yX2_isPerson wsX2_isPerson) := goodIn_app (goodIn_of _ (by decide +kernel)) ggX3_reading_X2_isPerson
theorem dX3_reading_0 : decode cX3_reading 0 = .ok (.aload_n 0, 1) := by decide +kernel
theorem dX3_reading_1 : decode cX3_reading 1 = .ok (.getfield 35, 3) := by decide +kernel
theorem dX3_reading_4 : decode cX3_reading 4 = .ok (.iload_n 1, 1) := by decide +kernel
theorem dX3_reading_5 : decode cX3_reading 5 = .ok (.invokevirtual 71, 3) := by decide +kernel
theorem dX3_reading_8 : decode cX3_reading 8 = .ok (.ifCond .ne 5, 3) := by decide +kernel
theorem dX3_reading_11 : decode cX3_reading 11 = .ok (.iconst (-1), 1) := by decide +kernel
theorem dX3_reading_12 : decode cX3_reading 12 = .ok (.ireturn, 1) := by decide +kernel
theorem dX3_reading_13 : decode cX3_reading 13 = .ok (.iload_n 2, 1) := by decide +kernel
theorem dX3_reading_14 : decode cX3_reading 14 = .ok (.ifCond .lt 9, 3) := by decide +kernel
theorem dX3_reading_17 : decode cX3_reading 17 = .ok (.iload_n 2, 1) := by decide +kernel
theorem dX3_reading_18 : decode cX3_reading 18 = .ok (.bipush 99, 2) := by decide +kernel
theorem dX3_reading_20 : decode cX3_reading 20 = .ok (.if_icmp .le 6, 3) := by decide +kernel
theorem dX3_reading_23 : decode cX3_reading 23 = .ok (.bipush (-2), 2) := by decide +kernel
theorem dX3_reading_25 : decode cX3_reading 25 = .ok (.ireturn, 1) := by decide +kernel
theorem dX3_reading_26 : decode cX3_reading 26 = .ok (.aload_n 0, 1) := by decide +kernel
theorem dX3_reading_27 : decode cX3_reading 27 = .ok (.getfield 65, 3) := by decide +kernel
theorem dX3_reading_30 : decode cX3_reading 30 = .ok (.bipush 8, 2) := by decide +kernel
theorem dX3_reading_32 : decode cX3_reading 32 = .ok (.if_icmp .lt 6, 3) := by decide +kernel
theorem dX3_reading_35 : decode cX3_reading 35 = .ok (.bipush (-4), 2) := by decide +kernel
theorem dX3_reading_37 : decode cX3_reading 37 = .ok (.ireturn, 1) := by decide +kernel
theorem dX3_reading_38 : decode cX3_reading 38 = .ok (.aload_n 0, 1) := by decide +kernel
theorem dX3_reading_39 : decode cX3_reading 39 = .ok (.getfield 25, 3) := by decide +kernel
theorem dX3_reading_42 : decode cX3_reading 42 = .ok (.aload_n 0, 1) := by decide +kernel
theorem dX3_reading_43 : decode cX3_reading 43 = .ok (.getfield 65, 3) := by decide +kernel
theorem dX3_reading_46 : decode cX3_reading 46 = .ok (.iload_n 1, 1) := by decide +kernel
theorem dX3_reading_47 : decode cX3_reading 47 = .ok (.iastore, 1) := by decide +kernel
theorem dX3_reading_48 : decode cX3_reading 48 = .ok (.aload_n 0, 1) := by decide +kernel
theorem dX3_reading_49 : decode cX3_reading 49 = .ok (.getfield 29, 3) := by decide +kernel
theorem dX3_reading_52 : decode cX3_reading 52 = .ok (.aload_n 0, 1) := by decide +kernel
theorem dX3_reading_53 : decode cX3_reading 53 = .ok (.getfield 65, 3) := by decide +kernel
theorem dX3_reading_56 : decode cX3_reading 56 = .ok (.iload_n 2, 1) := by decide +kernel
theorem dX3_reading_57 : decode cX3_reading 57 = .ok (.iastore, 1) := by decide +kernel
theorem dX3_reading_58 : decode cX3_reading 58 = .ok (.aload_n 0, 1) := by decide +kernel
theorem dX3_reading_59 : decode cX3_reading 59 = .ok (.dup, 1) := by decide +kernel
theorem dX3_reading_60 : decode cX3_reading 60 = .ok (.getfield 65, 3) := by decide +kernel
theorem dX3_reading_63 : decode cX3_reading 63 = .ok (.iconst 1, 1) := by decide +kernel
theorem dX3_reading_64 : decode cX3_reading 64 = .ok (.iadd, 1) := by decide +kernel
theorem dX3_reading_65 : decode cX3_reading 65 = .ok (.putfield 65, 3) := by decide +kernel
theorem dX3_reading_68 : decode cX3_reading 68 = .ok (.aload_n 0, 1) := by decide +kernel
theorem dX3_reading_69 : decode cX3_reading 69 = .ok (.getfield 65, 3) := by decide +kernel
theorem dX3_reading_72 : decode cX3_reading 72 = .ok (.iconst 1, 1) := by decide +kernel
theorem dX3_reading_73 : decode cX3_reading 73 = .ok (.isub, 1) := by decide +kernel
theorem dX3_reading_74 : decode cX3_reading 74 = .ok (.ireturn, 1) := by decide +kernel
theorem dX3_back_0 : decode cX3_back 0 = .ok (.iload_n 1, 1) := by decide +kernel
theorem dX3_back_1 : decode cX3_back 1 = .ok (.ifCond .lt 11, 3) := by decide +kernel
theorem dX3_back_4 : decode cX3_back 4 = .ok (.iload_n 1, 1) := by decide +kernel
theorem dX3_back_5 : decode cX3_back 5 = .ok (.aload_n 0, 1) := by decide +kernel
theorem dX3_back_6 : decode cX3_back 6 = .ok (.getfield 65, 3) := by decide +kernel
theorem dX3_back_9 : decode cX3_back 9 = .ok (.if_icmp .le 6, 3) := by decide +kernel
theorem dX3_back_12 : decode cX3_back 12 = .ok (.bipush (-2), 2) := by decide +kernel
theorem dX3_back_14 : decode cX3_back 14 = .ok (.ireturn, 1) := by decide +kernel
theorem dX3_back_15 : decode cX3_back 15 = .ok (.aload_n 0, 1) := by decide +kernel
theorem dX3_back_16 : decode cX3_back 16 = .ok (.dup, 1) := by decide +kernel
theorem dX3_back_17 : decode cX3_back 17 = .ok (.getfield 65, 3) := by decide +kernel
theorem dX3_back_20 : decode cX3_back 20 = .ok (.iload_n 1, 1) := by decide +kernel
theorem dX3_back_21 : decode cX3_back 21 = .ok (.isub, 1) := by decide +kernel
theorem dX3_back_22 : decode cX3_back 22 = .ok (.putfield 65, 3) := by decide +kernel
theorem dX3_back_25 : decode cX3_back 25 = .ok (.aload_n 0, 1) := by decide +kernel
theorem dX3_back_26 : decode cX3_back 26 = .ok (.getfield 65, 3) := by decide +kernel
theorem dX3_back_29 : decode cX3_back 29 = .ok (.ireturn, 1) := by decide +kernel
set_option maxRecDepth 20000 in
theorem ggX3_weights_X2_isDeed : GoodIn wsX3_weights wsX2_isDeed := goodIn_r _ [9, 10, 115, 116, 117, 118, 119, 120, 121, 122] (by decide +kernel) (by decide +kernel)
set_option maxRecDepth 20000 in
theorem gX3_weights_X2_isDeed : GoodIn wsX3_weights (wsV RX3 89 RX2 yX2_isDeed wsX2_isDeed) := goodIn_app (goodIn_of _ (by decide +kernel)) ggX3_weights_X2_isDeed
set_option maxRecDepth 20000 in
theorem ggX3_weights_X3_stopOfGuess : GoodIn wsX3_weights wsX3_stopOfGuess := goodIn_r _ [15, 16, 4, 17, 18, 14, 19, 20, 21, 22, 23, 24, 25, 26, 27, 28, 29, 1, 30, 31, 32, 33, 34, 35, 36, 37, 38, 39, 40, 41, 42, 43, 44, 45, 46, 47, 48, 49, 50, 51, 52, 53, 8, 54, 55, 5, 6, 7, 9, 10, 106, 107, 108, 109, 110, 111, 112, 113, 114, 115, 116, 117, 118, 119, 120, 121, 122, 123, 124, 125] (by decide +kernel) (by decide +kernel)
set_option maxRecDepth 20000 in
theorem gX3_weights_X3_stopOfGuess : GoodIn wsX3_weights (wsV RX3 145 RX3 yX3_stopOfGuess wsX3_stopOfGuess) := goodIn_app (goodIn_of _ (by decide +kernel)) ggX3_weights_X3_stopOfGuess
set_option maxRecDepth 20000 in
theorem ggX3_weights_X2_become : GoodIn wsX3_weights wsX2_become := goodIn_r _ [59, 10, 55, 60, 61, 62, 63, 64, 65, 66, 67, 68, 69, 115, 116, 117, 118, 119, 120, 121, 122] (by decide +kernel) (by decide +kernel)
set_option maxRecDepth 20000 in
theorem gX3_weights_X2_become : GoodIn wsX3_weights (wsV RX3 117 RX2 yX2_become wsX2_become) := goodIn_app (goodIn_of _ (by decide +kernel)) ggX3_weights_X2_become
set_option maxRecDepth 20000 in
theorem ggX3_weights_X3_liveDays : GoodIn wsX3_weights wsX3_liveDays := goodIn_r _ [73, 31, 2, 74, 75, 76, 8, 77, 69, 78, 79, 80, 81, 60, 82, 83, 84, 85, 67, 55, 68, 86, 87, 88, 89, 90, 91, 92, 93, 10, 94, 95, 96, 97, 66, 61, 123, 124, 125, 106, 107, 108, 109, 110, 111, 112, 113, 114, 115, 116, 117, 118, 119, 120, 121, 122] (by decide +kernel) (by decide +kernel)
set_option maxRecDepth 20000 in
theorem gX3_weights_X3_liveDays : GoodIn wsX3_weights (wsV RX3 121 RX3 yX3_liveDays wsX3_liveDays) := goodIn_app (goodIn_of _ (by decide +kernel)) ggX3_weights_X3_liveDays
set_option maxRecDepth 20000 in
theorem ggX3_weights_X3_readingsAreSo : GoodIn wsX3_weights wsX3_readingsAreSo := goodIn_r _ [101, 102, 2, 103, 104, 105, 87, 88, 8, 89, 69, 90, 91, 92, 93, 10, 94, 95, 96, 97, 66, 61, 106, 107, 108, 109, 110, 111, 112, 113, 114, 115, 116, 117, 118, 119, 120, 121, 122] (by decide +kernel) (by decide +kernel)
set_option maxRecDepth 20000 in
theorem gX3_weights_X3_readingsAreSo : GoodIn wsX3_weights (wsV RX3 149 RX3 yX3_readingsAreSo wsX3_readingsAreSo) := goodIn_app (goodIn_of _ (by decide +kernel)) ggX3_weights_X3_readingsAreSo
theorem dX3_weights_0 : decode cX3_weights 0 = .ok (.aload_n 0, 1) := by decide +kernel
theorem dX3_weights_1 : decode cX3_weights 1 = .ok (.aload_n 0, 1) := by decide +kernel
theorem dX3_weights_2 : decode cX3_weights 2 = .ok (.getfield 35, 3) := by decide +kernel
theorem dX3_weights_5 : decode cX3_weights 5 = .ok (.iload_n 1, 1) := by decide +kernel
theorem dX3_weights_6 : decode cX3_weights 6 = .ok (.invokevirtual 89, 3) := by decide +kernel
theorem dX3_weights_9 : decode cX3_weights 9 = .ok (.iload_n 2, 1) := by decide +kernel
theorem dX3_weights_10 : decode cX3_weights 10 = .ok (.iload_n 3, 1) := by decide +kernel
theorem dX3_weights_11 : decode cX3_weights 11 = .ok (.iload 4, 2) := by decide +kernel
theorem dX3_weights_13 : decode cX3_weights 13 = .ok (.iload 5, 2) := by decide +kernel
theorem dX3_weights_15 : decode cX3_weights 15 = .ok (.invokevirtual 145, 3) := by decide +kernel
theorem dX3_weights_18 : decode cX3_weights 18 = .ok (.istore 6, 2) := by decide +kernel
theorem dX3_weights_20 : decode cX3_weights 20 = .ok (.iload 6, 2) := by decide +kernel
theorem dX3_weights_22 : decode cX3_weights 22 = .ok (.ifCond .eq 6, 3) := by decide +kernel
theorem dX3_weights_25 : decode cX3_weights 25 = .ok (.iload 6, 2) := by decide +kernel
theorem dX3_weights_27 : decode cX3_weights 27 = .ok (.ireturn, 1) := by decide +kernel
theorem dX3_weights_28 : decode cX3_weights 28 = .ok (.iconst 0, 1) := by decide +kernel
theorem dX3_weights_29 : decode cX3_weights 29 = .ok (.istore 7, 2) := by decide +kernel
theorem dX3_weights_31 : decode cX3_weights 31 = .ok (.iconst 1, 1) := by decide +kernel
theorem dX3_weights_32 : decode cX3_weights 32 = .ok (.istore 8, 2) := by decide +kernel
theorem dX3_weights_34 : decode cX3_weights 34 = .ok (.iload 8, 2) := by decide +kernel
theorem dX3_weights_36 : decode cX3_weights 36 = .ok (.bipush 9, 2) := by decide +kernel
theorem dX3_weights_38 : decode cX3_weights 38 = .ok (.if_icmp .gt 66, 3) := by decide +kernel
theorem dX3_weights_41 : decode cX3_weights 41 = .ok (.aload_n 0, 1) := by decide +kernel
theorem dX3_weights_42 : decode cX3_weights 42 = .ok (.getfield 39, 3) := by decide +kernel
theorem dX3_weights_45 : decode cX3_weights 45 = .ok (.aload_n 0, 1) := by decide +kernel
theorem dX3_weights_46 : decode cX3_weights 46 = .ok (.getfield 35, 3) := by decide +kernel
theorem dX3_weights_49 : decode cX3_weights 49 = .ok (.invokevirtual 117, 3) := by decide +kernel
theorem dX3_weights_52 : decode cX3_weights 52 = .ok (.aload_n 0, 1) := by decide +kernel
theorem dX3_weights_53 : decode cX3_weights 53 = .ok (.getfield 39, 3) := by decide +kernel
theorem dX3_weights_56 : decode cX3_weights 56 = .ok (.getfield 92, 3) := by decide +kernel
theorem dX3_weights_59 : decode cX3_weights 59 = .ok (.iload_n 1, 1) := by decide +kernel
theorem dX3_weights_60 : decode cX3_weights 60 = .ok (.iload 8, 2) := by decide +kernel
theorem dX3_weights_62 : decode cX3_weights 62 = .ok (.iastore, 1) := by decide +kernel
theorem dX3_weights_63 : decode cX3_weights 63 = .ok (.aload_n 0, 1) := by decide +kernel
theorem dX3_weights_64 : decode cX3_weights 64 = .ok (.aload_n 0, 1) := by decide +kernel
theorem dX3_weights_65 : decode cX3_weights 65 = .ok (.getfield 13, 3) := by decide +kernel
theorem dX3_weights_68 : decode cX3_weights 68 = .ok (.iload_n 2, 1) := by decide +kernel
theorem dX3_weights_69 : decode cX3_weights 69 = .ok (.aaload, 1) := by decide +kernel
theorem dX3_weights_70 : decode cX3_weights 70 = .ok (.iload 4, 2) := by decide +kernel
theorem dX3_weights_72 : decode cX3_weights 72 = .ok (.iload 5, 2) := by decide +kernel
theorem dX3_weights_74 : decode cX3_weights 74 = .ok (.invokevirtual 121, 3) := by decide +kernel
theorem dX3_weights_77 : decode cX3_weights 77 = .ok (.bipush (-9), 2) := by decide +kernel
theorem dX3_weights_79 : decode cX3_weights 79 = .ok (.if_icmp .ne 19, 3) := by decide +kernel
theorem dX3_weights_82 : decode cX3_weights 82 = .ok (.aload_n 0, 1) := by decide +kernel
theorem dX3_weights_83 : decode cX3_weights 83 = .ok (.invokevirtual 149, 3) := by decide +kernel
theorem dX3_weights_86 : decode cX3_weights 86 = .ok (.ifCond .eq 12, 3) := by decide +kernel
theorem dX3_weights_89 : decode cX3_weights 89 = .ok (.iload 7, 2) := by decide +kernel
theorem dX3_weights_91 : decode cX3_weights 91 = .ok (.iconst 1, 1) := by decide +kernel
theorem dX3_weights_92 : decode cX3_weights 92 = .ok (.iload 8, 2) := by decide +kernel
theorem dX3_weights_94 : decode cX3_weights 94 = .ok (.ishl, 1) := by decide +kernel
theorem dX3_weights_95 : decode cX3_weights 95 = .ok (.ior, 1) := by decide +kernel
theorem dX3_weights_96 : decode cX3_weights 96 = .ok (.istore 7, 2) := by decide +kernel
theorem dX3_weights_98 : decode cX3_weights 98 = .ok (.iinc 8 1, 3) := by decide +kernel
theorem dX3_weights_101 : decode cX3_weights 101 = .ok (.goto (-67), 3) := by decide +kernel
theorem dX3_weights_104 : decode cX3_weights 104 = .ok (.iload 7, 2) := by decide +kernel
theorem dX3_weights_106 : decode cX3_weights 106 = .ok (.ireturn, 1) := by decide +kernel
set_option maxRecDepth 20000 in
theorem ggX3_kinds_X2_isPerson : GoodIn wsX3_kinds wsX2_isPerson := goodIn_r _ [9, 10, 115, 116, 117, 118, 119, 120, 121, 122] (by decide +kernel) (by decide +kernel)
set_option maxRecDepth 20000 in
theorem gX3_kinds_X2_isPerson : GoodIn wsX3_kinds (wsV RX3 71 RX2 yX2_isPerson wsX2_isPerson) := goodIn_app (goodIn_of _ (by decide +kernel)) ggX3_kinds_X2_isPerson
set_option maxRecDepth 20000 in
theorem ggX3_kinds_X3_stopOfGuess : GoodIn wsX3_kinds wsX3_stopOfGuess := goodIn_r _ [15, 16, 4, 17, 18, 14, 19, 20, 21, 22, 23, 24, 25, 26, 27, 28, 29, 1, 30, 31, 32, 33, 34, 35, 36, 37, 38, 39, 40, 41, 42, 43, 44, 45, 46, 47, 48, 49, 50, 5, 6, 7, 8, 9, 10, 51, 52, 53, 54, 55, 106, 107, 108, 109, 110, 111, 112, 113, 114, 115, 116, 117, 118, 119, 120, 121, 122, 123, 124, 125] (by decide +kernel) (by decide +kernel)
set_option maxRecDepth 20000 in
theorem gX3_kinds_X3_stopOfGuess : GoodIn wsX3_kinds (wsV RX3 145 RX3 yX3_stopOfGuess wsX3_stopOfGuess) := goodIn_app (goodIn_of _ (by decide +kernel)) ggX3_kinds_X3_stopOfGuess
set_option maxRecDepth 20000 in
theorem ggX3_kinds_X2_become : GoodIn wsX3_kinds wsX2_become := goodIn_r _ [59, 55, 10, 60, 61, 62, 63, 64, 65, 66, 67, 68, 69, 115, 116, 117, 118, 119, 120, 121, 122] (by decide +kernel) (by decide +kernel)
set_option maxRecDepth 20000 in
theorem gX3_kinds_X2_become : GoodIn wsX3_kinds (wsV RX3 117 RX2 yX2_become wsX2_become) := goodIn_app (goodIn_of _ (by decide +kernel)) ggX3_kinds_X2_become
set_option maxRecDepth 20000 in
theorem ggX3_kinds_X3_liveDays : GoodIn wsX3_kinds wsX3_liveDays := goodIn_r _ [73, 31, 2, 74, 75, 76, 8, 77, 69, 78, 79, 80, 81, 60, 82, 83, 84, 85, 67, 10, 68, 86, 87, 88, 89, 90, 91, 92, 93, 55, 94, 95, 96, 97, 66, 61, 123, 124, 125, 106, 107, 108, 109, 110, 111, 112, 113, 114, 115, 116, 117, 118, 119, 120, 121, 122] (by decide +kernel) (by decide +kernel)
set_option maxRecDepth 20000 in
theorem gX3_kinds_X3_liveDays : GoodIn wsX3_kinds (wsV RX3 121 RX3 yX3_liveDays wsX3_liveDays) := goodIn_app (goodIn_of _ (by decide +kernel)) ggX3_kinds_X3_liveDays
set_option maxRecDepth 20000 in
theorem ggX3_kinds_X3_readingsAreSo : GoodIn wsX3_kinds wsX3_readingsAreSo := goodIn_r _ [101, 102, 2, 103, 104, 105, 87, 88, 8, 89, 69, 90, 91, 92, 93, 55, 94, 95, 96, 97, 66, 61, 106, 107, 108, 109, 110, 111, 112, 113, 114, 115, 116, 117, 118, 119, 120, 121, 122] (by decide +kernel) (by decide +kernel)
set_option maxRecDepth 20000 in
theorem gX3_kinds_X3_readingsAreSo : GoodIn wsX3_kinds (wsV RX3 149 RX3 yX3_readingsAreSo wsX3_readingsAreSo) := goodIn_app (goodIn_of _ (by decide +kernel)) ggX3_kinds_X3_readingsAreSo
theorem dX3_kinds_0 : decode cX3_kinds 0 = .ok (.aload_n 0, 1) := by decide +kernel
theorem dX3_kinds_1 : decode cX3_kinds 1 = .ok (.aload_n 0, 1) := by decide +kernel
theorem dX3_kinds_2 : decode cX3_kinds 2 = .ok (.getfield 35, 3) := by decide +kernel
theorem dX3_kinds_5 : decode cX3_kinds 5 = .ok (.iload_n 1, 1) := by decide +kernel
theorem dX3_kinds_6 : decode cX3_kinds 6 = .ok (.invokevirtual 71, 3) := by decide +kernel
theorem dX3_kinds_9 : decode cX3_kinds 9 = .ok (.iload_n 2, 1) := by decide +kernel
theorem dX3_kinds_10 : decode cX3_kinds 10 = .ok (.iload_n 3, 1) := by decide +kernel
theorem dX3_kinds_11 : decode cX3_kinds 11 = .ok (.iload 4, 2) := by decide +kernel
theorem dX3_kinds_13 : decode cX3_kinds 13 = .ok (.iload 5, 2) := by decide +kernel
theorem dX3_kinds_15 : decode cX3_kinds 15 = .ok (.invokevirtual 145, 3) := by decide +kernel
theorem dX3_kinds_18 : decode cX3_kinds 18 = .ok (.istore 6, 2) := by decide +kernel
theorem dX3_kinds_20 : decode cX3_kinds 20 = .ok (.iload 6, 2) := by decide +kernel
theorem dX3_kinds_22 : decode cX3_kinds 22 = .ok (.ifCond .eq 6, 3) := by decide +kernel
theorem dX3_kinds_25 : decode cX3_kinds 25 = .ok (.iload 6, 2) := by decide +kernel
theorem dX3_kinds_27 : decode cX3_kinds 27 = .ok (.ireturn, 1) := by decide +kernel
theorem dX3_kinds_28 : decode cX3_kinds 28 = .ok (.iconst 0, 1) := by decide +kernel
theorem dX3_kinds_29 : decode cX3_kinds 29 = .ok (.istore 7, 2) := by decide +kernel
theorem dX3_kinds_31 : decode cX3_kinds 31 = .ok (.iconst 0, 1) := by decide +kernel
theorem dX3_kinds_32 : decode cX3_kinds 32 = .ok (.istore 8, 2) := by decide +kernel
theorem dX3_kinds_34 : decode cX3_kinds 34 = .ok (.iload 8, 2) := by decide +kernel
theorem dX3_kinds_36 : decode cX3_kinds 36 = .ok (.iconst 2, 1) := by decide +kernel
theorem dX3_kinds_37 : decode cX3_kinds 37 = .ok (.if_icmp .gt 66, 3) := by decide +kernel
theorem dX3_kinds_40 : decode cX3_kinds 40 = .ok (.aload_n 0, 1) := by decide +kernel
theorem dX3_kinds_41 : decode cX3_kinds 41 = .ok (.getfield 39, 3) := by decide +kernel
theorem dX3_kinds_44 : decode cX3_kinds 44 = .ok (.aload_n 0, 1) := by decide +kernel
theorem dX3_kinds_45 : decode cX3_kinds 45 = .ok (.getfield 35, 3) := by decide +kernel
theorem dX3_kinds_48 : decode cX3_kinds 48 = .ok (.invokevirtual 117, 3) := by decide +kernel
theorem dX3_kinds_51 : decode cX3_kinds 51 = .ok (.aload_n 0, 1) := by decide +kernel
theorem dX3_kinds_52 : decode cX3_kinds 52 = .ok (.getfield 39, 3) := by decide +kernel
theorem dX3_kinds_55 : decode cX3_kinds 55 = .ok (.getfield 74, 3) := by decide +kernel
theorem dX3_kinds_58 : decode cX3_kinds 58 = .ok (.iload_n 1, 1) := by decide +kernel
theorem dX3_kinds_59 : decode cX3_kinds 59 = .ok (.iload 8, 2) := by decide +kernel
theorem dX3_kinds_61 : decode cX3_kinds 61 = .ok (.iastore, 1) := by decide +kernel
theorem dX3_kinds_62 : decode cX3_kinds 62 = .ok (.aload_n 0, 1) := by decide +kernel
theorem dX3_kinds_63 : decode cX3_kinds 63 = .ok (.aload_n 0, 1) := by decide +kernel
theorem dX3_kinds_64 : decode cX3_kinds 64 = .ok (.getfield 13, 3) := by decide +kernel
theorem dX3_kinds_67 : decode cX3_kinds 67 = .ok (.iload_n 2, 1) := by decide +kernel
theorem dX3_kinds_68 : decode cX3_kinds 68 = .ok (.aaload, 1) := by decide +kernel
theorem dX3_kinds_69 : decode cX3_kinds 69 = .ok (.iload 4, 2) := by decide +kernel
theorem dX3_kinds_71 : decode cX3_kinds 71 = .ok (.iload 5, 2) := by decide +kernel
theorem dX3_kinds_73 : decode cX3_kinds 73 = .ok (.invokevirtual 121, 3) := by decide +kernel
theorem dX3_kinds_76 : decode cX3_kinds 76 = .ok (.bipush (-9), 2) := by decide +kernel
theorem dX3_kinds_78 : decode cX3_kinds 78 = .ok (.if_icmp .ne 19, 3) := by decide +kernel
theorem dX3_kinds_81 : decode cX3_kinds 81 = .ok (.aload_n 0, 1) := by decide +kernel
theorem dX3_kinds_82 : decode cX3_kinds 82 = .ok (.invokevirtual 149, 3) := by decide +kernel
theorem dX3_kinds_85 : decode cX3_kinds 85 = .ok (.ifCond .eq 12, 3) := by decide +kernel
theorem dX3_kinds_88 : decode cX3_kinds 88 = .ok (.iload 7, 2) := by decide +kernel
theorem dX3_kinds_90 : decode cX3_kinds 90 = .ok (.iconst 1, 1) := by decide +kernel
theorem dX3_kinds_91 : decode cX3_kinds 91 = .ok (.iload 8, 2) := by decide +kernel
theorem dX3_kinds_93 : decode cX3_kinds 93 = .ok (.ishl, 1) := by decide +kernel
theorem dX3_kinds_94 : decode cX3_kinds 94 = .ok (.ior, 1) := by decide +kernel
theorem dX3_kinds_95 : decode cX3_kinds 95 = .ok (.istore 7, 2) := by decide +kernel
theorem dX3_kinds_97 : decode cX3_kinds 97 = .ok (.iinc 8 1, 3) := by decide +kernel
theorem dX3_kinds_100 : decode cX3_kinds 100 = .ok (.goto (-66), 3) := by decide +kernel
theorem dX3_kinds_103 : decode cX3_kinds 103 = .ok (.iload 7, 2) := by decide +kernel
theorem dX3_kinds_105 : decode cX3_kinds 105 = .ok (.ireturn, 1) := by decide +kernel
set_option maxRecDepth 20000 in
theorem ggX3_knew_X2_isPerson : GoodIn wsX3_knew wsX2_isPerson := goodIn_r _ [9, 10, 115, 116, 117, 118, 119, 120, 121, 122] (by decide +kernel) (by decide +kernel)
set_option maxRecDepth 20000 in
theorem gX3_knew_X2_isPerson : GoodIn wsX3_knew (wsV RX3 71 RX2 yX2_isPerson wsX2_isPerson) := goodIn_app (goodIn_of _ (by decide +kernel)) ggX3_knew_X2_isPerson
set_option maxRecDepth 20000 in
theorem ggX3_knew_X3_stopOfGuess : GoodIn wsX3_knew wsX3_stopOfGuess := goodIn_r _ [15, 16, 4, 17, 18, 14, 19, 20, 21, 22, 23, 24, 25, 26, 27, 28, 29, 1, 30, 31, 32, 33, 34, 35, 36, 37, 38, 39, 40, 41, 42, 43, 44, 45, 46, 47, 48, 49, 50, 5, 6, 7, 8, 9, 10, 51, 52, 53, 54, 55, 106, 107, 108, 109, 110, 111, 112, 113, 114, 115, 116, 117, 118, 119, 120, 121, 122, 123, 124, 125] (by decide +kernel) (by decide +kernel)
set_option maxRecDepth 20000 in
theorem gX3_knew_X3_stopOfGuess : GoodIn wsX3_knew (wsV RX3 145 RX3 yX3_stopOfGuess wsX3_stopOfGuess) := goodIn_app (goodIn_of _ (by decide +kernel)) ggX3_knew_X3_stopOfGuess
set_option maxRecDepth 20000 in
theorem ggX3_knew_X2_become : GoodIn wsX3_knew wsX2_become := goodIn_r _ [59, 55, 10, 60, 61, 62, 63, 64, 65, 66, 67, 68, 69, 115, 116, 117, 118, 119, 120, 121, 122] (by decide +kernel) (by decide +kernel)
set_option maxRecDepth 20000 in
theorem gX3_knew_X2_become : GoodIn wsX3_knew (wsV RX3 117 RX2 yX2_become wsX2_become) := goodIn_app (goodIn_of _ (by decide +kernel)) ggX3_knew_X2_become
set_option maxRecDepth 20000 in
theorem ggX3_knew_X3_liveDays : GoodIn wsX3_knew wsX3_liveDays := goodIn_r _ [73, 31, 2, 74, 75, 76, 8, 77, 69, 78, 79, 80, 81, 60, 82, 83, 84, 85, 67, 10, 68, 86, 87, 88, 89, 90, 91, 92, 93, 55, 94, 95, 96, 97, 66, 61, 123, 124, 125, 106, 107, 108, 109, 110, 111, 112, 113, 114, 115, 116, 117, 118, 119, 120, 121, 122] (by decide +kernel) (by decide +kernel)
set_option maxRecDepth 20000 in
theorem gX3_knew_X3_liveDays : GoodIn wsX3_knew (wsV RX3 121 RX3 yX3_liveDays wsX3_liveDays) := goodIn_app (goodIn_of _ (by decide +kernel)) ggX3_knew_X3_liveDays
set_option maxRecDepth 20000 in
theorem ggX3_knew_X3_readingsAreSo : GoodIn wsX3_knew wsX3_readingsAreSo := goodIn_r _ [101, 102, 2, 103, 104, 105, 87, 88, 8, 89, 69, 90, 91, 92, 93, 55, 94, 95, 96, 97, 66, 61, 106, 107, 108, 109, 110, 111, 112, 113, 114, 115, 116, 117, 118, 119, 120, 121, 122] (by decide +kernel) (by decide +kernel)
set_option maxRecDepth 20000 in
theorem gX3_knew_X3_readingsAreSo : GoodIn wsX3_knew (wsV RX3 149 RX3 yX3_readingsAreSo wsX3_readingsAreSo) := goodIn_app (goodIn_of _ (by decide +kernel)) ggX3_knew_X3_readingsAreSo
theorem dX3_knew_0 : decode cX3_knew 0 = .ok (.aload_n 0, 1) := by decide +kernel
theorem dX3_knew_1 : decode cX3_knew 1 = .ok (.aload_n 0, 1) := by decide +kernel
theorem dX3_knew_2 : decode cX3_knew 2 = .ok (.getfield 35, 3) := by decide +kernel
theorem dX3_knew_5 : decode cX3_knew 5 = .ok (.iload_n 1, 1) := by decide +kernel
theorem dX3_knew_6 : decode cX3_knew 6 = .ok (.invokevirtual 71, 3) := by decide +kernel
theorem dX3_knew_9 : decode cX3_knew 9 = .ok (.iload_n 2, 1) := by decide +kernel
theorem dX3_knew_10 : decode cX3_knew 10 = .ok (.iload_n 3, 1) := by decide +kernel
theorem dX3_knew_11 : decode cX3_knew 11 = .ok (.iload 4, 2) := by decide +kernel
theorem dX3_knew_13 : decode cX3_knew 13 = .ok (.iload 5, 2) := by decide +kernel
theorem dX3_knew_15 : decode cX3_knew 15 = .ok (.invokevirtual 145, 3) := by decide +kernel
theorem dX3_knew_18 : decode cX3_knew 18 = .ok (.istore 6, 2) := by decide +kernel
theorem dX3_knew_20 : decode cX3_knew 20 = .ok (.iload 6, 2) := by decide +kernel
theorem dX3_knew_22 : decode cX3_knew 22 = .ok (.ifCond .eq 6, 3) := by decide +kernel
theorem dX3_knew_25 : decode cX3_knew 25 = .ok (.iload 6, 2) := by decide +kernel
theorem dX3_knew_27 : decode cX3_knew 27 = .ok (.ireturn, 1) := by decide +kernel
theorem dX3_knew_28 : decode cX3_knew 28 = .ok (.iconst 0, 1) := by decide +kernel
theorem dX3_knew_29 : decode cX3_knew 29 = .ok (.istore 7, 2) := by decide +kernel
theorem dX3_knew_31 : decode cX3_knew 31 = .ok (.iconst 0, 1) := by decide +kernel
theorem dX3_knew_32 : decode cX3_knew 32 = .ok (.istore 8, 2) := by decide +kernel
theorem dX3_knew_34 : decode cX3_knew 34 = .ok (.iload 8, 2) := by decide +kernel
theorem dX3_knew_36 : decode cX3_knew 36 = .ok (.iconst 4, 1) := by decide +kernel
theorem dX3_knew_37 : decode cX3_knew 37 = .ok (.if_icmp .gt 66, 3) := by decide +kernel
theorem dX3_knew_40 : decode cX3_knew 40 = .ok (.aload_n 0, 1) := by decide +kernel
theorem dX3_knew_41 : decode cX3_knew 41 = .ok (.getfield 39, 3) := by decide +kernel
theorem dX3_knew_44 : decode cX3_knew 44 = .ok (.aload_n 0, 1) := by decide +kernel
theorem dX3_knew_45 : decode cX3_knew 45 = .ok (.getfield 35, 3) := by decide +kernel
theorem dX3_knew_48 : decode cX3_knew 48 = .ok (.invokevirtual 117, 3) := by decide +kernel
theorem dX3_knew_51 : decode cX3_knew 51 = .ok (.aload_n 0, 1) := by decide +kernel
theorem dX3_knew_52 : decode cX3_knew 52 = .ok (.getfield 39, 3) := by decide +kernel
theorem dX3_knew_55 : decode cX3_knew 55 = .ok (.getfield 80, 3) := by decide +kernel
theorem dX3_knew_58 : decode cX3_knew 58 = .ok (.iload_n 1, 1) := by decide +kernel
theorem dX3_knew_59 : decode cX3_knew 59 = .ok (.iload 8, 2) := by decide +kernel
theorem dX3_knew_61 : decode cX3_knew 61 = .ok (.iastore, 1) := by decide +kernel
theorem dX3_knew_62 : decode cX3_knew 62 = .ok (.aload_n 0, 1) := by decide +kernel
theorem dX3_knew_63 : decode cX3_knew 63 = .ok (.aload_n 0, 1) := by decide +kernel
theorem dX3_knew_64 : decode cX3_knew 64 = .ok (.getfield 13, 3) := by decide +kernel
theorem dX3_knew_67 : decode cX3_knew 67 = .ok (.iload_n 2, 1) := by decide +kernel
theorem dX3_knew_68 : decode cX3_knew 68 = .ok (.aaload, 1) := by decide +kernel
theorem dX3_knew_69 : decode cX3_knew 69 = .ok (.iload 4, 2) := by decide +kernel
theorem dX3_knew_71 : decode cX3_knew 71 = .ok (.iload 5, 2) := by decide +kernel
theorem dX3_knew_73 : decode cX3_knew 73 = .ok (.invokevirtual 121, 3) := by decide +kernel
theorem dX3_knew_76 : decode cX3_knew 76 = .ok (.bipush (-9), 2) := by decide +kernel
theorem dX3_knew_78 : decode cX3_knew 78 = .ok (.if_icmp .ne 19, 3) := by decide +kernel
theorem dX3_knew_81 : decode cX3_knew 81 = .ok (.aload_n 0, 1) := by decide +kernel
theorem dX3_knew_82 : decode cX3_knew 82 = .ok (.invokevirtual 149, 3) := by decide +kernel
theorem dX3_knew_85 : decode cX3_knew 85 = .ok (.ifCond .eq 12, 3) := by decide +kernel
theorem dX3_knew_88 : decode cX3_knew 88 = .ok (.iload 7, 2) := by decide +kernel
theorem dX3_knew_90 : decode cX3_knew 90 = .ok (.iconst 1, 1) := by decide +kernel
theorem dX3_knew_91 : decode cX3_knew 91 = .ok (.iload 8, 2) := by decide +kernel
theorem dX3_knew_93 : decode cX3_knew 93 = .ok (.ishl, 1) := by decide +kernel
theorem dX3_knew_94 : decode cX3_knew 94 = .ok (.ior, 1) := by decide +kernel
theorem dX3_knew_95 : decode cX3_knew 95 = .ok (.istore 7, 2) := by decide +kernel
theorem dX3_knew_97 : decode cX3_knew 97 = .ok (.iinc 8 1, 3) := by decide +kernel
theorem dX3_knew_100 : decode cX3_knew 100 = .ok (.goto (-66), 3) := by decide +kernel
theorem dX3_knew_103 : decode cX3_knew 103 = .ok (.iload 7, 2) := by decide +kernel
theorem dX3_knew_105 : decode cX3_knew 105 = .ok (.ireturn, 1) := by decide +kernel
set_option maxRecDepth 20000 in
theorem ggX3_odds_X2_isPerson : GoodIn wsX3_odds wsX2_isPerson := goodIn_r _ [7, 8, 45, 46, 47, 48, 49, 50, 51, 52] (by decide +kernel) (by decide +kernel)
set_option maxRecDepth 20000 in
theorem gX3_odds_X2_isPerson : GoodIn wsX3_odds (wsV RX3 71 RX2 yX2_isPerson wsX2_isPerson) := goodIn_app (goodIn_of _ (by decide +kernel)) ggX3_odds_X2_isPerson
set_option maxRecDepth 20000 in
theorem ggX3_odds_X2_truthsOf : GoodIn wsX3_odds wsX2_truthsOf := goodIn_r _ [12, 13, 14, 45, 46, 47, 48, 49, 50, 51, 52] (by decide +kernel) (by decide +kernel)
set_option maxRecDepth 20000 in
theorem gX3_odds_X2_truthsOf : GoodIn wsX3_odds (wsV RX3 77 RX2 yX2_truthsOf wsX2_truthsOf) := goodIn_app (goodIn_of _ (by decide +kernel)) ggX3_odds_X2_truthsOf
set_option maxRecDepth 20000 in
theorem ggX3_odds_J6_bitCount_0f7a4 : GoodIn wsX3_odds wsJ6_bitCount_0f7a4 := goodIn_r _ [18, 19, 20, 21] (by decide +kernel) (by decide +kernel)
set_option maxRecDepth 20000 in
theorem gX3_odds_J6_bitCount_0f7a4 : GoodIn wsX3_odds (va_wsS RX3 134 yJ6_bitCount_0f7a4 wsJ6_bitCount_0f7a4) := goodIn_app (goodIn_of _ (by decide +kernel)) ggX3_odds_J6_bitCount_0f7a4
set_option maxRecDepth 20000 in
theorem ggX3_odds_X3_isWithin : GoodIn wsX3_odds wsX3_isWithin := goodIn_r _ [25] (by decide +kernel) (by decide +kernel)
set_option maxRecDepth 20000 in
theorem gX3_odds_X3_isWithin : GoodIn wsX3_odds (va_wsS RX3 128 yX3_isWithin wsX3_isWithin) := goodIn_app (goodIn_of _ (by decide +kernel)) ggX3_odds_X3_isWithin
set_option maxRecDepth 20000 in
theorem ggX3_odds_X2_floorBy : GoodIn wsX3_odds wsX2_floorBy := goodIn_r _ [29, 14, 30, 31, 32, 6, 33, 34, 35, 45, 46, 47, 48, 49, 50, 51, 52] (by decide +kernel) (by decide +kernel)
set_option maxRecDepth 20000 in
theorem gX3_odds_X2_floorBy : GoodIn wsX3_odds (wsV RX3 131 RX2 yX2_floorBy wsX2_floorBy) := goodIn_app (goodIn_of _ (by decide +kernel)) ggX3_odds_X2_floorBy
theorem dX3_odds_0 : decode cX3_odds 0 = .ok (.aload_n 0, 1) := by decide +kernel
theorem dX3_odds_1 : decode cX3_odds 1 = .ok (.getfield 35, 3) := by decide +kernel
theorem dX3_odds_4 : decode cX3_odds 4 = .ok (.iload_n 1, 1) := by decide +kernel
theorem dX3_odds_5 : decode cX3_odds 5 = .ok (.invokevirtual 71, 3) := by decide +kernel
theorem dX3_odds_8 : decode cX3_odds 8 = .ok (.ifCond .eq 16, 3) := by decide +kernel
theorem dX3_odds_11 : decode cX3_odds 11 = .ok (.iload_n 2, 1) := by decide +kernel
theorem dX3_odds_12 : decode cX3_odds 12 = .ok (.ifCond .lt 12, 3) := by decide +kernel
theorem dX3_odds_15 : decode cX3_odds 15 = .ok (.iload_n 3, 1) := by decide +kernel
theorem dX3_odds_16 : decode cX3_odds 16 = .ok (.ifCond .lt 8, 3) := by decide +kernel
theorem dX3_odds_19 : decode cX3_odds 19 = .ok (.iload_n 3, 1) := by decide +kernel
theorem dX3_odds_20 : decode cX3_odds 20 = .ok (.iconst 1, 1) := by decide +kernel
theorem dX3_odds_21 : decode cX3_odds 21 = .ok (.if_icmp .le 7, 3) := by decide +kernel
theorem dX3_odds_24 : decode cX3_odds 24 = .ok (.ldc2_w 153, 3) := by decide +kernel
theorem dX3_odds_27 : decode cX3_odds 27 = .ok (.lreturn, 1) := by decide +kernel
theorem dX3_odds_28 : decode cX3_odds 28 = .ok (.aload_n 0, 1) := by decide +kernel
theorem dX3_odds_29 : decode cX3_odds 29 = .ok (.getfield 35, 3) := by decide +kernel
theorem dX3_odds_32 : decode cX3_odds 32 = .ok (.iload_n 1, 1) := by decide +kernel
theorem dX3_odds_33 : decode cX3_odds 33 = .ok (.invokevirtual 77, 3) := by decide +kernel
theorem dX3_odds_36 : decode cX3_odds 36 = .ok (.istore 4, 2) := by decide +kernel
theorem dX3_odds_38 : decode cX3_odds 38 = .ok (.iconst 0, 1) := by decide +kernel
theorem dX3_odds_39 : decode cX3_odds 39 = .ok (.istore 5, 2) := by decide +kernel
theorem dX3_odds_41 : decode cX3_odds 41 = .ok (.iconst 1, 1) := by decide +kernel
theorem dX3_odds_42 : decode cX3_odds 42 = .ok (.iload 4, 2) := by decide +kernel
theorem dX3_odds_44 : decode cX3_odds 44 = .ok (.invokestatic 134, 3) := by decide +kernel
theorem dX3_odds_47 : decode cX3_odds 47 = .ok (.ishl, 1) := by decide +kernel
theorem dX3_odds_48 : decode cX3_odds 48 = .ok (.istore 6, 2) := by decide +kernel
theorem dX3_odds_50 : decode cX3_odds 50 = .ok (.iconst 0, 1) := by decide +kernel
theorem dX3_odds_51 : decode cX3_odds 51 = .ok (.istore 7, 2) := by decide +kernel
theorem dX3_odds_53 : decode cX3_odds 53 = .ok (.iload 7, 2) := by decide +kernel
theorem dX3_odds_55 : decode cX3_odds 55 = .ok (.iload 4, 2) := by decide +kernel
theorem dX3_odds_57 : decode cX3_odds 57 = .ok (.if_icmp .gt 36, 3) := by decide +kernel
theorem dX3_odds_60 : decode cX3_odds 60 = .ok (.iload 7, 2) := by decide +kernel
theorem dX3_odds_62 : decode cX3_odds 62 = .ok (.iload 4, 2) := by decide +kernel
theorem dX3_odds_64 : decode cX3_odds 64 = .ok (.invokestatic 128, 3) := by decide +kernel
theorem dX3_odds_67 : decode cX3_odds 67 = .ok (.ifCond .eq 20, 3) := by decide +kernel
theorem dX3_odds_70 : decode cX3_odds 70 = .ok (.aload_n 0, 1) := by decide +kernel
theorem dX3_odds_71 : decode cX3_odds 71 = .ok (.getfield 35, 3) := by decide +kernel
theorem dX3_odds_74 : decode cX3_odds 74 = .ok (.iload_n 1, 1) := by decide +kernel
theorem dX3_odds_75 : decode cX3_odds 75 = .ok (.iload 7, 2) := by decide +kernel
theorem dX3_odds_77 : decode cX3_odds 77 = .ok (.invokevirtual 131, 3) := by decide +kernel
theorem dX3_odds_80 : decode cX3_odds 80 = .ok (.iload_n 2, 1) := by decide +kernel
theorem dX3_odds_81 : decode cX3_odds 81 = .ok (.if_icmp .lt 6, 3) := by decide +kernel
theorem dX3_odds_84 : decode cX3_odds 84 = .ok (.iinc 5 1, 3) := by decide +kernel
theorem dX3_odds_87 : decode cX3_odds 87 = .ok (.iinc 7 1, 3) := by decide +kernel
theorem dX3_odds_90 : decode cX3_odds 90 = .ok (.goto (-37), 3) := by decide +kernel
theorem dX3_odds_93 : decode cX3_odds 93 = .ok (.iload 6, 2) := by decide +kernel
theorem dX3_odds_95 : decode cX3_odds 95 = .ok (.iconst 1, 1) := by decide +kernel
theorem dX3_odds_96 : decode cX3_odds 96 = .ok (.if_icmp .le 25, 3) := by decide +kernel
theorem dX3_odds_99 : decode cX3_odds 99 = .ok (.iload 5, 2) := by decide +kernel
theorem dX3_odds_101 : decode cX3_odds 101 = .ok (.iconst 1, 1) := by decide +kernel
theorem dX3_odds_102 : decode cX3_odds 102 = .ok (.iand, 1) := by decide +kernel
theorem dX3_odds_103 : decode cX3_odds 103 = .ok (.ifCond .ne 18, 3) := by decide +kernel
theorem dX3_odds_106 : decode cX3_odds 106 = .ok (.iload 5, 2) := by decide +kernel
theorem dX3_odds_108 : decode cX3_odds 108 = .ok (.iconst 1, 1) := by decide +kernel
theorem dX3_odds_109 : decode cX3_odds 109 = .ok (.ishr, 1) := by decide +kernel
theorem dX3_odds_110 : decode cX3_odds 110 = .ok (.istore 5, 2) := by decide +kernel
theorem dX3_odds_112 : decode cX3_odds 112 = .ok (.iload 6, 2) := by decide +kernel
theorem dX3_odds_114 : decode cX3_odds 114 = .ok (.iconst 1, 1) := by decide +kernel
theorem dX3_odds_115 : decode cX3_odds 115 = .ok (.ishr, 1) := by decide +kernel
theorem dX3_odds_116 : decode cX3_odds 116 = .ok (.istore 6, 2) := by decide +kernel
theorem dX3_odds_118 : decode cX3_odds 118 = .ok (.goto (-25), 3) := by decide +kernel
theorem dX3_odds_121 : decode cX3_odds 121 = .ok (.iload_n 3, 1) := by decide +kernel
theorem dX3_odds_122 : decode cX3_odds 122 = .ok (.ifCond .ne 9, 3) := by decide +kernel
theorem dX3_odds_125 : decode cX3_odds 125 = .ok (.iload 5, 2) := by decide +kernel
theorem dX3_odds_127 : decode cX3_odds 127 = .ok (.i2l, 1) := by decide +kernel
theorem dX3_odds_128 : decode cX3_odds 128 = .ok (.goto 6, 3) := by decide +kernel
theorem dX3_odds_131 : decode cX3_odds 131 = .ok (.iload 6, 2) := by decide +kernel
theorem dX3_odds_133 : decode cX3_odds 133 = .ok (.i2l, 1) := by decide +kernel
theorem dX3_odds_134 : decode cX3_odds 134 = .ok (.lreturn, 1) := by decide +kernel
set_option maxRecDepth 20000 in
theorem ggX3_sheet_X3_isSheet : GoodIn wsX3_sheet wsX3_isSheet := goodIn_r _ [6] (by decide +kernel) (by decide +kernel)
set_option maxRecDepth 20000 in
theorem gX3_sheet_X3_isSheet : GoodIn wsX3_sheet (va_wsS RX3 46 yX3_isSheet wsX3_isSheet) := goodIn_app (goodIn_of _ (by decide +kernel)) ggX3_sheet_X3_isSheet
set_option maxRecDepth 20000 in
theorem ggX3_sheet_X3_isLane : GoodIn wsX3_sheet wsX3_isLane := goodIn_r _ [9] (by decide +kernel) (by decide +kernel)
set_option maxRecDepth 20000 in
theorem gX3_sheet_X3_isLane : GoodIn wsX3_sheet (va_wsS RX3 50 yX3_isLane wsX3_isLane) := goodIn_app (goodIn_of _ (by decide +kernel)) ggX3_sheet_X3_isLane
set_option maxRecDepth 20000 in
theorem ggX3_sheet_X3_faulted : GoodIn wsX3_sheet wsX3_faulted := goodIn_r _ [13, 1, 22, 23, 24, 25, 26, 27, 28, 29, 30] (by decide +kernel) (by decide +kernel)
set_option maxRecDepth 20000 in
theorem gX3_sheet_X3_faulted : GoodIn wsX3_sheet (wsV RX3 57 RX3 yX3_faulted wsX3_faulted) := goodIn_app (goodIn_of _ (by decide +kernel)) ggX3_sheet_X3_faulted
set_option maxRecDepth 20000 in
theorem ggX3_sheet_X0_begin : GoodIn wsX3_sheet wsX0_begin := goodIn_r _ [18, 19, 20, 21, 31, 32, 33] (by decide +kernel) (by decide +kernel)
set_option maxRecDepth 20000 in
theorem gX3_sheet_X0_begin : GoodIn wsX3_sheet (wsV RX3 155 RX0 yX0_begin wsX0_begin) := goodIn_app (goodIn_of _ (by decide +kernel)) ggX3_sheet_X0_begin
theorem dX3_sheet_0 : decode cX3_sheet 0 = .ok (.aload_n 0, 1) := by decide +kernel
theorem dX3_sheet_1 : decode cX3_sheet 1 = .ok (.iconst 0, 1) := by decide +kernel
theorem dX3_sheet_2 : decode cX3_sheet 2 = .ok (.putfield 42, 3) := by decide +kernel
theorem dX3_sheet_5 : decode cX3_sheet 5 = .ok (.iload_n 1, 1) := by decide +kernel
theorem dX3_sheet_6 : decode cX3_sheet 6 = .ok (.invokestatic 46, 3) := by decide +kernel
theorem dX3_sheet_9 : decode cX3_sheet 9 = .ok (.ifCond .ne 5, 3) := by decide +kernel
theorem dX3_sheet_12 : decode cX3_sheet 12 = .ok (.iconst (-1), 1) := by decide +kernel
theorem dX3_sheet_13 : decode cX3_sheet 13 = .ok (.ireturn, 1) := by decide +kernel
theorem dX3_sheet_14 : decode cX3_sheet 14 = .ok (.iload_n 2, 1) := by decide +kernel
theorem dX3_sheet_15 : decode cX3_sheet 15 = .ok (.invokestatic 50, 3) := by decide +kernel
theorem dX3_sheet_18 : decode cX3_sheet 18 = .ok (.ifCond .eq 9, 3) := by decide +kernel
theorem dX3_sheet_21 : decode cX3_sheet 21 = .ok (.iload_n 3, 1) := by decide +kernel
theorem dX3_sheet_22 : decode cX3_sheet 22 = .ok (.bipush 60, 2) := by decide +kernel
theorem dX3_sheet_24 : decode cX3_sheet 24 = .ok (.if_icmp .le 6, 3) := by decide +kernel
theorem dX3_sheet_27 : decode cX3_sheet 27 = .ok (.bipush (-2), 2) := by decide +kernel
theorem dX3_sheet_29 : decode cX3_sheet 29 = .ok (.ireturn, 1) := by decide +kernel
theorem dX3_sheet_30 : decode cX3_sheet 30 = .ok (.iload_n 3, 1) := by decide +kernel
theorem dX3_sheet_31 : decode cX3_sheet 31 = .ok (.ifCond .ge 9, 3) := by decide +kernel
theorem dX3_sheet_34 : decode cX3_sheet 34 = .ok (.aload_n 0, 1) := by decide +kernel
theorem dX3_sheet_35 : decode cX3_sheet 35 = .ok (.iconst 4, 1) := by decide +kernel
theorem dX3_sheet_36 : decode cX3_sheet 36 = .ok (.invokevirtual 57, 3) := by decide +kernel
theorem dX3_sheet_39 : decode cX3_sheet 39 = .ok (.ireturn, 1) := by decide +kernel
theorem dX3_sheet_40 : decode cX3_sheet 40 = .ok (.aload_n 0, 1) := by decide +kernel
theorem dX3_sheet_41 : decode cX3_sheet 41 = .ok (.getfield 13, 3) := by decide +kernel
theorem dX3_sheet_44 : decode cX3_sheet 44 = .ok (.iload_n 1, 1) := by decide +kernel
theorem dX3_sheet_45 : decode cX3_sheet 45 = .ok (.aaload, 1) := by decide +kernel
theorem dX3_sheet_46 : decode cX3_sheet 46 = .ok (.iload_n 2, 1) := by decide +kernel
theorem dX3_sheet_47 : decode cX3_sheet 47 = .ok (.iload_n 3, 1) := by decide +kernel
theorem dX3_sheet_48 : decode cX3_sheet 48 = .ok (.invokevirtual 155, 3) := by decide +kernel
theorem dX3_sheet_51 : decode cX3_sheet 51 = .ok (.iconst 1, 1) := by decide +kernel
theorem dX3_sheet_52 : decode cX3_sheet 52 = .ok (.ireturn, 1) := by decide +kernel
set_option maxRecDepth 20000 in
theorem ggX3_lose_X3_isSheet : GoodIn wsX3_lose wsX3_isSheet := goodIn_r _ [5] (by decide +kernel) (by decide +kernel)
set_option maxRecDepth 20000 in
theorem gX3_lose_X3_isSheet : GoodIn wsX3_lose (va_wsS RX3 46 yX3_isSheet wsX3_isSheet) := goodIn_app (goodIn_of _ (by decide +kernel)) ggX3_lose_X3_isSheet
set_option maxRecDepth 20000 in
theorem ggX3_lose_X0_isBare : GoodIn wsX3_lose wsX0_isBare := goodIn_r _ [10, 11, 26, 27, 28] (by decide +kernel) (by decide +kernel)
set_option maxRecDepth 20000 in
theorem gX3_lose_X0_isBare : GoodIn wsX3_lose (wsV RX3 158 RX0 yX0_isBare wsX0_isBare) := goodIn_app (goodIn_of _ (by decide +kernel)) ggX3_lose_X0_isBare
set_option maxRecDepth 20000 in
theorem ggX3_lose_X0_drop : GoodIn wsX3_lose wsX0_drop := goodIn_r _ [15, 11, 16, 26, 27, 28] (by decide +kernel) (by decide +kernel)
set_option maxRecDepth 20000 in
theorem gX3_lose_X0_drop : GoodIn wsX3_lose (wsV RX3 161 RX0 yX0_drop wsX0_drop) := goodIn_app (goodIn_of _ (by decide +kernel)) ggX3_lose_X0_drop
theorem dX3_lose_0 : decode cX3_lose 0 = .ok (.iload_n 1, 1) := by decide +kernel
theorem dX3_lose_1 : decode cX3_lose 1 = .ok (.invokestatic 46, 3) := by decide +kernel
theorem dX3_lose_4 : decode cX3_lose 4 = .ok (.ifCond .ne 5, 3) := by decide +kernel
theorem dX3_lose_7 : decode cX3_lose 7 = .ok (.iconst (-1), 1) := by decide +kernel
theorem dX3_lose_8 : decode cX3_lose 8 = .ok (.ireturn, 1) := by decide +kernel
theorem dX3_lose_9 : decode cX3_lose 9 = .ok (.aload_n 0, 1) := by decide +kernel
theorem dX3_lose_10 : decode cX3_lose 10 = .ok (.getfield 13, 3) := by decide +kernel
theorem dX3_lose_13 : decode cX3_lose 13 = .ok (.iload_n 1, 1) := by decide +kernel
theorem dX3_lose_14 : decode cX3_lose 14 = .ok (.aaload, 1) := by decide +kernel
theorem dX3_lose_15 : decode cX3_lose 15 = .ok (.invokevirtual 158, 3) := by decide +kernel
theorem dX3_lose_18 : decode cX3_lose 18 = .ok (.ifCond .eq 7, 3) := by decide +kernel
theorem dX3_lose_21 : decode cX3_lose 21 = .ok (.iconst 0, 1) := by decide +kernel
theorem dX3_lose_22 : decode cX3_lose 22 = .ok (.goto 4, 3) := by decide +kernel
theorem dX3_lose_25 : decode cX3_lose 25 = .ok (.iconst 1, 1) := by decide +kernel
theorem dX3_lose_26 : decode cX3_lose 26 = .ok (.istore_n 2, 1) := by decide +kernel
theorem dX3_lose_27 : decode cX3_lose 27 = .ok (.aload_n 0, 1) := by decide +kernel
theorem dX3_lose_28 : decode cX3_lose 28 = .ok (.getfield 13, 3) := by decide +kernel
theorem dX3_lose_31 : decode cX3_lose 31 = .ok (.iload_n 1, 1) := by decide +kernel
theorem dX3_lose_32 : decode cX3_lose 32 = .ok (.aaload, 1) := by decide +kernel
theorem dX3_lose_33 : decode cX3_lose 33 = .ok (.invokevirtual 161, 3) := by decide +kernel
theorem dX3_lose_36 : decode cX3_lose 36 = .ok (.iload_n 2, 1) := by decide +kernel
theorem dX3_lose_37 : decode cX3_lose 37 = .ok (.ireturn, 1) := by decide +kernel
set_option maxRecDepth 20000 in
theorem ggX3_put_X3_isSheet : GoodIn wsX3_put wsX3_isSheet := goodIn_r _ [6] (by decide +kernel) (by decide +kernel)
set_option maxRecDepth 20000 in
theorem gX3_put_X3_isSheet : GoodIn wsX3_put (va_wsS RX3 46 yX3_isSheet wsX3_isSheet) := goodIn_app (goodIn_of _ (by decide +kernel)) ggX3_put_X3_isSheet
set_option maxRecDepth 20000 in
theorem ggX3_put_X0_isBare : GoodIn wsX3_put wsX0_isBare := goodIn_r _ [11, 12, 36, 37, 38] (by decide +kernel) (by decide +kernel)
set_option maxRecDepth 20000 in
theorem gX3_put_X0_isBare : GoodIn wsX3_put (wsV RX3 158 RX0 yX0_isBare wsX0_isBare) := goodIn_app (goodIn_of _ (by decide +kernel)) ggX3_put_X0_isBare
set_option maxRecDepth 20000 in
theorem ggX3_put_X3_faulted : GoodIn wsX3_put wsX3_faulted := goodIn_r _ [16, 1, 27, 28, 29, 30, 31, 32, 33, 34, 35] (by decide +kernel) (by decide +kernel)
set_option maxRecDepth 20000 in
theorem gX3_put_X3_faulted : GoodIn wsX3_put (wsV RX3 57 RX3 yX3_faulted wsX3_faulted) := goodIn_app (goodIn_of _ (by decide +kernel)) ggX3_put_X3_faulted
set_option maxRecDepth 20000 in
theorem ggX3_put_X0_holds : GoodIn wsX3_put wsX0_holds := goodIn_r _ [20, 21, 36, 37, 38] (by decide +kernel) (by decide +kernel)
set_option maxRecDepth 20000 in
theorem gX3_put_X0_holds : GoodIn wsX3_put (wsV RX3 164 RX0 yX0_holds wsX0_holds) := goodIn_app (goodIn_of _ (by decide +kernel)) ggX3_put_X0_holds
set_option maxRecDepth 20000 in
theorem ggX3_put_X0_write : GoodIn wsX3_put wsX0_write := goodIn_r _ [25, 12, 26, 36, 37, 38] (by decide +kernel) (by decide +kernel)
set_option maxRecDepth 20000 in
theorem gX3_put_X0_write : GoodIn wsX3_put (wsV RX3 167 RX0 yX0_write wsX0_write) := goodIn_app (goodIn_of _ (by decide +kernel)) ggX3_put_X0_write
theorem dX3_put_0 : decode cX3_put 0 = .ok (.aload_n 0, 1) := by decide +kernel
theorem dX3_put_1 : decode cX3_put 1 = .ok (.iconst 0, 1) := by decide +kernel
theorem dX3_put_2 : decode cX3_put 2 = .ok (.putfield 42, 3) := by decide +kernel
theorem dX3_put_5 : decode cX3_put 5 = .ok (.iload_n 1, 1) := by decide +kernel
theorem dX3_put_6 : decode cX3_put 6 = .ok (.invokestatic 46, 3) := by decide +kernel
theorem dX3_put_9 : decode cX3_put 9 = .ok (.ifCond .ne 5, 3) := by decide +kernel
theorem dX3_put_12 : decode cX3_put 12 = .ok (.iconst (-1), 1) := by decide +kernel
theorem dX3_put_13 : decode cX3_put 13 = .ok (.ireturn, 1) := by decide +kernel
theorem dX3_put_14 : decode cX3_put 14 = .ok (.aload_n 0, 1) := by decide +kernel
theorem dX3_put_15 : decode cX3_put 15 = .ok (.getfield 13, 3) := by decide +kernel
theorem dX3_put_18 : decode cX3_put 18 = .ok (.iload_n 1, 1) := by decide +kernel
theorem dX3_put_19 : decode cX3_put 19 = .ok (.aaload, 1) := by decide +kernel
theorem dX3_put_20 : decode cX3_put 20 = .ok (.invokevirtual 158, 3) := by decide +kernel
theorem dX3_put_23 : decode cX3_put 23 = .ok (.ifCond .eq 9, 3) := by decide +kernel
theorem dX3_put_26 : decode cX3_put 26 = .ok (.aload_n 0, 1) := by decide +kernel
theorem dX3_put_27 : decode cX3_put 27 = .ok (.iconst 1, 1) := by decide +kernel
theorem dX3_put_28 : decode cX3_put 28 = .ok (.invokevirtual 57, 3) := by decide +kernel
theorem dX3_put_31 : decode cX3_put 31 = .ok (.ireturn, 1) := by decide +kernel
theorem dX3_put_32 : decode cX3_put 32 = .ok (.aload_n 0, 1) := by decide +kernel
theorem dX3_put_33 : decode cX3_put 33 = .ok (.getfield 13, 3) := by decide +kernel
theorem dX3_put_36 : decode cX3_put 36 = .ok (.iload_n 1, 1) := by decide +kernel
theorem dX3_put_37 : decode cX3_put 37 = .ok (.aaload, 1) := by decide +kernel
theorem dX3_put_38 : decode cX3_put 38 = .ok (.iload_n 2, 1) := by decide +kernel
theorem dX3_put_39 : decode cX3_put 39 = .ok (.iconst 1, 1) := by decide +kernel
theorem dX3_put_40 : decode cX3_put 40 = .ok (.invokevirtual 164, 3) := by decide +kernel
theorem dX3_put_43 : decode cX3_put 43 = .ok (.ifCond .ne 9, 3) := by decide +kernel
theorem dX3_put_46 : decode cX3_put 46 = .ok (.aload_n 0, 1) := by decide +kernel
theorem dX3_put_47 : decode cX3_put 47 = .ok (.iconst 3, 1) := by decide +kernel
theorem dX3_put_48 : decode cX3_put 48 = .ok (.invokevirtual 57, 3) := by decide +kernel
theorem dX3_put_51 : decode cX3_put 51 = .ok (.ireturn, 1) := by decide +kernel
theorem dX3_put_52 : decode cX3_put 52 = .ok (.aload_n 0, 1) := by decide +kernel
theorem dX3_put_53 : decode cX3_put 53 = .ok (.getfield 13, 3) := by decide +kernel
theorem dX3_put_56 : decode cX3_put 56 = .ok (.iload_n 1, 1) := by decide +kernel
theorem dX3_put_57 : decode cX3_put 57 = .ok (.aaload, 1) := by decide +kernel
theorem dX3_put_58 : decode cX3_put 58 = .ok (.iload_n 2, 1) := by decide +kernel
theorem dX3_put_59 : decode cX3_put 59 = .ok (.iload_n 3, 1) := by decide +kernel
theorem dX3_put_60 : decode cX3_put 60 = .ok (.invokevirtual 167, 3) := by decide +kernel
theorem dX3_put_63 : decode cX3_put 63 = .ok (.iconst 1, 1) := by decide +kernel
theorem dX3_put_64 : decode cX3_put 64 = .ok (.ireturn, 1) := by decide +kernel
set_option maxRecDepth 20000 in
theorem ggX3_cell_X3_isSheet : GoodIn wsX3_cell wsX3_isSheet := goodIn_r _ [8] (by decide +kernel) (by decide +kernel)
set_option maxRecDepth 20000 in
theorem gX3_cell_X3_isSheet : GoodIn wsX3_cell (va_wsS RX3 46 yX3_isSheet wsX3_isSheet) := goodIn_app (goodIn_of _ (by decide +kernel)) ggX3_cell_X3_isSheet
set_option maxRecDepth 20000 in
theorem ggX3_cell_X3_isLane : GoodIn wsX3_cell wsX3_isLane := goodIn_r _ [11] (by decide +kernel) (by decide +kernel)
set_option maxRecDepth 20000 in
theorem gX3_cell_X3_isLane : GoodIn wsX3_cell (va_wsS RX3 50 yX3_isLane wsX3_isLane) := goodIn_app (goodIn_of _ (by decide +kernel)) ggX3_cell_X3_isLane
set_option maxRecDepth 20000 in
theorem ggX3_cell_X0_faultOf : GoodIn wsX3_cell wsX0_faultOf := goodIn_r _ [16, 17, 18, 19, 20, 15, 21, 22, 23, 24, 25, 26, 36, 37, 38] (by decide +kernel) (by decide +kernel)
set_option maxRecDepth 20000 in
theorem gX3_cell_X0_faultOf : GoodIn wsX3_cell (wsV RX3 53 RX0 yX0_faultOf wsX0_faultOf) := goodIn_app (goodIn_of _ (by decide +kernel)) ggX3_cell_X0_faultOf
theorem dX3_cell_0 : decode cX3_cell 0 = .ok (.aload_n 0, 1) := by decide +kernel
theorem dX3_cell_1 : decode cX3_cell 1 = .ok (.iconst 0, 1) := by decide +kernel
theorem dX3_cell_2 : decode cX3_cell 2 = .ok (.putfield 42, 3) := by decide +kernel
theorem dX3_cell_5 : decode cX3_cell 5 = .ok (.iload_n 1, 1) := by decide +kernel
theorem dX3_cell_6 : decode cX3_cell 6 = .ok (.invokestatic 46, 3) := by decide +kernel
theorem dX3_cell_9 : decode cX3_cell 9 = .ok (.ifCond .eq 10, 3) := by decide +kernel
theorem dX3_cell_12 : decode cX3_cell 12 = .ok (.iload_n 3, 1) := by decide +kernel
theorem dX3_cell_13 : decode cX3_cell 13 = .ok (.invokestatic 50, 3) := by decide +kernel
theorem dX3_cell_16 : decode cX3_cell 16 = .ok (.ifCond .ne 7, 3) := by decide +kernel
theorem dX3_cell_19 : decode cX3_cell 19 = .ok (.ldc2_w 153, 3) := by decide +kernel
theorem dX3_cell_22 : decode cX3_cell 22 = .ok (.lreturn, 1) := by decide +kernel
theorem dX3_cell_23 : decode cX3_cell 23 = .ok (.aload_n 0, 1) := by decide +kernel
theorem dX3_cell_24 : decode cX3_cell 24 = .ok (.aload_n 0, 1) := by decide +kernel
theorem dX3_cell_25 : decode cX3_cell 25 = .ok (.getfield 13, 3) := by decide +kernel
theorem dX3_cell_28 : decode cX3_cell 28 = .ok (.iload_n 1, 1) := by decide +kernel
theorem dX3_cell_29 : decode cX3_cell 29 = .ok (.aaload, 1) := by decide +kernel
theorem dX3_cell_30 : decode cX3_cell 30 = .ok (.iload_n 3, 1) := by decide +kernel
theorem dX3_cell_31 : decode cX3_cell 31 = .ok (.iload_n 2, 1) := by decide +kernel
theorem dX3_cell_32 : decode cX3_cell 32 = .ok (.iconst 1, 1) := by decide +kernel
theorem dX3_cell_33 : decode cX3_cell 33 = .ok (.invokevirtual 53, 3) := by decide +kernel
theorem dX3_cell_36 : decode cX3_cell 36 = .ok (.putfield 42, 3) := by decide +kernel
theorem dX3_cell_39 : decode cX3_cell 39 = .ok (.aload_n 0, 1) := by decide +kernel
theorem dX3_cell_40 : decode cX3_cell 40 = .ok (.getfield 42, 3) := by decide +kernel
theorem dX3_cell_43 : decode cX3_cell 43 = .ok (.ifCond .ne 18, 3) := by decide +kernel
theorem dX3_cell_46 : decode cX3_cell 46 = .ok (.aload_n 0, 1) := by decide +kernel
theorem dX3_cell_47 : decode cX3_cell 47 = .ok (.getfield 13, 3) := by decide +kernel
theorem dX3_cell_50 : decode cX3_cell 50 = .ok (.iload_n 1, 1) := by decide +kernel
theorem dX3_cell_51 : decode cX3_cell 51 = .ok (.aaload, 1) := by decide +kernel
theorem dX3_cell_52 : decode cX3_cell 52 = .ok (.getfield 170, 3) := by decide +kernel
theorem dX3_cell_55 : decode cX3_cell 55 = .ok (.iload_n 2, 1) := by decide +kernel
theorem dX3_cell_56 : decode cX3_cell 56 = .ok (.iaload, 1) := by decide +kernel
theorem dX3_cell_57 : decode cX3_cell 57 = .ok (.i2l, 1) := by decide +kernel
theorem dX3_cell_58 : decode cX3_cell 58 = .ok (.goto 6, 3) := by decide +kernel
theorem dX3_cell_61 : decode cX3_cell 61 = .ok (.ldc2_w 153, 3) := by decide +kernel
theorem dX3_cell_64 : decode cX3_cell 64 = .ok (.lreturn, 1) := by decide +kernel
set_option maxRecDepth 20000 in
theorem ggX3_copy_X3_isSheet : GoodIn wsX3_copy wsX3_isSheet := goodIn_r _ [12] (by decide +kernel) (by decide +kernel)
set_option maxRecDepth 20000 in
theorem gX3_copy_X3_isSheet : GoodIn wsX3_copy (va_wsS RX3 46 yX3_isSheet wsX3_isSheet) := goodIn_app (goodIn_of _ (by decide +kernel)) ggX3_copy_X3_isSheet
set_option maxRecDepth 20000 in
theorem ggX3_copy_X0_isBare : GoodIn wsX3_copy wsX0_isBare := goodIn_r _ [17, 18, 37, 38, 39] (by decide +kernel) (by decide +kernel)
set_option maxRecDepth 20000 in
theorem gX3_copy_X0_isBare : GoodIn wsX3_copy (wsV RX3 158 RX0 yX0_isBare wsX0_isBare) := goodIn_app (goodIn_of _ (by decide +kernel)) ggX3_copy_X0_isBare
set_option maxRecDepth 20000 in
theorem ggX3_copy_X3_faulted : GoodIn wsX3_copy wsX3_faulted := goodIn_r _ [22, 1, 28, 29, 30, 31, 32, 33, 34, 35, 36] (by decide +kernel) (by decide +kernel)
set_option maxRecDepth 20000 in
theorem gX3_copy_X3_faulted : GoodIn wsX3_copy (wsV RX3 57 RX3 yX3_faulted wsX3_faulted) := goodIn_app (goodIn_of _ (by decide +kernel)) ggX3_copy_X3_faulted
set_option maxRecDepth 20000 in
theorem ggX3_copy_X0_holds : GoodIn wsX3_copy wsX0_holds := goodIn_r _ [26, 27, 37, 38, 39] (by decide +kernel) (by decide +kernel)
set_option maxRecDepth 20000 in
theorem gX3_copy_X0_holds : GoodIn wsX3_copy (wsV RX3 164 RX0 yX0_holds wsX0_holds) := goodIn_app (goodIn_of _ (by decide +kernel)) ggX3_copy_X0_holds
theorem dX3_copy_0 : decode cX3_copy 0 = .ok (.aload_n 0, 1) := by decide +kernel
theorem dX3_copy_1 : decode cX3_copy 1 = .ok (.iconst 0, 1) := by decide +kernel
theorem dX3_copy_2 : decode cX3_copy 2 = .ok (.putfield 42, 3) := by decide +kernel
theorem dX3_copy_5 : decode cX3_copy 5 = .ok (.iload_n 1, 1) := by decide +kernel
theorem dX3_copy_6 : decode cX3_copy 6 = .ok (.invokestatic 46, 3) := by decide +kernel
theorem dX3_copy_9 : decode cX3_copy 9 = .ok (.ifCond .eq 10, 3) := by decide +kernel
theorem dX3_copy_12 : decode cX3_copy 12 = .ok (.iload_n 3, 1) := by decide +kernel
theorem dX3_copy_13 : decode cX3_copy 13 = .ok (.invokestatic 46, 3) := by decide +kernel
theorem dX3_copy_16 : decode cX3_copy 16 = .ok (.ifCond .ne 5, 3) := by decide +kernel
theorem dX3_copy_19 : decode cX3_copy 19 = .ok (.iconst (-1), 1) := by decide +kernel
theorem dX3_copy_20 : decode cX3_copy 20 = .ok (.ireturn, 1) := by decide +kernel
theorem dX3_copy_21 : decode cX3_copy 21 = .ok (.aload_n 0, 1) := by decide +kernel
theorem dX3_copy_22 : decode cX3_copy 22 = .ok (.getfield 13, 3) := by decide +kernel
theorem dX3_copy_25 : decode cX3_copy 25 = .ok (.iload_n 1, 1) := by decide +kernel
theorem dX3_copy_26 : decode cX3_copy 26 = .ok (.aaload, 1) := by decide +kernel
theorem dX3_copy_27 : decode cX3_copy 27 = .ok (.astore 6, 2) := by decide +kernel
theorem dX3_copy_29 : decode cX3_copy 29 = .ok (.aload_n 0, 1) := by decide +kernel
theorem dX3_copy_30 : decode cX3_copy 30 = .ok (.getfield 13, 3) := by decide +kernel
theorem dX3_copy_33 : decode cX3_copy 33 = .ok (.iload_n 3, 1) := by decide +kernel
theorem dX3_copy_34 : decode cX3_copy 34 = .ok (.aaload, 1) := by decide +kernel
theorem dX3_copy_35 : decode cX3_copy 35 = .ok (.astore 7, 2) := by decide +kernel
theorem dX3_copy_37 : decode cX3_copy 37 = .ok (.aload 6, 2) := by decide +kernel
theorem dX3_copy_39 : decode cX3_copy 39 = .ok (.invokevirtual 158, 3) := by decide +kernel
theorem dX3_copy_42 : decode cX3_copy 42 = .ok (.ifCond .ne 11, 3) := by decide +kernel
theorem dX3_copy_45 : decode cX3_copy 45 = .ok (.aload 7, 2) := by decide +kernel
theorem dX3_copy_47 : decode cX3_copy 47 = .ok (.invokevirtual 158, 3) := by decide +kernel
theorem dX3_copy_50 : decode cX3_copy 50 = .ok (.ifCond .eq 9, 3) := by decide +kernel
theorem dX3_copy_53 : decode cX3_copy 53 = .ok (.aload_n 0, 1) := by decide +kernel
theorem dX3_copy_54 : decode cX3_copy 54 = .ok (.iconst 1, 1) := by decide +kernel
theorem dX3_copy_55 : decode cX3_copy 55 = .ok (.invokevirtual 57, 3) := by decide +kernel
theorem dX3_copy_58 : decode cX3_copy 58 = .ok (.ireturn, 1) := by decide +kernel
theorem dX3_copy_59 : decode cX3_copy 59 = .ok (.aload 6, 2) := by decide +kernel
theorem dX3_copy_61 : decode cX3_copy 61 = .ok (.getfield 173, 3) := by decide +kernel
theorem dX3_copy_64 : decode cX3_copy 64 = .ok (.aload 7, 2) := by decide +kernel
theorem dX3_copy_66 : decode cX3_copy 66 = .ok (.getfield 173, 3) := by decide +kernel
theorem dX3_copy_69 : decode cX3_copy 69 = .ok (.if_icmp .eq 9, 3) := by decide +kernel
theorem dX3_copy_72 : decode cX3_copy 72 = .ok (.aload_n 0, 1) := by decide +kernel
theorem dX3_copy_73 : decode cX3_copy 73 = .ok (.iconst 2, 1) := by decide +kernel
theorem dX3_copy_74 : decode cX3_copy 74 = .ok (.invokevirtual 57, 3) := by decide +kernel
theorem dX3_copy_77 : decode cX3_copy 77 = .ok (.ireturn, 1) := by decide +kernel
theorem dX3_copy_78 : decode cX3_copy 78 = .ok (.aload 6, 2) := by decide +kernel
theorem dX3_copy_80 : decode cX3_copy 80 = .ok (.iload_n 2, 1) := by decide +kernel
theorem dX3_copy_81 : decode cX3_copy 81 = .ok (.iload 5, 2) := by decide +kernel
theorem dX3_copy_83 : decode cX3_copy 83 = .ok (.invokevirtual 164, 3) := by decide +kernel
theorem dX3_copy_86 : decode cX3_copy 86 = .ok (.ifCond .eq 15, 3) := by decide +kernel
theorem dX3_copy_89 : decode cX3_copy 89 = .ok (.aload 7, 2) := by decide +kernel
theorem dX3_copy_91 : decode cX3_copy 91 = .ok (.iload 4, 2) := by decide +kernel
theorem dX3_copy_93 : decode cX3_copy 93 = .ok (.iload 5, 2) := by decide +kernel
theorem dX3_copy_95 : decode cX3_copy 95 = .ok (.invokevirtual 164, 3) := by decide +kernel
theorem dX3_copy_98 : decode cX3_copy 98 = .ok (.ifCond .ne 9, 3) := by decide +kernel
theorem dX3_copy_101 : decode cX3_copy 101 = .ok (.aload_n 0, 1) := by decide +kernel
theorem dX3_copy_102 : decode cX3_copy 102 = .ok (.iconst 3, 1) := by decide +kernel
theorem dX3_copy_103 : decode cX3_copy 103 = .ok (.invokevirtual 57, 3) := by decide +kernel
theorem dX3_copy_106 : decode cX3_copy 106 = .ok (.ireturn, 1) := by decide +kernel
theorem dX3_copy_107 : decode cX3_copy 107 = .ok (.aload 6, 2) := by decide +kernel
theorem dX3_copy_109 : decode cX3_copy 109 = .ok (.getfield 170, 3) := by decide +kernel
theorem dX3_copy_112 : decode cX3_copy 112 = .ok (.iload_n 2, 1) := by decide +kernel
theorem dX3_copy_113 : decode cX3_copy 113 = .ok (.aload 7, 2) := by decide +kernel
theorem dX3_copy_115 : decode cX3_copy 115 = .ok (.getfield 170, 3) := by decide +kernel
theorem dX3_copy_118 : decode cX3_copy 118 = .ok (.iload 4, 2) := by decide +kernel
theorem dX3_copy_120 : decode cX3_copy 120 = .ok (.iload 5, 2) := by decide +kernel
theorem dX3_copy_122 : decode cX3_copy 122 = .ok (.invokestatic 176, 3) := by decide +kernel
theorem dX3_copy_125 : decode cX3_copy 125 = .ok (.iload 5, 2) := by decide +kernel
theorem dX3_copy_127 : decode cX3_copy 127 = .ok (.ireturn, 1) := by decide +kernel
set_option maxRecDepth 20000 in
theorem ggX3_tell_X2_isPerson : GoodIn wsX3_tell wsX2_isPerson := goodIn_r _ [7, 8, 37, 38, 39, 40, 41, 42, 43, 44] (by decide +kernel) (by decide +kernel)
set_option maxRecDepth 20000 in
theorem gX3_tell_X2_isPerson : GoodIn wsX3_tell (wsV RX3 71 RX2 yX2_isPerson wsX2_isPerson) := goodIn_app (goodIn_of _ (by decide +kernel)) ggX3_tell_X2_isPerson
set_option maxRecDepth 20000 in
theorem ggX3_tell_X3_abjectTelling : GoodIn wsX3_tell wsX3_abjectTelling := goodIn_r _ [13, 14, 15, 16, 12, 17, 18, 19, 20, 21, 22, 23, 24, 25, 26, 1, 27, 28, 29, 30, 31, 32, 33, 34, 35, 36, 37, 38, 39, 40, 41, 42, 43, 44] (by decide +kernel) (by decide +kernel)
set_option maxRecDepth 20000 in
theorem gX3_tell_X3_abjectTelling : GoodIn wsX3_tell (wsV RX3 182 RX3 yX3_abjectTelling wsX3_abjectTelling) := goodIn_app (goodIn_of _ (by decide +kernel)) ggX3_tell_X3_abjectTelling
set_option maxRecDepth 20000 in
theorem ggX3_tell_X3_proudTelling : GoodIn wsX3_tell wsX3_proudTelling := goodIn_r _ [22, 14, 15, 16, 12, 17, 18, 23, 24, 25, 26, 1, 27, 28, 29, 30, 31, 32, 33, 34, 35, 36, 37, 38, 39, 40, 41, 42, 43, 44] (by decide +kernel) (by decide +kernel)
set_option maxRecDepth 20000 in
theorem gX3_tell_X3_proudTelling : GoodIn wsX3_tell (wsV RX3 185 RX3 yX3_proudTelling wsX3_proudTelling) := goodIn_app (goodIn_of _ (by decide +kernel)) ggX3_tell_X3_proudTelling
set_option maxRecDepth 20000 in
theorem ggX3_tell_X3_plainTelling : GoodIn wsX3_tell wsX3_plainTelling := goodIn_r _ [26, 1, 27, 14, 15, 16, 12, 17, 18, 28, 29, 30, 31, 32, 33, 34, 35, 36, 37, 38, 39, 40, 41, 42, 43, 44] (by decide +kernel) (by decide +kernel)
set_option maxRecDepth 20000 in
theorem gX3_tell_X3_plainTelling : GoodIn wsX3_tell (wsV RX3 188 RX3 yX3_plainTelling wsX3_plainTelling) := goodIn_app (goodIn_of _ (by decide +kernel)) ggX3_tell_X3_plainTelling
theorem dX3_tell_0 : decode cX3_tell 0 = .ok (.aload_n 0, 1) := by decide +kernel
theorem dX3_tell_1 : decode cX3_tell 1 = .ok (.getfield 35, 3) := by decide +kernel
theorem dX3_tell_4 : decode cX3_tell 4 = .ok (.iload_n 1, 1) := by decide +kernel
theorem dX3_tell_5 : decode cX3_tell 5 = .ok (.invokevirtual 71, 3) := by decide +kernel
theorem dX3_tell_8 : decode cX3_tell 8 = .ok (.ifCond .ne 5, 3) := by decide +kernel
theorem dX3_tell_11 : decode cX3_tell 11 = .ok (.iconst (-1), 1) := by decide +kernel
theorem dX3_tell_12 : decode cX3_tell 12 = .ok (.ireturn, 1) := by decide +kernel
theorem dX3_tell_13 : decode cX3_tell 13 = .ok (.aload_n 0, 1) := by decide +kernel
theorem dX3_tell_14 : decode cX3_tell 14 = .ok (.getfield 35, 3) := by decide +kernel
theorem dX3_tell_17 : decode cX3_tell 17 = .ok (.getfield 74, 3) := by decide +kernel
theorem dX3_tell_20 : decode cX3_tell 20 = .ok (.iload_n 1, 1) := by decide +kernel
theorem dX3_tell_21 : decode cX3_tell 21 = .ok (.iaload, 1) := by decide +kernel
theorem dX3_tell_22 : decode cX3_tell 22 = .ok (.lookupswitch 38 #[(1, 32), (2, 26)], 26) := by decide +kernel
theorem dX3_tell_48 : decode cX3_tell 48 = .ok (.aload_n 0, 1) := by decide +kernel
theorem dX3_tell_49 : decode cX3_tell 49 = .ok (.iload_n 1, 1) := by decide +kernel
theorem dX3_tell_50 : decode cX3_tell 50 = .ok (.invokevirtual 182, 3) := by decide +kernel
theorem dX3_tell_53 : decode cX3_tell 53 = .ok (.ireturn, 1) := by decide +kernel
theorem dX3_tell_54 : decode cX3_tell 54 = .ok (.aload_n 0, 1) := by decide +kernel
theorem dX3_tell_55 : decode cX3_tell 55 = .ok (.iload_n 1, 1) := by decide +kernel
theorem dX3_tell_56 : decode cX3_tell 56 = .ok (.invokevirtual 185, 3) := by decide +kernel
theorem dX3_tell_59 : decode cX3_tell 59 = .ok (.ireturn, 1) := by decide +kernel
theorem dX3_tell_60 : decode cX3_tell 60 = .ok (.aload_n 0, 1) := by decide +kernel
theorem dX3_tell_61 : decode cX3_tell 61 = .ok (.iload_n 1, 1) := by decide +kernel
theorem dX3_tell_62 : decode cX3_tell 62 = .ok (.invokevirtual 188, 3) := by decide +kernel
theorem dX3_tell_65 : decode cX3_tell 65 = .ok (.ireturn, 1) := by decide +kernel
set_option maxRecDepth 20000 in
theorem ggX3_greet_X2_isPerson : GoodIn wsX3_greet wsX2_isPerson := goodIn_r _ [7, 8, 32, 33, 34, 35, 36, 37, 38, 39] (by decide +kernel) (by decide +kernel)
set_option maxRecDepth 20000 in
theorem gX3_greet_X2_isPerson : GoodIn wsX3_greet (wsV RX3 71 RX2 yX2_isPerson wsX2_isPerson) := goodIn_app (goodIn_of _ (by decide +kernel)) ggX3_greet_X2_isPerson
set_option maxRecDepth 20000 in
theorem ggX3_greet_X3_abjectGreeting : GoodIn wsX3_greet wsX3_abjectGreeting := goodIn_r _ [13, 14, 15, 16, 12, 17, 18, 23, 24, 25, 26, 27, 28, 29, 30, 31] (by decide +kernel) (by decide +kernel)
set_option maxRecDepth 20000 in
theorem gX3_greet_X3_abjectGreeting : GoodIn wsX3_greet (wsV RX3 191 RX3 yX3_abjectGreeting wsX3_abjectGreeting) := goodIn_app (goodIn_of _ (by decide +kernel)) ggX3_greet_X3_abjectGreeting
set_option maxRecDepth 20000 in
theorem ggX3_greet_X3_lentGreeting : GoodIn wsX3_greet wsX3_lentGreeting := goodIn_r _ [22, 14, 15, 16, 12, 17, 18, 23, 24, 25, 26, 27, 28, 29, 30, 31] (by decide +kernel) (by decide +kernel)
set_option maxRecDepth 20000 in
theorem gX3_greet_X3_lentGreeting : GoodIn wsX3_greet (wsV RX3 195 RX3 yX3_lentGreeting wsX3_lentGreeting) := goodIn_app (goodIn_of _ (by decide +kernel)) ggX3_greet_X3_lentGreeting
theorem dX3_greet_0 : decode cX3_greet 0 = .ok (.aload_n 0, 1) := by decide +kernel
theorem dX3_greet_1 : decode cX3_greet 1 = .ok (.getfield 35, 3) := by decide +kernel
theorem dX3_greet_4 : decode cX3_greet 4 = .ok (.iload_n 1, 1) := by decide +kernel
theorem dX3_greet_5 : decode cX3_greet 5 = .ok (.invokevirtual 71, 3) := by decide +kernel
theorem dX3_greet_8 : decode cX3_greet 8 = .ok (.ifCond .ne 5, 3) := by decide +kernel
theorem dX3_greet_11 : decode cX3_greet 11 = .ok (.iconst (-1), 1) := by decide +kernel
theorem dX3_greet_12 : decode cX3_greet 12 = .ok (.ireturn, 1) := by decide +kernel
theorem dX3_greet_13 : decode cX3_greet 13 = .ok (.aload_n 0, 1) := by decide +kernel
theorem dX3_greet_14 : decode cX3_greet 14 = .ok (.getfield 35, 3) := by decide +kernel
theorem dX3_greet_17 : decode cX3_greet 17 = .ok (.getfield 74, 3) := by decide +kernel
theorem dX3_greet_20 : decode cX3_greet 20 = .ok (.iload_n 1, 1) := by decide +kernel
theorem dX3_greet_21 : decode cX3_greet 21 = .ok (.iaload, 1) := by decide +kernel
theorem dX3_greet_22 : decode cX3_greet 22 = .ok (.iconst 2, 1) := by decide +kernel
theorem dX3_greet_23 : decode cX3_greet 23 = .ok (.if_icmp .ne 10, 3) := by decide +kernel
theorem dX3_greet_26 : decode cX3_greet 26 = .ok (.aload_n 0, 1) := by decide +kernel
theorem dX3_greet_27 : decode cX3_greet 27 = .ok (.invokevirtual 191, 3) := by decide +kernel
theorem dX3_greet_30 : decode cX3_greet 30 = .ok (.goto 8, 3) := by decide +kernel
theorem dX3_greet_33 : decode cX3_greet 33 = .ok (.aload_n 0, 1) := by decide +kernel
theorem dX3_greet_34 : decode cX3_greet 34 = .ok (.iload_n 1, 1) := by decide +kernel
theorem dX3_greet_35 : decode cX3_greet 35 = .ok (.invokevirtual 195, 3) := by decide +kernel
theorem dX3_greet_38 : decode cX3_greet 38 = .ok (.ireturn, 1) := by decide +kernel
set_option maxRecDepth 20000 in
theorem ggX3_as_X2_isPerson : GoodIn wsX3_as wsX2_isPerson := goodIn_r _ [8, 9, 24, 25, 26, 27, 28, 29, 30, 31] (by decide +kernel) (by decide +kernel)
set_option maxRecDepth 20000 in
theorem gX3_as_X2_isPerson : GoodIn wsX3_as (wsV RX3 71 RX2 yX2_isPerson wsX2_isPerson) := goodIn_app (goodIn_of _ (by decide +kernel)) ggX3_as_X2_isPerson
set_option maxRecDepth 20000 in
theorem ggX3_as_X3_faulted : GoodIn wsX3_as wsX3_faulted := goodIn_r _ [14, 1, 15, 16, 17, 18, 19, 20, 21, 22, 23] (by decide +kernel) (by decide +kernel)
set_option maxRecDepth 20000 in
theorem gX3_as_X3_faulted : GoodIn wsX3_as (wsV RX3 57 RX3 yX3_faulted wsX3_faulted) := goodIn_app (goodIn_of _ (by decide +kernel)) ggX3_as_X3_faulted
theorem dX3_as_0 : decode cX3_as 0 = .ok (.aload_n 0, 1) := by decide +kernel
theorem dX3_as_1 : decode cX3_as 1 = .ok (.iconst 0, 1) := by decide +kernel
theorem dX3_as_2 : decode cX3_as 2 = .ok (.putfield 42, 3) := by decide +kernel
theorem dX3_as_5 : decode cX3_as 5 = .ok (.aload_n 0, 1) := by decide +kernel
theorem dX3_as_6 : decode cX3_as 6 = .ok (.getfield 35, 3) := by decide +kernel
theorem dX3_as_9 : decode cX3_as 9 = .ok (.iload_n 1, 1) := by decide +kernel
theorem dX3_as_10 : decode cX3_as 10 = .ok (.invokevirtual 71, 3) := by decide +kernel
theorem dX3_as_13 : decode cX3_as 13 = .ok (.ifCond .ne 5, 3) := by decide +kernel
theorem dX3_as_16 : decode cX3_as 16 = .ok (.iconst (-1), 1) := by decide +kernel
theorem dX3_as_17 : decode cX3_as 17 = .ok (.ireturn, 1) := by decide +kernel
theorem dX3_as_18 : decode cX3_as 18 = .ok (.iload_n 2, 1) := by decide +kernel
theorem dX3_as_19 : decode cX3_as 19 = .ok (.ifCond .lt 8, 3) := by decide +kernel
theorem dX3_as_22 : decode cX3_as 22 = .ok (.iload_n 2, 1) := by decide +kernel
theorem dX3_as_23 : decode cX3_as 23 = .ok (.iconst 2, 1) := by decide +kernel
theorem dX3_as_24 : decode cX3_as 24 = .ok (.if_icmp .le 6, 3) := by decide +kernel
theorem dX3_as_27 : decode cX3_as 27 = .ok (.bipush (-2), 2) := by decide +kernel
theorem dX3_as_29 : decode cX3_as 29 = .ok (.ireturn, 1) := by decide +kernel
theorem dX3_as_30 : decode cX3_as 30 = .ok (.iload_n 2, 1) := by decide +kernel
theorem dX3_as_31 : decode cX3_as 31 = .ok (.aload_n 0, 1) := by decide +kernel
theorem dX3_as_32 : decode cX3_as 32 = .ok (.getfield 35, 3) := by decide +kernel
theorem dX3_as_35 : decode cX3_as 35 = .ok (.getfield 74, 3) := by decide +kernel
theorem dX3_as_38 : decode cX3_as 38 = .ok (.iload_n 1, 1) := by decide +kernel
theorem dX3_as_39 : decode cX3_as 39 = .ok (.iaload, 1) := by decide +kernel
theorem dX3_as_40 : decode cX3_as 40 = .ok (.if_icmp .gt 7, 3) := by decide +kernel
theorem dX3_as_43 : decode cX3_as 43 = .ok (.iconst 1, 1) := by decide +kernel
theorem dX3_as_44 : decode cX3_as 44 = .ok (.goto 8, 3) := by decide +kernel
theorem dX3_as_47 : decode cX3_as 47 = .ok (.aload_n 0, 1) := by decide +kernel
theorem dX3_as_48 : decode cX3_as 48 = .ok (.iconst 2, 1) := by decide +kernel
theorem dX3_as_49 : decode cX3_as 49 = .ok (.invokevirtual 57, 3) := by decide +kernel
theorem dX3_as_52 : decode cX3_as 52 = .ok (.ireturn, 1) := by decide +kernel
theorem dX3_trace_0 : decode cX3_trace 0 = .ok (.aload_n 0, 1) := by decide +kernel
theorem dX3_trace_1 : decode cX3_trace 1 = .ok (.getfield 198, 3) := by decide +kernel
theorem dX3_trace_4 : decode cX3_trace 4 = .ok (.ireturn, 1) := by decide +kernel
theorem dX3_fault_0 : decode cX3_fault 0 = .ok (.aload_n 0, 1) := by decide +kernel
theorem dX3_fault_1 : decode cX3_fault 1 = .ok (.getfield 42, 3) := by decide +kernel
theorem dX3_fault_4 : decode cX3_fault 4 = .ok (.ireturn, 1) := by decide +kernel
theorem dX3_many_0 : decode cX3_many 0 = .ok (.iload_n 1, 1) := by decide +kernel
theorem dX3_many_1 : decode cX3_many 1 = .ok (.tableswitch 48 0 2 #[27, 35, 43], 27) := by decide +kernel
theorem dX3_many_28 : decode cX3_many 28 = .ok (.aload_n 0, 1) := by decide +kernel
theorem dX3_many_29 : decode cX3_many 29 = .ok (.getfield 35, 3) := by decide +kernel
theorem dX3_many_32 : decode cX3_many 32 = .ok (.getfield 68, 3) := by decide +kernel
theorem dX3_many_35 : decode cX3_many 35 = .ok (.ireturn, 1) := by decide +kernel
theorem dX3_many_36 : decode cX3_many 36 = .ok (.aload_n 0, 1) := by decide +kernel
theorem dX3_many_37 : decode cX3_many 37 = .ok (.getfield 35, 3) := by decide +kernel
theorem dX3_many_40 : decode cX3_many 40 = .ok (.getfield 139, 3) := by decide +kernel
theorem dX3_many_43 : decode cX3_many 43 = .ok (.ireturn, 1) := by decide +kernel
theorem dX3_many_44 : decode cX3_many 44 = .ok (.aload_n 0, 1) := by decide +kernel
theorem dX3_many_45 : decode cX3_many 45 = .ok (.getfield 65, 3) := by decide +kernel
theorem dX3_many_48 : decode cX3_many 48 = .ok (.ireturn, 1) := by decide +kernel
theorem dX3_many_49 : decode cX3_many 49 = .ok (.bipush (-2), 2) := by decide +kernel
theorem dX3_many_51 : decode cX3_many 51 = .ok (.ireturn, 1) := by decide +kernel
theorem dX3_isSheet_0 : decode cX3_isSheet 0 = .ok (.iload_n 0, 1) := by decide +kernel
theorem dX3_isSheet_1 : decode cX3_isSheet 1 = .ok (.ifCond .lt 12, 3) := by decide +kernel
theorem dX3_isSheet_4 : decode cX3_isSheet 4 = .ok (.iload_n 0, 1) := by decide +kernel
theorem dX3_isSheet_5 : decode cX3_isSheet 5 = .ok (.iconst 4, 1) := by decide +kernel
theorem dX3_isSheet_6 : decode cX3_isSheet 6 = .ok (.if_icmp .ge 7, 3) := by decide +kernel
theorem dX3_isSheet_9 : decode cX3_isSheet 9 = .ok (.iconst 1, 1) := by decide +kernel
theorem dX3_isSheet_10 : decode cX3_isSheet 10 = .ok (.goto 4, 3) := by decide +kernel
theorem dX3_isSheet_13 : decode cX3_isSheet 13 = .ok (.iconst 0, 1) := by decide +kernel
theorem dX3_isSheet_14 : decode cX3_isSheet 14 = .ok (.ireturn, 1) := by decide +kernel
theorem dX3_isLane_0 : decode cX3_isLane 0 = .ok (.iload_n 0, 1) := by decide +kernel
theorem dX3_isLane_1 : decode cX3_isLane 1 = .ok (.ifCond .lt 12, 3) := by decide +kernel
theorem dX3_isLane_4 : decode cX3_isLane 4 = .ok (.iload_n 0, 1) := by decide +kernel
theorem dX3_isLane_5 : decode cX3_isLane 5 = .ok (.iconst 2, 1) := by decide +kernel
theorem dX3_isLane_6 : decode cX3_isLane 6 = .ok (.if_icmp .gt 7, 3) := by decide +kernel
theorem dX3_isLane_9 : decode cX3_isLane 9 = .ok (.iconst 1, 1) := by decide +kernel
theorem dX3_isLane_10 : decode cX3_isLane 10 = .ok (.goto 4, 3) := by decide +kernel
theorem dX3_isLane_13 : decode cX3_isLane 13 = .ok (.iconst 0, 1) := by decide +kernel
theorem dX3_isLane_14 : decode cX3_isLane 14 = .ok (.ireturn, 1) := by decide +kernel
theorem dX3_isDaysLength_0 : decode cX3_isDaysLength 0 = .ok (.iload_n 0, 1) := by decide +kernel
theorem dX3_isDaysLength_1 : decode cX3_isDaysLength 1 = .ok (.ifCond .lt 13, 3) := by decide +kernel
theorem dX3_isDaysLength_4 : decode cX3_isDaysLength 4 = .ok (.iload_n 0, 1) := by decide +kernel
theorem dX3_isDaysLength_5 : decode cX3_isDaysLength 5 = .ok (.bipush 20, 2) := by decide +kernel
theorem dX3_isDaysLength_7 : decode cX3_isDaysLength 7 = .ok (.if_icmp .gt 7, 3) := by decide +kernel
theorem dX3_isDaysLength_10 : decode cX3_isDaysLength 10 = .ok (.iconst 1, 1) := by decide +kernel
theorem dX3_isDaysLength_11 : decode cX3_isDaysLength 11 = .ok (.goto 4, 3) := by decide +kernel
theorem dX3_isDaysLength_14 : decode cX3_isDaysLength 14 = .ok (.iconst 0, 1) := by decide +kernel
theorem dX3_isDaysLength_15 : decode cX3_isDaysLength 15 = .ok (.ireturn, 1) := by decide +kernel
theorem dX3_isQuestion_0 : decode cX3_isQuestion 0 = .ok (.iload_n 0, 1) := by decide +kernel
theorem dX3_isQuestion_1 : decode cX3_isQuestion 1 = .ok (.ifCond .lt 8, 3) := by decide +kernel
theorem dX3_isQuestion_4 : decode cX3_isQuestion 4 = .ok (.iload_n 0, 1) := by decide +kernel
theorem dX3_isQuestion_5 : decode cX3_isQuestion 5 = .ok (.iconst 2, 1) := by decide +kernel
theorem dX3_isQuestion_6 : decode cX3_isQuestion 6 = .ok (.if_icmp .le 27, 3) := by decide +kernel
theorem dX3_isQuestion_9 : decode cX3_isQuestion 9 = .ok (.iload_n 0, 1) := by decide +kernel
theorem dX3_isQuestion_10 : decode cX3_isQuestion 10 = .ok (.bipush 10, 2) := by decide +kernel
theorem dX3_isQuestion_12 : decode cX3_isQuestion 12 = .ok (.if_icmp .lt 9, 3) := by decide +kernel
theorem dX3_isQuestion_15 : decode cX3_isQuestion 15 = .ok (.iload_n 0, 1) := by decide +kernel
theorem dX3_isQuestion_16 : decode cX3_isQuestion 16 = .ok (.bipush 14, 2) := by decide +kernel
theorem dX3_isQuestion_18 : decode cX3_isQuestion 18 = .ok (.if_icmp .lt 15, 3) := by decide +kernel
theorem dX3_isQuestion_21 : decode cX3_isQuestion 21 = .ok (.iload_n 0, 1) := by decide +kernel
theorem dX3_isQuestion_22 : decode cX3_isQuestion 22 = .ok (.bipush 20, 2) := by decide +kernel
theorem dX3_isQuestion_24 : decode cX3_isQuestion 24 = .ok (.if_icmp .lt 13, 3) := by decide +kernel
theorem dX3_isQuestion_27 : decode cX3_isQuestion 27 = .ok (.iload_n 0, 1) := by decide +kernel
theorem dX3_isQuestion_28 : decode cX3_isQuestion 28 = .ok (.bipush 24, 2) := by decide +kernel
theorem dX3_isQuestion_30 : decode cX3_isQuestion 30 = .ok (.if_icmp .ge 7, 3) := by decide +kernel
theorem dX3_isQuestion_33 : decode cX3_isQuestion 33 = .ok (.iconst 1, 1) := by decide +kernel
theorem dX3_isQuestion_34 : decode cX3_isQuestion 34 = .ok (.goto 4, 3) := by decide +kernel
theorem dX3_isQuestion_37 : decode cX3_isQuestion 37 = .ok (.iconst 0, 1) := by decide +kernel
theorem dX3_isQuestion_38 : decode cX3_isQuestion 38 = .ok (.ireturn, 1) := by decide +kernel
