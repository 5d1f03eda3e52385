theorem dX1_idleOneTick_92 : decode cX1_idleOneTick 92 = .ok (.getfield 145, 3) := by decide +kernel
theorem dX1_idleOneTick_95 : decode cX1_idleOneTick 95 = .ok (.aload_n 3, 1) := by decide +kernel
theorem dX1_idleOneTick_96 : decode cX1_idleOneTick 96 = .ok (.getfield 194, 3) := by decide +kernel
theorem dX1_idleOneTick_99 : decode cX1_idleOneTick 99 = .ok (.if_icmp .lt 9, 3) := by decide +kernel
theorem dX1_idleOneTick_102 : decode cX1_idleOneTick 102 = .ok (.aload_n 0, 1) := by decide +kernel
theorem dX1_idleOneTick_103 : decode cX1_idleOneTick 103 = .ok (.aload_n 3, 1) := by decide +kernel
theorem dX1_idleOneTick_104 : decode cX1_idleOneTick 104 = .ok (.iconst 1, 1) := by decide +kernel
theorem dX1_idleOneTick_105 : decode cX1_idleOneTick 105 = .ok (.invokevirtual 158, 3) := by decide +kernel
theorem dX1_idleOneTick_108 : decode cX1_idleOneTick 108 = .ok (.iinc 2 1, 3) := by decide +kernel
theorem dX1_idleOneTick_111 : decode cX1_idleOneTick 111 = .ok (.goto (-104), 3) := by decide +kernel
theorem dX1_idleOneTick_114 : decode cX1_idleOneTick 114 = .ok (.return_, 1) := by decide +kernel
set_option maxRecDepth 20000 in
theorem ggX1_parentsOfThoseOn_Jx4a65c_size_8abf5 : GoodIn wsX1_parentsOfThoseOn wsJx4a65c_size_8abf5 := goodIn_r _ [9, 10, 55, 56, 57] (by decide +kernel) (by decide +kernel)
set_option maxRecDepth 20000 in
theorem gX1_parentsOfThoseOn_Jx4a65c_size_8abf5 : GoodIn wsX1_parentsOfThoseOn (wsV RX1 65 RJx4a65c yJx4a65c_size_8abf5 wsJx4a65c_size_8abf5) := goodIn_app (goodIn_of _ (by decide +kernel)) ggX1_parentsOfThoseOn_Jx4a65c_size_8abf5
set_option maxRecDepth 20000 in
theorem ggX1_parentsOfThoseOn_Jx4a65c_get_915e3 : GoodIn wsX1_parentsOfThoseOn wsJx4a65c_get_915e3 := goodIn_r _ [14, 10, 15, 16, 17, 18, 19, 20, 21, 22, 23, 24, 25, 8, 26, 27, 55, 56, 57] (by decide +kernel) (by decide +kernel)
set_option maxRecDepth 20000 in
theorem gX1_parentsOfThoseOn_Jx4a65c_get_915e3 : GoodIn wsX1_parentsOfThoseOn (wsV RX1 129 RJx4a65c yJx4a65c_get_915e3 wsJx4a65c_get_915e3) := goodIn_app (goodIn_of _ (by decide +kernel)) ggX1_parentsOfThoseOn_Jx4a65c_get_915e3
theorem dX1_parentsOfThoseOn_0 : decode cX1_parentsOfThoseOn 0 = .ok (.iconst 0, 1) := by decide +kernel
theorem dX1_parentsOfThoseOn_1 : decode cX1_parentsOfThoseOn 1 = .ok (.istore_n 1, 1) := by decide +kernel
theorem dX1_parentsOfThoseOn_2 : decode cX1_parentsOfThoseOn 2 = .ok (.iconst 0, 1) := by decide +kernel
theorem dX1_parentsOfThoseOn_3 : decode cX1_parentsOfThoseOn 3 = .ok (.istore_n 2, 1) := by decide +kernel
theorem dX1_parentsOfThoseOn_4 : decode cX1_parentsOfThoseOn 4 = .ok (.iload_n 2, 1) := by decide +kernel
theorem dX1_parentsOfThoseOn_5 : decode cX1_parentsOfThoseOn 5 = .ok (.aload_n 0, 1) := by decide +kernel
theorem dX1_parentsOfThoseOn_6 : decode cX1_parentsOfThoseOn 6 = .ok (.getfield 10, 3) := by decide +kernel
theorem dX1_parentsOfThoseOn_9 : decode cX1_parentsOfThoseOn 9 = .ok (.invokevirtual 65, 3) := by decide +kernel
theorem dX1_parentsOfThoseOn_12 : decode cX1_parentsOfThoseOn 12 = .ok (.if_icmp .ge 36, 3) := by decide +kernel
theorem dX1_parentsOfThoseOn_15 : decode cX1_parentsOfThoseOn 15 = .ok (.aload_n 0, 1) := by decide +kernel
theorem dX1_parentsOfThoseOn_16 : decode cX1_parentsOfThoseOn 16 = .ok (.getfield 10, 3) := by decide +kernel
theorem dX1_parentsOfThoseOn_19 : decode cX1_parentsOfThoseOn 19 = .ok (.iload_n 2, 1) := by decide +kernel
theorem dX1_parentsOfThoseOn_20 : decode cX1_parentsOfThoseOn 20 = .ok (.invokevirtual 129, 3) := by decide +kernel
theorem dX1_parentsOfThoseOn_23 : decode cX1_parentsOfThoseOn 23 = .ok (.checkcast 69, 3) := by decide +kernel
theorem dX1_parentsOfThoseOn_26 : decode cX1_parentsOfThoseOn 26 = .ok (.astore_n 3, 1) := by decide +kernel
theorem dX1_parentsOfThoseOn_27 : decode cX1_parentsOfThoseOn 27 = .ok (.aload_n 3, 1) := by decide +kernel
theorem dX1_parentsOfThoseOn_28 : decode cX1_parentsOfThoseOn 28 = .ok (.getfield 133, 3) := by decide +kernel
theorem dX1_parentsOfThoseOn_31 : decode cX1_parentsOfThoseOn 31 = .ok (.iconst 2, 1) := by decide +kernel
theorem dX1_parentsOfThoseOn_32 : decode cX1_parentsOfThoseOn 32 = .ok (.if_icmp .ne 10, 3) := by decide +kernel
theorem dX1_parentsOfThoseOn_35 : decode cX1_parentsOfThoseOn 35 = .ok (.iload_n 1, 1) := by decide +kernel
theorem dX1_parentsOfThoseOn_36 : decode cX1_parentsOfThoseOn 36 = .ok (.aload_n 3, 1) := by decide +kernel
theorem dX1_parentsOfThoseOn_37 : decode cX1_parentsOfThoseOn 37 = .ok (.getfield 197, 3) := by decide +kernel
theorem dX1_parentsOfThoseOn_40 : decode cX1_parentsOfThoseOn 40 = .ok (.ior, 1) := by decide +kernel
theorem dX1_parentsOfThoseOn_41 : decode cX1_parentsOfThoseOn 41 = .ok (.istore_n 1, 1) := by decide +kernel
theorem dX1_parentsOfThoseOn_42 : decode cX1_parentsOfThoseOn 42 = .ok (.iinc 2 1, 3) := by decide +kernel
theorem dX1_parentsOfThoseOn_45 : decode cX1_parentsOfThoseOn 45 = .ok (.goto (-41), 3) := by decide +kernel
theorem dX1_parentsOfThoseOn_48 : decode cX1_parentsOfThoseOn 48 = .ok (.iload_n 1, 1) := by decide +kernel
theorem dX1_parentsOfThoseOn_49 : decode cX1_parentsOfThoseOn 49 = .ok (.ireturn, 1) := by decide +kernel
set_option maxRecDepth 20000 in
theorem ggX1_bringNearer_X1_turn : GoodIn wsX1_bringNearer wsX1_turn := goodIn_r _ [8, 9, 10, 83, 84, 85, 86, 87, 88, 89, 90, 91, 92, 93, 94, 95, 69, 70, 71, 72, 73, 74, 75, 76, 77, 78, 79, 80, 81, 82] (by decide +kernel) (by decide +kernel)
set_option maxRecDepth 20000 in
theorem gX1_bringNearer_X1_turn : GoodIn wsX1_bringNearer (wsV RX1 158 RX1 yX1_turn wsX1_turn) := goodIn_app (goodIn_of _ (by decide +kernel)) ggX1_bringNearer_X1_turn
set_option maxRecDepth 20000 in
theorem ggX1_bringNearer_X1_comeFurtherBack : GoodIn wsX1_bringNearer wsX1_comeFurtherBack := goodIn_r _ [14, 15, 16, 9, 17, 18, 2, 19, 20, 21, 22, 23, 24, 25, 26, 27, 28, 29, 30, 31, 32, 33, 34, 35, 36, 37, 38, 39, 40, 41, 42, 43, 44, 7, 45, 46, 1, 4, 5, 6, 8, 10, 47, 48, 49, 50, 69, 70, 71, 72, 73, 74, 75, 76, 77, 78, 79, 80, 81, 82, 83, 84, 85, 86, 87, 88, 89, 90, 91, 92, 93, 94, 95, 96, 97, 98] (by decide +kernel) (by decide +kernel)
set_option maxRecDepth 20000 in
theorem gX1_bringNearer_X1_comeFurtherBack : GoodIn wsX1_bringNearer (wsV RX1 171 RX1 yX1_comeFurtherBack wsX1_comeFurtherBack) := goodIn_app (goodIn_of _ (by decide +kernel)) ggX1_bringNearer_X1_comeFurtherBack
set_option maxRecDepth 20000 in
theorem ggX1_bringNearer_X1_giveUp : GoodIn wsX1_bringNearer wsX1_giveUp := goodIn_r _ [54, 55, 56, 57, 58, 59, 60, 61, 7, 62, 2, 11, 12, 13, 14, 15, 16, 9, 17, 18, 19, 20, 21, 22, 23, 24, 25, 26, 27, 28, 29, 30, 31, 32, 33, 34, 35, 36, 37, 38, 39, 40, 41, 42, 43, 44, 45, 46, 1, 4, 5, 6, 8, 10, 47, 48, 49, 50, 69, 70, 71, 72, 73, 74, 75, 76, 77, 78, 79, 80, 81, 82, 83, 84, 85, 86, 87, 88, 89, 90, 91, 92, 93, 94, 95, 96, 97, 98] (by decide +kernel) (by decide +kernel)
set_option maxRecDepth 20000 in
theorem gX1_bringNearer_X1_giveUp : GoodIn wsX1_bringNearer (wsV RX1 125 RX1 yX1_giveUp wsX1_giveUp) := goodIn_app (goodIn_of _ (by decide +kernel)) ggX1_bringNearer_X1_giveUp
set_option maxRecDepth 20000 in
theorem ggX1_bringNearer_X1_sinkFurther : GoodIn wsX1_bringNearer wsX1_sinkFurther := goodIn_r _ [66, 15, 16, 9, 67, 2, 68, 19, 20, 21, 22, 23, 24, 25, 26, 27, 28, 29, 30, 31, 32, 33, 34, 35, 36, 37, 38, 39, 40, 41, 42, 43, 44, 7, 45, 46, 1, 4, 5, 6, 8, 10, 47, 48, 49, 50, 69, 70, 71, 72, 73, 74, 75, 76, 77, 78, 79, 80, 81, 82, 83, 84, 85, 86, 87, 88, 89, 90, 91, 92, 93, 94, 95, 96, 97, 98] (by decide +kernel) (by decide +kernel)
set_option maxRecDepth 20000 in
theorem gX1_bringNearer_X1_sinkFurther : GoodIn wsX1_bringNearer (wsV RX1 139 RX1 yX1_sinkFurther wsX1_sinkFurther) := goodIn_app (goodIn_of _ (by decide +kernel)) ggX1_bringNearer_X1_sinkFurther
theorem dX1_bringNearer_0 : decode cX1_bringNearer 0 = .ok (.aload_n 0, 1) := by decide +kernel
theorem dX1_bringNearer_1 : decode cX1_bringNearer 1 = .ok (.dup, 1) := by decide +kernel
theorem dX1_bringNearer_2 : decode cX1_bringNearer 2 = .ok (.getfield 27, 3) := by decide +kernel
theorem dX1_bringNearer_5 : decode cX1_bringNearer 5 = .ok (.iconst 1, 1) := by decide +kernel
theorem dX1_bringNearer_6 : decode cX1_bringNearer 6 = .ok (.isub, 1) := by decide +kernel
theorem dX1_bringNearer_7 : decode cX1_bringNearer 7 = .ok (.putfield 27, 3) := by decide +kernel
theorem dX1_bringNearer_10 : decode cX1_bringNearer 10 = .ok (.aload_n 0, 1) := by decide +kernel
theorem dX1_bringNearer_11 : decode cX1_bringNearer 11 = .ok (.getfield 27, 3) := by decide +kernel
theorem dX1_bringNearer_14 : decode cX1_bringNearer 14 = .ok (.ifCond .le 4, 3) := by decide +kernel
theorem dX1_bringNearer_17 : decode cX1_bringNearer 17 = .ok (.return_, 1) := by decide +kernel
theorem dX1_bringNearer_18 : decode cX1_bringNearer 18 = .ok (.aload_n 0, 1) := by decide +kernel
theorem dX1_bringNearer_19 : decode cX1_bringNearer 19 = .ok (.getfield 19, 3) := by decide +kernel
theorem dX1_bringNearer_22 : decode cX1_bringNearer 22 = .ok (.iconst 1, 1) := by decide +kernel
theorem dX1_bringNearer_23 : decode cX1_bringNearer 23 = .ok (.if_icmp .eq 16, 3) := by decide +kernel
theorem dX1_bringNearer_26 : decode cX1_bringNearer 26 = .ok (.aload_n 0, 1) := by decide +kernel
theorem dX1_bringNearer_27 : decode cX1_bringNearer 27 = .ok (.aload_n 1, 1) := by decide +kernel
theorem dX1_bringNearer_28 : decode cX1_bringNearer 28 = .ok (.iconst 2, 1) := by decide +kernel
theorem dX1_bringNearer_29 : decode cX1_bringNearer 29 = .ok (.invokevirtual 158, 3) := by decide +kernel
theorem dX1_bringNearer_32 : decode cX1_bringNearer 32 = .ok (.aload_n 0, 1) := by decide +kernel
theorem dX1_bringNearer_33 : decode cX1_bringNearer 33 = .ok (.invokevirtual 171, 3) := by decide +kernel
theorem dX1_bringNearer_36 : decode cX1_bringNearer 36 = .ok (.goto 39, 3) := by decide +kernel
theorem dX1_bringNearer_39 : decode cX1_bringNearer 39 = .ok (.aload_n 1, 1) := by decide +kernel
theorem dX1_bringNearer_40 : decode cX1_bringNearer 40 = .ok (.getfield 119, 3) := by decide +kernel
theorem dX1_bringNearer_43 : decode cX1_bringNearer 43 = .ok (.ifCond .le 22, 3) := by decide +kernel
theorem dX1_bringNearer_46 : decode cX1_bringNearer 46 = .ok (.aload_n 1, 1) := by decide +kernel
theorem dX1_bringNearer_47 : decode cX1_bringNearer 47 = .ok (.dup, 1) := by decide +kernel
theorem dX1_bringNearer_48 : decode cX1_bringNearer 48 = .ok (.getfield 119, 3) := by decide +kernel
theorem dX1_bringNearer_51 : decode cX1_bringNearer 51 = .ok (.iconst 1, 1) := by decide +kernel
theorem dX1_bringNearer_52 : decode cX1_bringNearer 52 = .ok (.isub, 1) := by decide +kernel
theorem dX1_bringNearer_53 : decode cX1_bringNearer 53 = .ok (.putfield 119, 3) := by decide +kernel
theorem dX1_bringNearer_56 : decode cX1_bringNearer 56 = .ok (.aload_n 0, 1) := by decide +kernel
theorem dX1_bringNearer_57 : decode cX1_bringNearer 57 = .ok (.iconst 1, 1) := by decide +kernel
theorem dX1_bringNearer_58 : decode cX1_bringNearer 58 = .ok (.aload_n 1, 1) := by decide +kernel
theorem dX1_bringNearer_59 : decode cX1_bringNearer 59 = .ok (.invokevirtual 125, 3) := by decide +kernel
theorem dX1_bringNearer_62 : decode cX1_bringNearer 62 = .ok (.goto 13, 3) := by decide +kernel
theorem dX1_bringNearer_65 : decode cX1_bringNearer 65 = .ok (.aload_n 0, 1) := by decide +kernel
theorem dX1_bringNearer_66 : decode cX1_bringNearer 66 = .ok (.aload_n 1, 1) := by decide +kernel
theorem dX1_bringNearer_67 : decode cX1_bringNearer 67 = .ok (.iconst 0, 1) := by decide +kernel
theorem dX1_bringNearer_68 : decode cX1_bringNearer 68 = .ok (.invokevirtual 158, 3) := by decide +kernel
theorem dX1_bringNearer_71 : decode cX1_bringNearer 71 = .ok (.aload_n 0, 1) := by decide +kernel
theorem dX1_bringNearer_72 : decode cX1_bringNearer 72 = .ok (.invokevirtual 139, 3) := by decide +kernel
theorem dX1_bringNearer_75 : decode cX1_bringNearer 75 = .ok (.return_, 1) := by decide +kernel
theorem dX2_init_0 : decode cX2_init 0 = .ok (.aload_n 0, 1) := by decide +kernel
theorem dX2_init_1 : decode cX2_init 1 = .ok (.invokespecial 1, 3) := by decide +kernel
theorem dX2_init_4 : decode cX2_init 4 = .ok (.aload_n 0, 1) := by decide +kernel
theorem dX2_init_5 : decode cX2_init 5 = .ok (.bipush 12, 2) := by decide +kernel
theorem dX2_init_7 : decode cX2_init 7 = .ok (.newarray .int, 2) := by decide +kernel
theorem dX2_init_9 : decode cX2_init 9 = .ok (.putfield 7, 3) := by decide +kernel
theorem dX2_init_12 : decode cX2_init 12 = .ok (.aload_n 0, 1) := by decide +kernel
theorem dX2_init_13 : decode cX2_init 13 = .ok (.bipush 12, 2) := by decide +kernel
theorem dX2_init_15 : decode cX2_init 15 = .ok (.newarray .int, 2) := by decide +kernel
theorem dX2_init_17 : decode cX2_init 17 = .ok (.putfield 13, 3) := by decide +kernel
theorem dX2_init_20 : decode cX2_init 20 = .ok (.aload_n 0, 1) := by decide +kernel
theorem dX2_init_21 : decode cX2_init 21 = .ok (.bipush 12, 2) := by decide +kernel
theorem dX2_init_23 : decode cX2_init 23 = .ok (.newarray .int, 2) := by decide +kernel
theorem dX2_init_25 : decode cX2_init 25 = .ok (.putfield 16, 3) := by decide +kernel
theorem dX2_init_28 : decode cX2_init 28 = .ok (.aload_n 0, 1) := by decide +kernel
theorem dX2_init_29 : decode cX2_init 29 = .ok (.bipush 12, 2) := by decide +kernel
theorem dX2_init_31 : decode cX2_init 31 = .ok (.newarray .int, 2) := by decide +kernel
theorem dX2_init_33 : decode cX2_init 33 = .ok (.putfield 19, 3) := by decide +kernel
theorem dX2_init_36 : decode cX2_init 36 = .ok (.aload_n 0, 1) := by decide +kernel
theorem dX2_init_37 : decode cX2_init 37 = .ok (.bipush 12, 2) := by decide +kernel
theorem dX2_init_39 : decode cX2_init 39 = .ok (.newarray .int, 2) := by decide +kernel
theorem dX2_init_41 : decode cX2_init 41 = .ok (.putfield 22, 3) := by decide +kernel
theorem dX2_init_44 : decode cX2_init 44 = .ok (.aload_n 0, 1) := by decide +kernel
theorem dX2_init_45 : decode cX2_init 45 = .ok (.bipush 12, 2) := by decide +kernel
theorem dX2_init_47 : decode cX2_init 47 = .ok (.newarray .int, 2) := by decide +kernel
theorem dX2_init_49 : decode cX2_init 49 = .ok (.putfield 25, 3) := by decide +kernel
theorem dX2_init_52 : decode cX2_init 52 = .ok (.aload_n 0, 1) := by decide +kernel
theorem dX2_init_53 : decode cX2_init 53 = .ok (.bipush 12, 2) := by decide +kernel
theorem dX2_init_55 : decode cX2_init 55 = .ok (.newarray .int, 2) := by decide +kernel
theorem dX2_init_57 : decode cX2_init 57 = .ok (.putfield 28, 3) := by decide +kernel
theorem dX2_init_60 : decode cX2_init 60 = .ok (.aload_n 0, 1) := by decide +kernel
theorem dX2_init_61 : decode cX2_init 61 = .ok (.bipush 12, 2) := by decide +kernel
theorem dX2_init_63 : decode cX2_init 63 = .ok (.newarray .int, 2) := by decide +kernel
theorem dX2_init_65 : decode cX2_init 65 = .ok (.putfield 31, 3) := by decide +kernel
theorem dX2_init_68 : decode cX2_init 68 = .ok (.aload_n 0, 1) := by decide +kernel
theorem dX2_init_69 : decode cX2_init 69 = .ok (.bipush 12, 2) := by decide +kernel
theorem dX2_init_71 : decode cX2_init 71 = .ok (.newarray .int, 2) := by decide +kernel
theorem dX2_init_73 : decode cX2_init 73 = .ok (.putfield 34, 3) := by decide +kernel
theorem dX2_init_76 : decode cX2_init 76 = .ok (.aload_n 0, 1) := by decide +kernel
theorem dX2_init_77 : decode cX2_init 77 = .ok (.bipush 12, 2) := by decide +kernel
theorem dX2_init_79 : decode cX2_init 79 = .ok (.newarray .boolean, 2) := by decide +kernel
theorem dX2_init_81 : decode cX2_init 81 = .ok (.putfield 37, 3) := by decide +kernel
theorem dX2_init_84 : decode cX2_init 84 = .ok (.aload_n 0, 1) := by decide +kernel
theorem dX2_init_85 : decode cX2_init 85 = .ok (.bipush 12, 2) := by decide +kernel
theorem dX2_init_87 : decode cX2_init 87 = .ok (.newarray .boolean, 2) := by decide +kernel
theorem dX2_init_89 : decode cX2_init 89 = .ok (.putfield 41, 3) := by decide +kernel
theorem dX2_init_92 : decode cX2_init 92 = .ok (.aload_n 0, 1) := by decide +kernel
theorem dX2_init_93 : decode cX2_init 93 = .ok (.iconst (-1), 1) := by decide +kernel
theorem dX2_init_94 : decode cX2_init 94 = .ok (.putfield 44, 3) := by decide +kernel
theorem dX2_init_97 : decode cX2_init 97 = .ok (.aload_n 0, 1) := by decide +kernel
theorem dX2_init_98 : decode cX2_init 98 = .ok (.iconst (-1), 1) := by decide +kernel
theorem dX2_init_99 : decode cX2_init 99 = .ok (.putfield 48, 3) := by decide +kernel
theorem dX2_init_102 : decode cX2_init 102 = .ok (.return_, 1) := by decide +kernel
theorem dX2_none_0 : decode cX2_none 0 = .ok (.iload_n 1, 1) := by decide +kernel
theorem dX2_none_1 : decode cX2_none 1 = .ok (.ifCond .lt 11, 3) := by decide +kernel
theorem dX2_none_4 : decode cX2_none 4 = .ok (.iload_n 1, 1) := by decide +kernel
theorem dX2_none_5 : decode cX2_none 5 = .ok (.aload_n 0, 1) := by decide +kernel
theorem dX2_none_6 : decode cX2_none 6 = .ok (.getfield 51, 3) := by decide +kernel
theorem dX2_none_9 : decode cX2_none 9 = .ok (.if_icmp .lt 7, 3) := by decide +kernel
theorem dX2_none_12 : decode cX2_none 12 = .ok (.iconst 1, 1) := by decide +kernel
theorem dX2_none_13 : decode cX2_none 13 = .ok (.goto 4, 3) := by decide +kernel
theorem dX2_none_16 : decode cX2_none 16 = .ok (.iconst 0, 1) := by decide +kernel
theorem dX2_none_17 : decode cX2_none 17 = .ok (.ireturn, 1) := by decide +kernel
theorem dX2_depth_0 : decode cX2_depth 0 = .ok (.iconst 0, 1) := by decide +kernel
theorem dX2_depth_1 : decode cX2_depth 1 = .ok (.istore_n 2, 1) := by decide +kernel
theorem dX2_depth_2 : decode cX2_depth 2 = .ok (.aload_n 0, 1) := by decide +kernel
theorem dX2_depth_3 : decode cX2_depth 3 = .ok (.getfield 7, 3) := by decide +kernel
theorem dX2_depth_6 : decode cX2_depth 6 = .ok (.iload_n 1, 1) := by decide +kernel
theorem dX2_depth_7 : decode cX2_depth 7 = .ok (.iaload, 1) := by decide +kernel
theorem dX2_depth_8 : decode cX2_depth 8 = .ok (.istore_n 3, 1) := by decide +kernel
theorem dX2_depth_9 : decode cX2_depth 9 = .ok (.iload_n 3, 1) := by decide +kernel
theorem dX2_depth_10 : decode cX2_depth 10 = .ok (.ifCond .eq 60, 3) := by decide +kernel
theorem dX2_depth_13 : decode cX2_depth 13 = .ok (.iconst 0, 1) := by decide +kernel
theorem dX2_depth_14 : decode cX2_depth 14 = .ok (.istore 4, 2) := by decide +kernel
theorem dX2_depth_16 : decode cX2_depth 16 = .ok (.iconst 0, 1) := by decide +kernel
theorem dX2_depth_17 : decode cX2_depth 17 = .ok (.istore 5, 2) := by decide +kernel
theorem dX2_depth_19 : decode cX2_depth 19 = .ok (.iload 5, 2) := by decide +kernel
theorem dX2_depth_21 : decode cX2_depth 21 = .ok (.aload_n 0, 1) := by decide +kernel
theorem dX2_depth_22 : decode cX2_depth 22 = .ok (.getfield 51, 3) := by decide +kernel
theorem dX2_depth_25 : decode cX2_depth 25 = .ok (.if_icmp .ge 36, 3) := by decide +kernel
theorem dX2_depth_28 : decode cX2_depth 28 = .ok (.iload_n 3, 1) := by decide +kernel
theorem dX2_depth_29 : decode cX2_depth 29 = .ok (.iload 5, 2) := by decide +kernel
theorem dX2_depth_31 : decode cX2_depth 31 = .ok (.ishr, 1) := by decide +kernel
theorem dX2_depth_32 : decode cX2_depth 32 = .ok (.iconst 1, 1) := by decide +kernel
theorem dX2_depth_33 : decode cX2_depth 33 = .ok (.iand, 1) := by decide +kernel
theorem dX2_depth_34 : decode cX2_depth 34 = .ok (.iconst 1, 1) := by decide +kernel
theorem dX2_depth_35 : decode cX2_depth 35 = .ok (.if_icmp .ne 16, 3) := by decide +kernel
theorem dX2_depth_38 : decode cX2_depth 38 = .ok (.iload 4, 2) := by decide +kernel
theorem dX2_depth_40 : decode cX2_depth 40 = .ok (.aload_n 0, 1) := by decide +kernel
theorem dX2_depth_41 : decode cX2_depth 41 = .ok (.getfield 7, 3) := by decide +kernel
theorem dX2_depth_44 : decode cX2_depth 44 = .ok (.iload 5, 2) := by decide +kernel
theorem dX2_depth_46 : decode cX2_depth 46 = .ok (.iaload, 1) := by decide +kernel
theorem dX2_depth_47 : decode cX2_depth 47 = .ok (.ior, 1) := by decide +kernel
theorem dX2_depth_48 : decode cX2_depth 48 = .ok (.goto 5, 3) := by decide +kernel
theorem dX2_depth_51 : decode cX2_depth 51 = .ok (.iload 4, 2) := by decide +kernel
theorem dX2_depth_53 : decode cX2_depth 53 = .ok (.istore 4, 2) := by decide +kernel
theorem dX2_depth_55 : decode cX2_depth 55 = .ok (.iinc 5 1, 3) := by decide +kernel
theorem dX2_depth_58 : decode cX2_depth 58 = .ok (.goto (-39), 3) := by decide +kernel
theorem dX2_depth_61 : decode cX2_depth 61 = .ok (.iload 4, 2) := by decide +kernel
theorem dX2_depth_63 : decode cX2_depth 63 = .ok (.istore_n 3, 1) := by decide +kernel
theorem dX2_depth_64 : decode cX2_depth 64 = .ok (.iinc 2 1, 3) := by decide +kernel
theorem dX2_depth_67 : decode cX2_depth 67 = .ok (.goto (-58), 3) := by decide +kernel
theorem dX2_depth_70 : decode cX2_depth 70 = .ok (.iload_n 2, 1) := by decide +kernel
theorem dX2_depth_71 : decode cX2_depth 71 = .ok (.ireturn, 1) := by decide +kernel
set_option maxRecDepth 20000 in
theorem ggX2_earlier_X2_depth : GoodIn wsX2_earlier wsX2_depth := goodIn_r _ [5, 6, 7, 8, 9, 10, 11, 12, 13, 14, 15, 16, 17, 18, 19, 20, 21, 22, 23, 24, 25, 26, 27, 28, 29, 30, 31] (by decide +kernel) (by decide +kernel)
set_option maxRecDepth 20000 in
theorem gX2_earlier_X2_depth : GoodIn wsX2_earlier (wsV RX2 54 RX2 yX2_depth wsX2_depth) := goodIn_app (goodIn_of _ (by decide +kernel)) ggX2_earlier_X2_depth
theorem dX2_earlier_0 : decode cX2_earlier 0 = .ok (.aload_n 0, 1) := by decide +kernel
theorem dX2_earlier_1 : decode cX2_earlier 1 = .ok (.iload_n 1, 1) := by decide +kernel
theorem dX2_earlier_2 : decode cX2_earlier 2 = .ok (.invokevirtual 54, 3) := by decide +kernel
theorem dX2_earlier_5 : decode cX2_earlier 5 = .ok (.istore_n 3, 1) := by decide +kernel
theorem dX2_earlier_6 : decode cX2_earlier 6 = .ok (.aload_n 0, 1) := by decide +kernel
theorem dX2_earlier_7 : decode cX2_earlier 7 = .ok (.iload_n 2, 1) := by decide +kernel
theorem dX2_earlier_8 : decode cX2_earlier 8 = .ok (.invokevirtual 54, 3) := by decide +kernel
theorem dX2_earlier_11 : decode cX2_earlier 11 = .ok (.istore 4, 2) := by decide +kernel
theorem dX2_earlier_13 : decode cX2_earlier 13 = .ok (.iload_n 3, 1) := by decide +kernel
theorem dX2_earlier_14 : decode cX2_earlier 14 = .ok (.iload 4, 2) := by decide +kernel
theorem dX2_earlier_16 : decode cX2_earlier 16 = .ok (.if_icmp .eq 17, 3) := by decide +kernel
theorem dX2_earlier_19 : decode cX2_earlier 19 = .ok (.iload_n 3, 1) := by decide +kernel
theorem dX2_earlier_20 : decode cX2_earlier 20 = .ok (.iload 4, 2) := by decide +kernel
theorem dX2_earlier_22 : decode cX2_earlier 22 = .ok (.if_icmp .ge 7, 3) := by decide +kernel
theorem dX2_earlier_25 : decode cX2_earlier 25 = .ok (.iconst 1, 1) := by decide +kernel
theorem dX2_earlier_26 : decode cX2_earlier 26 = .ok (.goto 17, 3) := by decide +kernel
theorem dX2_earlier_29 : decode cX2_earlier 29 = .ok (.iconst 0, 1) := by decide +kernel
theorem dX2_earlier_30 : decode cX2_earlier 30 = .ok (.goto 13, 3) := by decide +kernel
theorem dX2_earlier_33 : decode cX2_earlier 33 = .ok (.iload_n 1, 1) := by decide +kernel
theorem dX2_earlier_34 : decode cX2_earlier 34 = .ok (.iload_n 2, 1) := by decide +kernel
theorem dX2_earlier_35 : decode cX2_earlier 35 = .ok (.if_icmp .ge 7, 3) := by decide +kernel
theorem dX2_earlier_38 : decode cX2_earlier 38 = .ok (.iconst 1, 1) := by decide +kernel
theorem dX2_earlier_39 : decode cX2_earlier 39 = .ok (.goto 4, 3) := by decide +kernel
theorem dX2_earlier_42 : decode cX2_earlier 42 = .ok (.iconst 0, 1) := by decide +kernel
theorem dX2_earlier_43 : decode cX2_earlier 43 = .ok (.ireturn, 1) := by decide +kernel
theorem dX2_line_0 : decode cX2_line 0 = .ok (.iconst 1, 1) := by decide +kernel
theorem dX2_line_1 : decode cX2_line 1 = .ok (.iload_n 1, 1) := by decide +kernel
theorem dX2_line_2 : decode cX2_line 2 = .ok (.ishl, 1) := by decide +kernel
theorem dX2_line_3 : decode cX2_line 3 = .ok (.istore_n 2, 1) := by decide +kernel
theorem dX2_line_4 : decode cX2_line 4 = .ok (.iload_n 1, 1) := by decide +kernel
theorem dX2_line_5 : decode cX2_line 5 = .ok (.istore_n 3, 1) := by decide +kernel
theorem dX2_line_6 : decode cX2_line 6 = .ok (.iload_n 3, 1) := by decide +kernel
theorem dX2_line_7 : decode cX2_line 7 = .ok (.ifCond .lt 31, 3) := by decide +kernel
theorem dX2_line_10 : decode cX2_line 10 = .ok (.iload_n 2, 1) := by decide +kernel
theorem dX2_line_11 : decode cX2_line 11 = .ok (.iload_n 3, 1) := by decide +kernel
theorem dX2_line_12 : decode cX2_line 12 = .ok (.ishr, 1) := by decide +kernel
theorem dX2_line_13 : decode cX2_line 13 = .ok (.iconst 1, 1) := by decide +kernel
theorem dX2_line_14 : decode cX2_line 14 = .ok (.iand, 1) := by decide +kernel
theorem dX2_line_15 : decode cX2_line 15 = .ok (.iconst 1, 1) := by decide +kernel
theorem dX2_line_16 : decode cX2_line 16 = .ok (.if_icmp .ne 14, 3) := by decide +kernel
theorem dX2_line_19 : decode cX2_line 19 = .ok (.iload_n 2, 1) := by decide +kernel
theorem dX2_line_20 : decode cX2_line 20 = .ok (.aload_n 0, 1) := by decide +kernel
theorem dX2_line_21 : decode cX2_line 21 = .ok (.getfield 7, 3) := by decide +kernel
theorem dX2_line_24 : decode cX2_line 24 = .ok (.iload_n 3, 1) := by decide +kernel
theorem dX2_line_25 : decode cX2_line 25 = .ok (.iaload, 1) := by decide +kernel
theorem dX2_line_26 : decode cX2_line 26 = .ok (.ior, 1) := by decide +kernel
theorem dX2_line_27 : decode cX2_line 27 = .ok (.goto 4, 3) := by decide +kernel
theorem dX2_line_30 : decode cX2_line 30 = .ok (.iload_n 2, 1) := by decide +kernel
theorem dX2_line_31 : decode cX2_line 31 = .ok (.istore_n 2, 1) := by decide +kernel
theorem dX2_line_32 : decode cX2_line 32 = .ok (.iinc 3 (-1), 3) := by decide +kernel
theorem dX2_line_35 : decode cX2_line 35 = .ok (.goto (-29), 3) := by decide +kernel
theorem dX2_line_38 : decode cX2_line 38 = .ok (.iload_n 2, 1) := by decide +kernel
theorem dX2_line_39 : decode cX2_line 39 = .ok (.ireturn, 1) := by decide +kernel
theorem dX2_rouse_0 : decode cX2_rouse 0 = .ok (.iconst 0, 1) := by decide +kernel
theorem dX2_rouse_1 : decode cX2_rouse 1 = .ok (.istore_n 2, 1) := by decide +kernel
theorem dX2_rouse_2 : decode cX2_rouse 2 = .ok (.iconst 0, 1) := by decide +kernel
theorem dX2_rouse_3 : decode cX2_rouse 3 = .ok (.istore_n 3, 1) := by decide +kernel
theorem dX2_rouse_4 : decode cX2_rouse 4 = .ok (.iload_n 3, 1) := by decide +kernel
theorem dX2_rouse_5 : decode cX2_rouse 5 = .ok (.aload_n 0, 1) := by decide +kernel
theorem dX2_rouse_6 : decode cX2_rouse 6 = .ok (.getfield 51, 3) := by decide +kernel
theorem dX2_rouse_9 : decode cX2_rouse 9 = .ok (.if_icmp .ge 50, 3) := by decide +kernel
theorem dX2_rouse_12 : decode cX2_rouse 12 = .ok (.iload_n 1, 1) := by decide +kernel
theorem dX2_rouse_13 : decode cX2_rouse 13 = .ok (.iload_n 3, 1) := by decide +kernel
theorem dX2_rouse_14 : decode cX2_rouse 14 = .ok (.ishr, 1) := by decide +kernel
theorem dX2_rouse_15 : decode cX2_rouse 15 = .ok (.iconst 1, 1) := by decide +kernel
theorem dX2_rouse_16 : decode cX2_rouse 16 = .ok (.iand, 1) := by decide +kernel
theorem dX2_rouse_17 : decode cX2_rouse 17 = .ok (.iconst 1, 1) := by decide +kernel
theorem dX2_rouse_18 : decode cX2_rouse 18 = .ok (.if_icmp .ne 35, 3) := by decide +kernel
theorem dX2_rouse_21 : decode cX2_rouse 21 = .ok (.aload_n 0, 1) := by decide +kernel
theorem dX2_rouse_22 : decode cX2_rouse 22 = .ok (.getfield 22, 3) := by decide +kernel
theorem dX2_rouse_25 : decode cX2_rouse 25 = .ok (.iload_n 3, 1) := by decide +kernel
theorem dX2_rouse_26 : decode cX2_rouse 26 = .ok (.iaload, 1) := by decide +kernel
theorem dX2_rouse_27 : decode cX2_rouse 27 = .ok (.iconst 2, 1) := by decide +kernel
theorem dX2_rouse_28 : decode cX2_rouse 28 = .ok (.if_icmp .ne 7, 3) := by decide +kernel
theorem dX2_rouse_31 : decode cX2_rouse 31 = .ok (.iload_n 2, 1) := by decide +kernel
theorem dX2_rouse_32 : decode cX2_rouse 32 = .ok (.goto 6, 3) := by decide +kernel
theorem dX2_rouse_35 : decode cX2_rouse 35 = .ok (.iload_n 2, 1) := by decide +kernel
theorem dX2_rouse_36 : decode cX2_rouse 36 = .ok (.iconst 1, 1) := by decide +kernel
theorem dX2_rouse_37 : decode cX2_rouse 37 = .ok (.iadd, 1) := by decide +kernel
theorem dX2_rouse_38 : decode cX2_rouse 38 = .ok (.istore_n 2, 1) := by decide +kernel
theorem dX2_rouse_39 : decode cX2_rouse 39 = .ok (.aload_n 0, 1) := by decide +kernel
theorem dX2_rouse_40 : decode cX2_rouse 40 = .ok (.getfield 22, 3) := by decide +kernel
theorem dX2_rouse_43 : decode cX2_rouse 43 = .ok (.iload_n 3, 1) := by decide +kernel
theorem dX2_rouse_44 : decode cX2_rouse 44 = .ok (.iconst 2, 1) := by decide +kernel
theorem dX2_rouse_45 : decode cX2_rouse 45 = .ok (.iastore, 1) := by decide +kernel
theorem dX2_rouse_46 : decode cX2_rouse 46 = .ok (.aload_n 0, 1) := by decide +kernel
theorem dX2_rouse_47 : decode cX2_rouse 47 = .ok (.getfield 31, 3) := by decide +kernel
theorem dX2_rouse_50 : decode cX2_rouse 50 = .ok (.iload_n 3, 1) := by decide +kernel
theorem dX2_rouse_51 : decode cX2_rouse 51 = .ok (.iconst 0, 1) := by decide +kernel
theorem dX2_rouse_52 : decode cX2_rouse 52 = .ok (.iastore, 1) := by decide +kernel
theorem dX2_rouse_53 : decode cX2_rouse 53 = .ok (.iinc 3 1, 3) := by decide +kernel
theorem dX2_rouse_56 : decode cX2_rouse 56 = .ok (.goto (-52), 3) := by decide +kernel
theorem dX2_rouse_59 : decode cX2_rouse 59 = .ok (.iload_n 2, 1) := by decide +kernel
theorem dX2_rouse_60 : decode cX2_rouse 60 = .ok (.ireturn, 1) := by decide +kernel
set_option maxRecDepth 20000 in
theorem ggX2_device_X2_line : GoodIn wsX2_device wsX2_line := goodIn_r _ [16, 3, 21, 22, 23, 24, 25, 26, 27, 28, 29, 30, 31, 32, 33, 34, 35, 36, 37, 38, 39, 40, 41, 42, 43, 44] (by decide +kernel) (by decide +kernel)
set_option maxRecDepth 20000 in
theorem gX2_device_X2_line : GoodIn wsX2_device (wsV RX2 61 RX2 yX2_line wsX2_line) := goodIn_app (goodIn_of _ (by decide +kernel)) ggX2_device_X2_line
set_option maxRecDepth 20000 in
theorem ggX2_device_X2_rouse : GoodIn wsX2_device wsX2_rouse := goodIn_r _ [20, 1, 7, 9, 21, 22, 23, 24, 25, 26, 27, 28, 29, 30, 31, 32, 33, 34, 35, 36, 37, 38, 39, 40, 41, 42, 43, 44] (by decide +kernel) (by decide +kernel)
set_option maxRecDepth 20000 in
theorem gX2_device_X2_rouse : GoodIn wsX2_device (wsV RX2 64 RX2 yX2_rouse wsX2_rouse) := goodIn_app (goodIn_of _ (by decide +kernel)) ggX2_device_X2_rouse
theorem dX2_device_0 : decode cX2_device 0 = .ok (.iload_n 1, 1) := by decide +kernel
theorem dX2_device_1 : decode cX2_device 1 = .ok (.ifCond .lt 46, 3) := by decide +kernel
theorem dX2_device_4 : decode cX2_device 4 = .ok (.iload_n 1, 1) := by decide +kernel
theorem dX2_device_5 : decode cX2_device 5 = .ok (.aload_n 0, 1) := by decide +kernel
theorem dX2_device_6 : decode cX2_device 6 = .ok (.getfield 51, 3) := by decide +kernel
theorem dX2_device_9 : decode cX2_device 9 = .ok (.ishr, 1) := by decide +kernel
theorem dX2_device_10 : decode cX2_device 10 = .ok (.ifCond .ne 37, 3) := by decide +kernel
theorem dX2_device_13 : decode cX2_device 13 = .ok (.iload_n 2, 1) := by decide +kernel
theorem dX2_device_14 : decode cX2_device 14 = .ok (.iconst 1, 1) := by decide +kernel
theorem dX2_device_15 : decode cX2_device 15 = .ok (.if_icmp .lt 32, 3) := by decide +kernel
theorem dX2_device_18 : decode cX2_device 18 = .ok (.iload_n 2, 1) := by decide +kernel
theorem dX2_device_19 : decode cX2_device 19 = .ok (.bipush 20, 2) := by decide +kernel
theorem dX2_device_21 : decode cX2_device 21 = .ok (.if_icmp .gt 26, 3) := by decide +kernel
theorem dX2_device_24 : decode cX2_device 24 = .ok (.iload_n 3, 1) := by decide +kernel
theorem dX2_device_25 : decode cX2_device 25 = .ok (.iconst 1, 1) := by decide +kernel
theorem dX2_device_26 : decode cX2_device 26 = .ok (.if_icmp .lt 21, 3) := by decide +kernel
theorem dX2_device_29 : decode cX2_device 29 = .ok (.iload_n 3, 1) := by decide +kernel
theorem dX2_device_30 : decode cX2_device 30 = .ok (.bipush 20, 2) := by decide +kernel
theorem dX2_device_32 : decode cX2_device 32 = .ok (.if_icmp .gt 15, 3) := by decide +kernel
theorem dX2_device_35 : decode cX2_device 35 = .ok (.iload 4, 2) := by decide +kernel
theorem dX2_device_37 : decode cX2_device 37 = .ok (.ifCond .lt 10, 3) := by decide +kernel
theorem dX2_device_40 : decode cX2_device 40 = .ok (.iload 4, 2) := by decide +kernel
theorem dX2_device_42 : decode cX2_device 42 = .ok (.bipush 50, 2) := by decide +kernel
theorem dX2_device_44 : decode cX2_device 44 = .ok (.if_icmp .le 6, 3) := by decide +kernel
theorem dX2_device_47 : decode cX2_device 47 = .ok (.bipush (-2), 2) := by decide +kernel
theorem dX2_device_49 : decode cX2_device 49 = .ok (.ireturn, 1) := by decide +kernel
theorem dX2_device_50 : decode cX2_device 50 = .ok (.aload_n 0, 1) := by decide +kernel
theorem dX2_device_51 : decode cX2_device 51 = .ok (.getfield 58, 3) := by decide +kernel
theorem dX2_device_54 : decode cX2_device 54 = .ok (.ifCond .eq 6, 3) := by decide +kernel
theorem dX2_device_57 : decode cX2_device 57 = .ok (.bipush (-3), 2) := by decide +kernel
theorem dX2_device_59 : decode cX2_device 59 = .ok (.ireturn, 1) := by decide +kernel
theorem dX2_device_60 : decode cX2_device 60 = .ok (.aload_n 0, 1) := by decide +kernel
theorem dX2_device_61 : decode cX2_device 61 = .ok (.getfield 51, 3) := by decide +kernel
theorem dX2_device_64 : decode cX2_device 64 = .ok (.bipush 12, 2) := by decide +kernel
theorem dX2_device_66 : decode cX2_device 66 = .ok (.if_icmp .ne 6, 3) := by decide +kernel
theorem dX2_device_69 : decode cX2_device 69 = .ok (.bipush (-4), 2) := by decide +kernel
theorem dX2_device_71 : decode cX2_device 71 = .ok (.ireturn, 1) := by decide +kernel
theorem dX2_device_72 : decode cX2_device 72 = .ok (.aload_n 0, 1) := by decide +kernel
theorem dX2_device_73 : decode cX2_device 73 = .ok (.getfield 7, 3) := by decide +kernel
theorem dX2_device_76 : decode cX2_device 76 = .ok (.aload_n 0, 1) := by decide +kernel
theorem dX2_device_77 : decode cX2_device 77 = .ok (.getfield 51, 3) := by decide +kernel
theorem dX2_device_80 : decode cX2_device 80 = .ok (.iload_n 1, 1) := by decide +kernel
theorem dX2_device_81 : decode cX2_device 81 = .ok (.iastore, 1) := by decide +kernel
theorem dX2_device_82 : decode cX2_device 82 = .ok (.aload_n 0, 1) := by decide +kernel
theorem dX2_device_83 : decode cX2_device 83 = .ok (.getfield 13, 3) := by decide +kernel
theorem dX2_device_86 : decode cX2_device 86 = .ok (.aload_n 0, 1) := by decide +kernel
theorem dX2_device_87 : decode cX2_device 87 = .ok (.getfield 51, 3) := by decide +kernel
theorem dX2_device_90 : decode cX2_device 90 = .ok (.iload_n 2, 1) := by decide +kernel
theorem dX2_device_91 : decode cX2_device 91 = .ok (.iastore, 1) := by decide +kernel
theorem dX2_device_92 : decode cX2_device 92 = .ok (.aload_n 0, 1) := by decide +kernel
theorem dX2_device_93 : decode cX2_device 93 = .ok (.getfield 16, 3) := by decide +kernel
theorem dX2_device_96 : decode cX2_device 96 = .ok (.aload_n 0, 1) := by decide +kernel
theorem dX2_device_97 : decode cX2_device 97 = .ok (.getfield 51, 3) := by decide +kernel
theorem dX2_device_100 : decode cX2_device 100 = .ok (.iload_n 3, 1) := by decide +kernel
theorem dX2_device_101 : decode cX2_device 101 = .ok (.iastore, 1) := by decide +kernel
theorem dX2_device_102 : decode cX2_device 102 = .ok (.aload_n 0, 1) := by decide +kernel
theorem dX2_device_103 : decode cX2_device 103 = .ok (.getfield 19, 3) := by decide +kernel
theorem dX2_device_106 : decode cX2_device 106 = .ok (.aload_n 0, 1) := by decide +kernel
theorem dX2_device_107 : decode cX2_device 107 = .ok (.getfield 51, 3) := by decide +kernel
theorem dX2_device_110 : decode cX2_device 110 = .ok (.iload 4, 2) := by decide +kernel
theorem dX2_device_112 : decode cX2_device 112 = .ok (.iastore, 1) := by decide +kernel
theorem dX2_device_113 : decode cX2_device 113 = .ok (.aload_n 0, 1) := by decide +kernel
theorem dX2_device_114 : decode cX2_device 114 = .ok (.getfield 22, 3) := by decide +kernel
theorem dX2_device_117 : decode cX2_device 117 = .ok (.aload_n 0, 1) := by decide +kernel
theorem dX2_device_118 : decode cX2_device 118 = .ok (.getfield 51, 3) := by decide +kernel
theorem dX2_device_121 : decode cX2_device 121 = .ok (.iconst 2, 1) := by decide +kernel
theorem dX2_device_122 : decode cX2_device 122 = .ok (.iastore, 1) := by decide +kernel
theorem dX2_device_123 : decode cX2_device 123 = .ok (.aload_n 0, 1) := by decide +kernel
theorem dX2_device_124 : decode cX2_device 124 = .ok (.getfield 28, 3) := by decide +kernel
theorem dX2_device_127 : decode cX2_device 127 = .ok (.aload_n 0, 1) := by decide +kernel
theorem dX2_device_128 : decode cX2_device 128 = .ok (.getfield 51, 3) := by decide +kernel
theorem dX2_device_131 : decode cX2_device 131 = .ok (.iconst 0, 1) := by decide +kernel
theorem dX2_device_132 : decode cX2_device 132 = .ok (.iastore, 1) := by decide +kernel
theorem dX2_device_133 : decode cX2_device 133 = .ok (.aload_n 0, 1) := by decide +kernel
theorem dX2_device_134 : decode cX2_device 134 = .ok (.getfield 31, 3) := by decide +kernel
theorem dX2_device_137 : decode cX2_device 137 = .ok (.aload_n 0, 1) := by decide +kernel
theorem dX2_device_138 : decode cX2_device 138 = .ok (.getfield 51, 3) := by decide +kernel
theorem dX2_device_141 : decode cX2_device 141 = .ok (.iconst 0, 1) := by decide +kernel
theorem dX2_device_142 : decode cX2_device 142 = .ok (.iastore, 1) := by decide +kernel
theorem dX2_device_143 : decode cX2_device 143 = .ok (.aload_n 0, 1) := by decide +kernel
theorem dX2_device_144 : decode cX2_device 144 = .ok (.getfield 34, 3) := by decide +kernel
theorem dX2_device_147 : decode cX2_device 147 = .ok (.aload_n 0, 1) := by decide +kernel
theorem dX2_device_148 : decode cX2_device 148 = .ok (.getfield 51, 3) := by decide +kernel
theorem dX2_device_151 : decode cX2_device 151 = .ok (.iconst 0, 1) := by decide +kernel
theorem dX2_device_152 : decode cX2_device 152 = .ok (.iastore, 1) := by decide +kernel
theorem dX2_device_153 : decode cX2_device 153 = .ok (.aload_n 0, 1) := by decide +kernel
theorem dX2_device_154 : decode cX2_device 154 = .ok (.getfield 37, 3) := by decide +kernel
theorem dX2_device_157 : decode cX2_device 157 = .ok (.aload_n 0, 1) := by decide +kernel
theorem dX2_device_158 : decode cX2_device 158 = .ok (.getfield 51, 3) := by decide +kernel
theorem dX2_device_161 : decode cX2_device 161 = .ok (.iconst 0, 1) := by decide +kernel
theorem dX2_device_162 : decode cX2_device 162 = .ok (.bastore, 1) := by decide +kernel
theorem dX2_device_163 : decode cX2_device 163 = .ok (.aload_n 0, 1) := by decide +kernel
theorem dX2_device_164 : decode cX2_device 164 = .ok (.dup, 1) := by decide +kernel
theorem dX2_device_165 : decode cX2_device 165 = .ok (.getfield 51, 3) := by decide +kernel
theorem dX2_device_168 : decode cX2_device 168 = .ok (.iconst 1, 1) := by decide +kernel
theorem dX2_device_169 : decode cX2_device 169 = .ok (.iadd, 1) := by decide +kernel
theorem dX2_device_170 : decode cX2_device 170 = .ok (.putfield 51, 3) := by decide +kernel
theorem dX2_device_173 : decode cX2_device 173 = .ok (.aload_n 0, 1) := by decide +kernel
theorem dX2_device_174 : decode cX2_device 174 = .ok (.aload_n 0, 1) := by decide +kernel
theorem dX2_device_175 : decode cX2_device 175 = .ok (.aload_n 0, 1) := by decide +kernel
theorem dX2_device_176 : decode cX2_device 176 = .ok (.getfield 51, 3) := by decide +kernel
theorem dX2_device_179 : decode cX2_device 179 = .ok (.iconst 1, 1) := by decide +kernel
theorem dX2_device_180 : decode cX2_device 180 = .ok (.isub, 1) := by decide +kernel
theorem dX2_device_181 : decode cX2_device 181 = .ok (.invokevirtual 61, 3) := by decide +kernel
theorem dX2_device_184 : decode cX2_device 184 = .ok (.invokevirtual 64, 3) := by decide +kernel
theorem dX2_device_187 : decode cX2_device 187 = .ok (.pop, 1) := by decide +kernel
theorem dX2_device_188 : decode cX2_device 188 = .ok (.aload_n 0, 1) := by decide +kernel
theorem dX2_device_189 : decode cX2_device 189 = .ok (.getfield 51, 3) := by decide +kernel
theorem dX2_device_192 : decode cX2_device 192 = .ok (.iconst 1, 1) := by decide +kernel
theorem dX2_device_193 : decode cX2_device 193 = .ok (.isub, 1) := by decide +kernel
theorem dX2_device_194 : decode cX2_device 194 = .ok (.ireturn, 1) := by decide +kernel
set_option maxRecDepth 20000 in
theorem ggX2_use_X2_none : GoodIn wsX2_use wsX2_none := goodIn_r _ [7, 8, 20, 21, 22, 23, 24, 25, 26, 27, 28, 29, 30, 31, 32, 33, 34, 35, 36, 37, 38, 39, 40, 41, 42, 43] (by decide +kernel) (by decide +kernel)
set_option maxRecDepth 20000 in
theorem gX2_use_X2_none : GoodIn wsX2_use (wsV RX2 67 RX2 yX2_none wsX2_none) := goodIn_app (goodIn_of _ (by decide +kernel)) ggX2_use_X2_none
set_option maxRecDepth 20000 in
theorem ggX2_use_X2_line : GoodIn wsX2_use wsX2_line := goodIn_r _ [12, 13, 20, 21, 22, 23, 24, 25, 26, 27, 28, 29, 30, 31, 32, 33, 34, 35, 36, 37, 38, 39, 40, 41, 42, 43] (by decide +kernel) (by decide +kernel)
set_option maxRecDepth 20000 in
theorem gX2_use_X2_line : GoodIn wsX2_use (wsV RX2 61 RX2 yX2_line wsX2_line) := goodIn_app (goodIn_of _ (by decide +kernel)) ggX2_use_X2_line
set_option maxRecDepth 20000 in
theorem ggX2_use_X2_rouse : GoodIn wsX2_use wsX2_rouse := goodIn_r _ [17, 8, 18, 19, 20, 21, 22, 23, 24, 25, 26, 27, 28, 29, 30, 31, 32, 33, 34, 35, 36, 37, 38, 39, 40, 41, 42, 43] (by decide +kernel) (by decide +kernel)
set_option maxRecDepth 20000 in
theorem gX2_use_X2_rouse : GoodIn wsX2_use (wsV RX2 64 RX2 yX2_rouse wsX2_rouse) := goodIn_app (goodIn_of _ (by decide +kernel)) ggX2_use_X2_rouse
theorem dX2_use_0 : decode cX2_use 0 = .ok (.aload_n 0, 1) := by decide +kernel
theorem dX2_use_1 : decode cX2_use 1 = .ok (.iload_n 1, 1) := by decide +kernel
theorem dX2_use_2 : decode cX2_use 2 = .ok (.invokevirtual 67, 3) := by decide +kernel
theorem dX2_use_5 : decode cX2_use 5 = .ok (.ifCond .eq 6, 3) := by decide +kernel
theorem dX2_use_8 : decode cX2_use 8 = .ok (.bipush (-2), 2) := by decide +kernel
theorem dX2_use_10 : decode cX2_use 10 = .ok (.ireturn, 1) := by decide +kernel
theorem dX2_use_11 : decode cX2_use 11 = .ok (.aload_n 0, 1) := by decide +kernel
theorem dX2_use_12 : decode cX2_use 12 = .ok (.getfield 58, 3) := by decide +kernel
theorem dX2_use_15 : decode cX2_use 15 = .ok (.ifCond .eq 6, 3) := by decide +kernel
theorem dX2_use_18 : decode cX2_use 18 = .ok (.bipush (-3), 2) := by decide +kernel
theorem dX2_use_20 : decode cX2_use 20 = .ok (.ireturn, 1) := by decide +kernel
theorem dX2_use_21 : decode cX2_use 21 = .ok (.aload_n 0, 1) := by decide +kernel
theorem dX2_use_22 : decode cX2_use 22 = .ok (.getfield 28, 3) := by decide +kernel
theorem dX2_use_25 : decode cX2_use 25 = .ok (.iload_n 1, 1) := by decide +kernel
theorem dX2_use_26 : decode cX2_use 26 = .ok (.dup2, 1) := by decide +kernel
theorem dX2_use_27 : decode cX2_use 27 = .ok (.iaload, 1) := by decide +kernel
theorem dX2_use_28 : decode cX2_use 28 = .ok (.iconst 1, 1) := by decide +kernel
theorem dX2_use_29 : decode cX2_use 29 = .ok (.iadd, 1) := by decide +kernel
theorem dX2_use_30 : decode cX2_use 30 = .ok (.iastore, 1) := by decide +kernel
theorem dX2_use_31 : decode cX2_use 31 = .ok (.aload_n 0, 1) := by decide +kernel
theorem dX2_use_32 : decode cX2_use 32 = .ok (.aload_n 0, 1) := by decide +kernel
theorem dX2_use_33 : decode cX2_use 33 = .ok (.iload_n 1, 1) := by decide +kernel
theorem dX2_use_34 : decode cX2_use 34 = .ok (.invokevirtual 61, 3) := by decide +kernel
theorem dX2_use_37 : decode cX2_use 37 = .ok (.invokevirtual 64, 3) := by decide +kernel
theorem dX2_use_40 : decode cX2_use 40 = .ok (.ireturn, 1) := by decide +kernel
set_option maxRecDepth 20000 in
theorem ggX2_release_X2_none : GoodIn wsX2_release wsX2_none := goodIn_r _ [7, 8, 9, 10, 11, 12, 13, 14, 15, 16, 17, 18, 19, 20, 21, 22, 23, 24, 25, 26, 27, 28, 29, 30, 31, 32] (by decide +kernel) (by decide +kernel)
set_option maxRecDepth 20000 in
theorem gX2_release_X2_none : GoodIn wsX2_release (wsV RX2 67 RX2 yX2_none wsX2_none) := goodIn_app (goodIn_of _ (by decide +kernel)) ggX2_release_X2_none
theorem dX2_release_0 : decode cX2_release 0 = .ok (.aload_n 0, 1) := by decide +kernel
theorem dX2_release_1 : decode cX2_release 1 = .ok (.iload_n 1, 1) := by decide +kernel
theorem dX2_release_2 : decode cX2_release 2 = .ok (.invokevirtual 67, 3) := by decide +kernel
theorem dX2_release_5 : decode cX2_release 5 = .ok (.ifCond .eq 6, 3) := by decide +kernel
theorem dX2_release_8 : decode cX2_release 8 = .ok (.bipush (-2), 2) := by decide +kernel
theorem dX2_release_10 : decode cX2_release 10 = .ok (.ireturn, 1) := by decide +kernel
theorem dX2_release_11 : decode cX2_release 11 = .ok (.aload_n 0, 1) := by decide +kernel
theorem dX2_release_12 : decode cX2_release 12 = .ok (.getfield 58, 3) := by decide +kernel
theorem dX2_release_15 : decode cX2_release 15 = .ok (.ifCond .eq 6, 3) := by decide +kernel
theorem dX2_release_18 : decode cX2_release 18 = .ok (.bipush (-3), 2) := by decide +kernel
theorem dX2_release_20 : decode cX2_release 20 = .ok (.ireturn, 1) := by decide +kernel
theorem dX2_release_21 : decode cX2_release 21 = .ok (.aload_n 0, 1) := by decide +kernel
theorem dX2_release_22 : decode cX2_release 22 = .ok (.getfield 28, 3) := by decide +kernel
theorem dX2_release_25 : decode cX2_release 25 = .ok (.iload_n 1, 1) := by decide +kernel
theorem dX2_release_26 : decode cX2_release 26 = .ok (.iaload, 1) := by decide +kernel
theorem dX2_release_27 : decode cX2_release 27 = .ok (.ifCond .ne 5, 3) := by decide +kernel
theorem dX2_release_30 : decode cX2_release 30 = .ok (.iconst (-1), 1) := by decide +kernel
theorem dX2_release_31 : decode cX2_release 31 = .ok (.ireturn, 1) := by decide +kernel
theorem dX2_release_32 : decode cX2_release 32 = .ok (.aload_n 0, 1) := by decide +kernel
theorem dX2_release_33 : decode cX2_release 33 = .ok (.getfield 28, 3) := by decide +kernel
theorem dX2_release_36 : decode cX2_release 36 = .ok (.iload_n 1, 1) := by decide +kernel
theorem dX2_release_37 : decode cX2_release 37 = .ok (.dup2, 1) := by decide +kernel
theorem dX2_release_38 : decode cX2_release 38 = .ok (.iaload, 1) := by decide +kernel
theorem dX2_release_39 : decode cX2_release 39 = .ok (.iconst 1, 1) := by decide +kernel
theorem dX2_release_40 : decode cX2_release 40 = .ok (.isub, 1) := by decide +kernel
theorem dX2_release_41 : decode cX2_release 41 = .ok (.iastore, 1) := by decide +kernel
theorem dX2_release_42 : decode cX2_release 42 = .ok (.aload_n 0, 1) := by decide +kernel
theorem dX2_release_43 : decode cX2_release 43 = .ok (.getfield 28, 3) := by decide +kernel
theorem dX2_release_46 : decode cX2_release 46 = .ok (.iload_n 1, 1) := by decide +kernel
theorem dX2_release_47 : decode cX2_release 47 = .ok (.iaload, 1) := by decide +kernel
theorem dX2_release_48 : decode cX2_release 48 = .ok (.ireturn, 1) := by decide +kernel
set_option maxRecDepth 20000 in
theorem ggX2_waker_X2_none : GoodIn wsX2_waker wsX2_none := goodIn_r _ [6, 7, 8, 9, 10, 11, 12, 13, 14, 15, 16, 17, 18, 19, 20, 21, 22, 23, 24, 25, 26, 27, 28, 29, 30, 31] (by decide +kernel) (by decide +kernel)
set_option maxRecDepth 20000 in
theorem gX2_waker_X2_none : GoodIn wsX2_waker (wsV RX2 67 RX2 yX2_none wsX2_none) := goodIn_app (goodIn_of _ (by decide +kernel)) ggX2_waker_X2_none
theorem dX2_waker_0 : decode cX2_waker 0 = .ok (.aload_n 0, 1) := by decide +kernel
theorem dX2_waker_1 : decode cX2_waker 1 = .ok (.iload_n 1, 1) := by decide +kernel
theorem dX2_waker_2 : decode cX2_waker 2 = .ok (.invokevirtual 67, 3) := by decide +kernel
theorem dX2_waker_5 : decode cX2_waker 5 = .ok (.ifCond .eq 5, 3) := by decide +kernel
theorem dX2_waker_8 : decode cX2_waker 8 = .ok (.iconst 0, 1) := by decide +kernel
theorem dX2_waker_9 : decode cX2_waker 9 = .ok (.ireturn, 1) := by decide +kernel
theorem dX2_waker_10 : decode cX2_waker 10 = .ok (.aload_n 0, 1) := by decide +kernel
theorem dX2_waker_11 : decode cX2_waker 11 = .ok (.getfield 37, 3) := by decide +kernel
theorem dX2_waker_14 : decode cX2_waker 14 = .ok (.iload_n 1, 1) := by decide +kernel
theorem dX2_waker_15 : decode cX2_waker 15 = .ok (.iload_n 2, 1) := by decide +kernel
theorem dX2_waker_16 : decode cX2_waker 16 = .ok (.bastore, 1) := by decide +kernel
theorem dX2_waker_17 : decode cX2_waker 17 = .ok (.iconst 1, 1) := by decide +kernel
theorem dX2_waker_18 : decode cX2_waker 18 = .ok (.ireturn, 1) := by decide +kernel
set_option maxRecDepth 20000 in
theorem ggX2_refuse_X2_none : GoodIn wsX2_refuse wsX2_none := goodIn_r _ [6, 7, 8, 9, 10, 11, 12, 13, 14, 15, 16, 17, 18, 19, 20, 21, 22, 23, 24, 25, 26, 27, 28, 29, 30, 31] (by decide +kernel) (by decide +kernel)
set_option maxRecDepth 20000 in
theorem gX2_refuse_X2_none : GoodIn wsX2_refuse (wsV RX2 67 RX2 yX2_none wsX2_none) := goodIn_app (goodIn_of _ (by decide +kernel)) ggX2_refuse_X2_none
theorem dX2_refuse_0 : decode cX2_refuse 0 = .ok (.aload_n 0, 1) := by decide +kernel
theorem dX2_refuse_1 : decode cX2_refuse 1 = .ok (.iload_n 1, 1) := by decide +kernel
theorem dX2_refuse_2 : decode cX2_refuse 2 = .ok (.invokevirtual 67, 3) := by decide +kernel
theorem dX2_refuse_5 : decode cX2_refuse 5 = .ok (.ifCond .ne 13, 3) := by decide +kernel
theorem dX2_refuse_8 : decode cX2_refuse 8 = .ok (.iload_n 2, 1) := by decide +kernel
theorem dX2_refuse_9 : decode cX2_refuse 9 = .ok (.ifCond .lt 9, 3) := by decide +kernel
theorem dX2_refuse_12 : decode cX2_refuse 12 = .ok (.iload_n 2, 1) := by decide +kernel
theorem dX2_refuse_13 : decode cX2_refuse 13 = .ok (.bipush 9, 2) := by decide +kernel
theorem dX2_refuse_15 : decode cX2_refuse 15 = .ok (.if_icmp .le 5, 3) := by decide +kernel
theorem dX2_refuse_18 : decode cX2_refuse 18 = .ok (.iconst 0, 1) := by decide +kernel
theorem dX2_refuse_19 : decode cX2_refuse 19 = .ok (.ireturn, 1) := by decide +kernel
theorem dX2_refuse_20 : decode cX2_refuse 20 = .ok (.aload_n 0, 1) := by decide +kernel
theorem dX2_refuse_21 : decode cX2_refuse 21 = .ok (.getfield 34, 3) := by decide +kernel
theorem dX2_refuse_24 : decode cX2_refuse 24 = .ok (.iload_n 1, 1) := by decide +kernel
theorem dX2_refuse_25 : decode cX2_refuse 25 = .ok (.iload_n 2, 1) := by decide +kernel
theorem dX2_refuse_26 : decode cX2_refuse 26 = .ok (.iastore, 1) := by decide +kernel
theorem dX2_refuse_27 : decode cX2_refuse 27 = .ok (.iconst 1, 1) := by decide +kernel
theorem dX2_refuse_28 : decode cX2_refuse 28 = .ok (.ireturn, 1) := by decide +kernel
theorem dX2_become_0 : decode cX2_become 0 = .ok (.aload_n 0, 1) := by decide +kernel
theorem dX2_become_1 : decode cX2_become 1 = .ok (.getfield 22, 3) := by decide +kernel
theorem dX2_become_4 : decode cX2_become 4 = .ok (.iload_n 1, 1) := by decide +kernel
theorem dX2_become_5 : decode cX2_become 5 = .ok (.iload_n 2, 1) := by decide +kernel
theorem dX2_become_6 : decode cX2_become 6 = .ok (.iastore, 1) := by decide +kernel
theorem dX2_become_7 : decode cX2_become 7 = .ok (.aload_n 0, 1) := by decide +kernel
theorem dX2_become_8 : decode cX2_become 8 = .ok (.dup, 1) := by decide +kernel
theorem dX2_become_9 : decode cX2_become 9 = .ok (.getfield 71, 3) := by decide +kernel
theorem dX2_become_12 : decode cX2_become 12 = .ok (.iconst 1, 1) := by decide +kernel
theorem dX2_become_13 : decode cX2_become 13 = .ok (.iadd, 1) := by decide +kernel
theorem dX2_become_14 : decode cX2_become 14 = .ok (.putfield 71, 3) := by decide +kernel
theorem dX2_become_17 : decode cX2_become 17 = .ok (.return_, 1) := by decide +kernel
set_option maxRecDepth 20000 in
theorem ggX2_lastAwake_X2_earlier : GoodIn wsX2_lastAwake wsX2_earlier := goodIn_r _ [7, 8, 9, 10, 6, 11, 12, 1, 13, 14, 15, 16, 17, 18, 19, 20, 21, 22, 23, 24, 25, 26, 27, 28, 29, 30, 31, 32, 33, 34, 35, 36] (by decide +kernel) (by decide +kernel)
set_option maxRecDepth 20000 in
theorem gX2_lastAwake_X2_earlier : GoodIn wsX2_lastAwake (wsV RX2 74 RX2 yX2_earlier wsX2_earlier) := goodIn_app (goodIn_of _ (by decide +kernel)) ggX2_lastAwake_X2_earlier
theorem dX2_lastAwake_0 : decode cX2_lastAwake 0 = .ok (.iconst (-1), 1) := by decide +kernel
theorem dX2_lastAwake_1 : decode cX2_lastAwake 1 = .ok (.istore_n 1, 1) := by decide +kernel
theorem dX2_lastAwake_2 : decode cX2_lastAwake 2 = .ok (.iconst 0, 1) := by decide +kernel
theorem dX2_lastAwake_3 : decode cX2_lastAwake 3 = .ok (.istore_n 2, 1) := by decide +kernel
theorem dX2_lastAwake_4 : decode cX2_lastAwake 4 = .ok (.iload_n 2, 1) := by decide +kernel
theorem dX2_lastAwake_5 : decode cX2_lastAwake 5 = .ok (.aload_n 0, 1) := by decide +kernel
theorem dX2_lastAwake_6 : decode cX2_lastAwake 6 = .ok (.getfield 51, 3) := by decide +kernel
theorem dX2_lastAwake_9 : decode cX2_lastAwake 9 = .ok (.if_icmp .ge 33, 3) := by decide +kernel
theorem dX2_lastAwake_12 : decode cX2_lastAwake 12 = .ok (.aload_n 0, 1) := by decide +kernel
theorem dX2_lastAwake_13 : decode cX2_lastAwake 13 = .ok (.getfield 22, 3) := by decide +kernel
theorem dX2_lastAwake_16 : decode cX2_lastAwake 16 = .ok (.iload_n 2, 1) := by decide +kernel
theorem dX2_lastAwake_17 : decode cX2_lastAwake 17 = .ok (.iaload, 1) := by decide +kernel
theorem dX2_lastAwake_18 : decode cX2_lastAwake 18 = .ok (.ifCond .eq 18, 3) := by decide +kernel
theorem dX2_lastAwake_21 : decode cX2_lastAwake 21 = .ok (.iload_n 1, 1) := by decide +kernel
theorem dX2_lastAwake_22 : decode cX2_lastAwake 22 = .ok (.ifCond .lt 12, 3) := by decide +kernel
theorem dX2_lastAwake_25 : decode cX2_lastAwake 25 = .ok (.aload_n 0, 1) := by decide +kernel
theorem dX2_lastAwake_26 : decode cX2_lastAwake 26 = .ok (.iload_n 1, 1) := by decide +kernel
theorem dX2_lastAwake_27 : decode cX2_lastAwake 27 = .ok (.iload_n 2, 1) := by decide +kernel
theorem dX2_lastAwake_28 : decode cX2_lastAwake 28 = .ok (.invokevirtual 74, 3) := by decide +kernel
theorem dX2_lastAwake_31 : decode cX2_lastAwake 31 = .ok (.ifCond .eq 5, 3) := by decide +kernel
theorem dX2_lastAwake_34 : decode cX2_lastAwake 34 = .ok (.iload_n 2, 1) := by decide +kernel
theorem dX2_lastAwake_35 : decode cX2_lastAwake 35 = .ok (.istore_n 1, 1) := by decide +kernel
theorem dX2_lastAwake_36 : decode cX2_lastAwake 36 = .ok (.iinc 2 1, 3) := by decide +kernel
theorem dX2_lastAwake_39 : decode cX2_lastAwake 39 = .ok (.goto (-35), 3) := by decide +kernel
theorem dX2_lastAwake_42 : decode cX2_lastAwake 42 = .ok (.iload_n 1, 1) := by decide +kernel
theorem dX2_lastAwake_43 : decode cX2_lastAwake 43 = .ok (.ireturn, 1) := by decide +kernel
set_option maxRecDepth 20000 in
theorem ggX2_firstOff_X2_earlier : GoodIn wsX2_firstOff wsX2_earlier := goodIn_r _ [7, 8, 9, 10, 6, 11, 12, 1, 13, 14, 15, 16, 17, 18, 19, 20, 21, 22, 23, 24, 25, 26, 27, 28, 29, 30, 31, 32, 33, 34, 35, 36] (by decide +kernel) (by decide +kernel)
set_option maxRecDepth 20000 in
theorem gX2_firstOff_X2_earlier : GoodIn wsX2_firstOff (wsV RX2 74 RX2 yX2_earlier wsX2_earlier) := goodIn_app (goodIn_of _ (by decide +kernel)) ggX2_firstOff_X2_earlier
theorem dX2_firstOff_0 : decode cX2_firstOff 0 = .ok (.iconst (-1), 1) := by decide +kernel
theorem dX2_firstOff_1 : decode cX2_firstOff 1 = .ok (.istore_n 1, 1) := by decide +kernel
theorem dX2_firstOff_2 : decode cX2_firstOff 2 = .ok (.iconst 0, 1) := by decide +kernel
theorem dX2_firstOff_3 : decode cX2_firstOff 3 = .ok (.istore_n 2, 1) := by decide +kernel
theorem dX2_firstOff_4 : decode cX2_firstOff 4 = .ok (.iload_n 2, 1) := by decide +kernel
theorem dX2_firstOff_5 : decode cX2_firstOff 5 = .ok (.aload_n 0, 1) := by decide +kernel
theorem dX2_firstOff_6 : decode cX2_firstOff 6 = .ok (.getfield 51, 3) := by decide +kernel
theorem dX2_firstOff_9 : decode cX2_firstOff 9 = .ok (.if_icmp .ge 33, 3) := by decide +kernel
theorem dX2_firstOff_12 : decode cX2_firstOff 12 = .ok (.aload_n 0, 1) := by decide +kernel
theorem dX2_firstOff_13 : decode cX2_firstOff 13 = .ok (.getfield 22, 3) := by decide +kernel
theorem dX2_firstOff_16 : decode cX2_firstOff 16 = .ok (.iload_n 2, 1) := by decide +kernel
theorem dX2_firstOff_17 : decode cX2_firstOff 17 = .ok (.iaload, 1) := by decide +kernel
theorem dX2_firstOff_18 : decode cX2_firstOff 18 = .ok (.ifCond .ne 18, 3) := by decide +kernel
theorem dX2_firstOff_21 : decode cX2_firstOff 21 = .ok (.iload_n 1, 1) := by decide +kernel
theorem dX2_firstOff_22 : decode cX2_firstOff 22 = .ok (.ifCond .lt 12, 3) := by decide +kernel
theorem dX2_firstOff_25 : decode cX2_firstOff 25 = .ok (.aload_n 0, 1) := by decide +kernel
theorem dX2_firstOff_26 : decode cX2_firstOff 26 = .ok (.iload_n 2, 1) := by decide +kernel
theorem dX2_firstOff_27 : decode cX2_firstOff 27 = .ok (.iload_n 1, 1) := by decide +kernel
theorem dX2_firstOff_28 : decode cX2_firstOff 28 = .ok (.invokevirtual 74, 3) := by decide +kernel
theorem dX2_firstOff_31 : decode cX2_firstOff 31 = .ok (.ifCond .eq 5, 3) := by decide +kernel
theorem dX2_firstOff_34 : decode cX2_firstOff 34 = .ok (.iload_n 2, 1) := by decide +kernel
theorem dX2_firstOff_35 : decode cX2_firstOff 35 = .ok (.istore_n 1, 1) := by decide +kernel
theorem dX2_firstOff_36 : decode cX2_firstOff 36 = .ok (.iinc 2 1, 3) := by decide +kernel
theorem dX2_firstOff_39 : decode cX2_firstOff 39 = .ok (.goto (-35), 3) := by decide +kernel
theorem dX2_firstOff_42 : decode cX2_firstOff 42 = .ok (.iload_n 1, 1) := by decide +kernel
theorem dX2_firstOff_43 : decode cX2_firstOff 43 = .ok (.ireturn, 1) := by decide +kernel
set_option maxRecDepth 20000 in
theorem ggX2_sink_X2_lastAwake : GoodIn wsX2_sink wsX2_lastAwake := goodIn_r _ [11, 12, 3, 13, 14, 15, 10, 16, 17, 18, 19, 20, 21, 27, 28, 29, 30, 31, 32, 33, 34, 35, 36, 37, 38, 39, 40, 41, 42, 43, 44, 45, 46, 47, 48, 49, 50] (by decide +kernel) (by decide +kernel)
set_option maxRecDepth 20000 in
theorem gX2_sink_X2_lastAwake : GoodIn wsX2_sink (wsV RX2 78 RX2 yX2_lastAwake wsX2_lastAwake) := goodIn_app (goodIn_of _ (by decide +kernel)) ggX2_sink_X2_lastAwake
set_option maxRecDepth 20000 in
theorem ggX2_sink_X2_become : GoodIn wsX2_sink wsX2_become := goodIn_r _ [25, 3, 26, 27, 28, 29, 30, 31, 32, 33, 34, 35, 36, 37, 38, 39, 40, 41, 42, 43, 44, 45, 46, 47, 48, 49, 50] (by decide +kernel) (by decide +kernel)
set_option maxRecDepth 20000 in
theorem gX2_sink_X2_become : GoodIn wsX2_sink (wsV RX2 85 RX2 yX2_become wsX2_become) := goodIn_app (goodIn_of _ (by decide +kernel)) ggX2_sink_X2_become
theorem dX2_sink_0 : decode cX2_sink 0 = .ok (.aload_n 0, 1) := by decide +kernel
theorem dX2_sink_1 : decode cX2_sink 1 = .ok (.invokevirtual 78, 3) := by decide +kernel
theorem dX2_sink_4 : decode cX2_sink 4 = .ok (.istore_n 1, 1) := by decide +kernel
theorem dX2_sink_5 : decode cX2_sink 5 = .ok (.iload_n 1, 1) := by decide +kernel
theorem dX2_sink_6 : decode cX2_sink 6 = .ok (.ifCond .ge 21, 3) := by decide +kernel
theorem dX2_sink_9 : decode cX2_sink 9 = .ok (.aload_n 0, 1) := by decide +kernel
theorem dX2_sink_10 : decode cX2_sink 10 = .ok (.iconst 2, 1) := by decide +kernel
theorem dX2_sink_11 : decode cX2_sink 11 = .ok (.putfield 58, 3) := by decide +kernel
theorem dX2_sink_14 : decode cX2_sink 14 = .ok (.aload_n 0, 1) := by decide +kernel
theorem dX2_sink_15 : decode cX2_sink 15 = .ok (.dup, 1) := by decide +kernel
theorem dX2_sink_16 : decode cX2_sink 16 = .ok (.getfield 82, 3) := by decide +kernel
theorem dX2_sink_19 : decode cX2_sink 19 = .ok (.iconst 1, 1) := by decide +kernel
theorem dX2_sink_20 : decode cX2_sink 20 = .ok (.iadd, 1) := by decide +kernel
theorem dX2_sink_21 : decode cX2_sink 21 = .ok (.putfield 82, 3) := by decide +kernel
theorem dX2_sink_24 : decode cX2_sink 24 = .ok (.goto 37, 3) := by decide +kernel
theorem dX2_sink_27 : decode cX2_sink 27 = .ok (.aload_n 0, 1) := by decide +kernel
theorem dX2_sink_28 : decode cX2_sink 28 = .ok (.getfield 22, 3) := by decide +kernel
theorem dX2_sink_31 : decode cX2_sink 31 = .ok (.iload_n 1, 1) := by decide +kernel
theorem dX2_sink_32 : decode cX2_sink 32 = .ok (.iaload, 1) := by decide +kernel
theorem dX2_sink_33 : decode cX2_sink 33 = .ok (.iconst 1, 1) := by decide +kernel
theorem dX2_sink_34 : decode cX2_sink 34 = .ok (.if_icmp .ne 12, 3) := by decide +kernel
theorem dX2_sink_37 : decode cX2_sink 37 = .ok (.aload_n 0, 1) := by decide +kernel
theorem dX2_sink_38 : decode cX2_sink 38 = .ok (.iload_n 1, 1) := by decide +kernel
theorem dX2_sink_39 : decode cX2_sink 39 = .ok (.iconst 0, 1) := by decide +kernel
theorem dX2_sink_40 : decode cX2_sink 40 = .ok (.invokevirtual 85, 3) := by decide +kernel
theorem dX2_sink_43 : decode cX2_sink 43 = .ok (.goto 18, 3) := by decide +kernel
theorem dX2_sink_46 : decode cX2_sink 46 = .ok (.aload_n 0, 1) := by decide +kernel
theorem dX2_sink_47 : decode cX2_sink 47 = .ok (.iload_n 1, 1) := by decide +kernel
theorem dX2_sink_48 : decode cX2_sink 48 = .ok (.putfield 44, 3) := by decide +kernel
theorem dX2_sink_51 : decode cX2_sink 51 = .ok (.aload_n 0, 1) := by decide +kernel
theorem dX2_sink_52 : decode cX2_sink 52 = .ok (.aload_n 0, 1) := by decide +kernel
theorem dX2_sink_53 : decode cX2_sink 53 = .ok (.getfield 13, 3) := by decide +kernel
theorem dX2_sink_56 : decode cX2_sink 56 = .ok (.iload_n 1, 1) := by decide +kernel
theorem dX2_sink_57 : decode cX2_sink 57 = .ok (.iaload, 1) := by decide +kernel
theorem dX2_sink_58 : decode cX2_sink 58 = .ok (.putfield 89, 3) := by decide +kernel
theorem dX2_sink_61 : decode cX2_sink 61 = .ok (.return_, 1) := by decide +kernel
set_option maxRecDepth 20000 in
theorem ggX2_rise_X2_firstOff : GoodIn wsX2_rise wsX2_firstOff := goodIn_r _ [10, 11, 12, 13, 14, 15, 9, 16, 17, 18, 19, 20, 21, 27, 28, 29, 30, 31, 32, 33, 34, 35, 36, 37, 38, 39, 40, 41, 42, 43, 44, 45, 46, 47, 48, 49, 50] (by decide +kernel) (by decide +kernel)
set_option maxRecDepth 20000 in
theorem gX2_rise_X2_firstOff : GoodIn wsX2_rise (wsV RX2 92 RX2 yX2_firstOff wsX2_firstOff) := goodIn_app (goodIn_of _ (by decide +kernel)) ggX2_rise_X2_firstOff
set_option maxRecDepth 20000 in
theorem ggX2_rise_X2_become : GoodIn wsX2_rise wsX2_become := goodIn_r _ [25, 12, 26, 27, 28, 29, 30, 31, 32, 33, 34, 35, 36, 37, 38, 39, 40, 41, 42, 43, 44, 45, 46, 47, 48, 49, 50] (by decide +kernel) (by decide +kernel)
set_option maxRecDepth 20000 in
theorem gX2_rise_X2_become : GoodIn wsX2_rise (wsV RX2 85 RX2 yX2_become wsX2_become) := goodIn_app (goodIn_of _ (by decide +kernel)) ggX2_rise_X2_become
theorem dX2_rise_0 : decode cX2_rise 0 = .ok (.aload_n 0, 1) := by decide +kernel
theorem dX2_rise_1 : decode cX2_rise 1 = .ok (.invokevirtual 92, 3) := by decide +kernel
theorem dX2_rise_4 : decode cX2_rise 4 = .ok (.istore_n 1, 1) := by decide +kernel
theorem dX2_rise_5 : decode cX2_rise 5 = .ok (.iload_n 1, 1) := by decide +kernel
theorem dX2_rise_6 : decode cX2_rise 6 = .ok (.ifCond .ge 11, 3) := by decide +kernel
theorem dX2_rise_9 : decode cX2_rise 9 = .ok (.aload_n 0, 1) := by decide +kernel
theorem dX2_rise_10 : decode cX2_rise 10 = .ok (.iconst 0, 1) := by decide +kernel
theorem dX2_rise_11 : decode cX2_rise 11 = .ok (.putfield 58, 3) := by decide +kernel
theorem dX2_rise_14 : decode cX2_rise 14 = .ok (.goto 37, 3) := by decide +kernel
theorem dX2_rise_17 : decode cX2_rise 17 = .ok (.aload_n 0, 1) := by decide +kernel
theorem dX2_rise_18 : decode cX2_rise 18 = .ok (.getfield 25, 3) := by decide +kernel
theorem dX2_rise_21 : decode cX2_rise 21 = .ok (.iload_n 1, 1) := by decide +kernel
theorem dX2_rise_22 : decode cX2_rise 22 = .ok (.iaload, 1) := by decide +kernel
theorem dX2_rise_23 : decode cX2_rise 23 = .ok (.iconst 1, 1) := by decide +kernel
theorem dX2_rise_24 : decode cX2_rise 24 = .ok (.if_icmp .ne 12, 3) := by decide +kernel
theorem dX2_rise_27 : decode cX2_rise 27 = .ok (.aload_n 0, 1) := by decide +kernel
theorem dX2_rise_28 : decode cX2_rise 28 = .ok (.iload_n 1, 1) := by decide +kernel
theorem dX2_rise_29 : decode cX2_rise 29 = .ok (.iconst 1, 1) := by decide +kernel
theorem dX2_rise_30 : decode cX2_rise 30 = .ok (.invokevirtual 85, 3) := by decide +kernel
theorem dX2_rise_33 : decode cX2_rise 33 = .ok (.goto 18, 3) := by decide +kernel
theorem dX2_rise_36 : decode cX2_rise 36 = .ok (.aload_n 0, 1) := by decide +kernel
theorem dX2_rise_37 : decode cX2_rise 37 = .ok (.iload_n 1, 1) := by decide +kernel
theorem dX2_rise_38 : decode cX2_rise 38 = .ok (.putfield 44, 3) := by decide +kernel
theorem dX2_rise_41 : decode cX2_rise 41 = .ok (.aload_n 0, 1) := by decide +kernel
theorem dX2_rise_42 : decode cX2_rise 42 = .ok (.aload_n 0, 1) := by decide +kernel
theorem dX2_rise_43 : decode cX2_rise 43 = .ok (.getfield 16, 3) := by decide +kernel
theorem dX2_rise_46 : decode cX2_rise 46 = .ok (.iload_n 1, 1) := by decide +kernel
theorem dX2_rise_47 : decode cX2_rise 47 = .ok (.iaload, 1) := by decide +kernel
theorem dX2_rise_48 : decode cX2_rise 48 = .ok (.putfield 89, 3) := by decide +kernel
theorem dX2_rise_51 : decode cX2_rise 51 = .ok (.return_, 1) := by decide +kernel
set_option maxRecDepth 20000 in
theorem ggX2_follow_X2_sink : GoodIn wsX2_follow wsX2_sink := goodIn_r _ [7, 2, 8, 9, 1, 10, 11, 12, 13, 14, 6, 15, 16, 17, 18, 19, 20, 21, 22, 23, 24, 25, 26, 27, 28, 29, 30, 41, 42, 43, 44, 45, 46, 47, 48, 49, 50, 51, 52, 53, 54, 55, 56, 57, 58, 59, 60, 61, 62, 63, 64] (by decide +kernel) (by decide +kernel)
set_option maxRecDepth 20000 in
theorem gX2_follow_X2_sink : GoodIn wsX2_follow (wsV RX2 95 RX2 yX2_sink wsX2_sink) := goodIn_app (goodIn_of _ (by decide +kernel)) ggX2_follow_X2_sink
set_option maxRecDepth 20000 in
theorem ggX2_follow_X2_rise : GoodIn wsX2_follow wsX2_rise := goodIn_r _ [34, 2, 35, 1, 36, 11, 37, 38, 39, 6, 40, 16, 9, 17, 18, 19, 20, 21, 22, 23, 24, 25, 26, 27, 28, 29, 30, 41, 42, 43, 44, 45, 46, 47, 48, 49, 50, 51, 52, 53, 54, 55, 56, 57, 58, 59, 60, 61, 62, 63, 64] (by decide +kernel) (by decide +kernel)
set_option maxRecDepth 20000 in
theorem gX2_follow_X2_rise : GoodIn wsX2_follow (wsV RX2 98 RX2 yX2_rise wsX2_rise) := goodIn_app (goodIn_of _ (by decide +kernel)) ggX2_follow_X2_rise
theorem dX2_follow_0 : decode cX2_follow 0 = .ok (.iconst 0, 1) := by decide +kernel
theorem dX2_follow_1 : decode cX2_follow 1 = .ok (.istore_n 1, 1) := by decide +kernel
theorem dX2_follow_2 : decode cX2_follow 2 = .ok (.iload_n 1, 1) := by decide +kernel
theorem dX2_follow_3 : decode cX2_follow 3 = .ok (.bipush 40, 2) := by decide +kernel
theorem dX2_follow_5 : decode cX2_follow 5 = .ok (.if_icmp .ge 51, 3) := by decide +kernel
theorem dX2_follow_8 : decode cX2_follow 8 = .ok (.aload_n 0, 1) := by decide +kernel
theorem dX2_follow_9 : decode cX2_follow 9 = .ok (.getfield 44, 3) := by decide +kernel
theorem dX2_follow_12 : decode cX2_follow 12 = .ok (.ifCond .ge 44, 3) := by decide +kernel
theorem dX2_follow_15 : decode cX2_follow 15 = .ok (.aload_n 0, 1) := by decide +kernel
theorem dX2_follow_16 : decode cX2_follow 16 = .ok (.getfield 58, 3) := by decide +kernel
theorem dX2_follow_19 : decode cX2_follow 19 = .ok (.iconst 1, 1) := by decide +kernel
theorem dX2_follow_20 : decode cX2_follow 20 = .ok (.if_icmp .eq 11, 3) := by decide +kernel
theorem dX2_follow_23 : decode cX2_follow 23 = .ok (.aload_n 0, 1) := by decide +kernel
theorem dX2_follow_24 : decode cX2_follow 24 = .ok (.getfield 58, 3) := by decide +kernel
theorem dX2_follow_27 : decode cX2_follow 27 = .ok (.iconst 2, 1) := by decide +kernel
theorem dX2_follow_28 : decode cX2_follow 28 = .ok (.if_icmp .le 28, 3) := by decide +kernel
theorem dX2_follow_31 : decode cX2_follow 31 = .ok (.aload_n 0, 1) := by decide +kernel
theorem dX2_follow_32 : decode cX2_follow 32 = .ok (.getfield 58, 3) := by decide +kernel
theorem dX2_follow_35 : decode cX2_follow 35 = .ok (.iconst 1, 1) := by decide +kernel
theorem dX2_follow_36 : decode cX2_follow 36 = .ok (.if_icmp .ne 10, 3) := by decide +kernel
theorem dX2_follow_39 : decode cX2_follow 39 = .ok (.aload_n 0, 1) := by decide +kernel
theorem dX2_follow_40 : decode cX2_follow 40 = .ok (.invokevirtual 95, 3) := by decide +kernel
theorem dX2_follow_43 : decode cX2_follow 43 = .ok (.goto 7, 3) := by decide +kernel
theorem dX2_follow_46 : decode cX2_follow 46 = .ok (.aload_n 0, 1) := by decide +kernel
theorem dX2_follow_47 : decode cX2_follow 47 = .ok (.invokevirtual 98, 3) := by decide +kernel
theorem dX2_follow_50 : decode cX2_follow 50 = .ok (.iinc 1 1, 3) := by decide +kernel
theorem dX2_follow_53 : decode cX2_follow 53 = .ok (.goto (-51), 3) := by decide +kernel
theorem dX2_follow_56 : decode cX2_follow 56 = .ok (.return_, 1) := by decide +kernel
theorem dX2_giveUp_0 : decode cX2_giveUp 0 = .ok (.aload_n 0, 1) := by decide +kernel
theorem dX2_giveUp_1 : decode cX2_giveUp 1 = .ok (.iconst 4, 1) := by decide +kernel
theorem dX2_giveUp_2 : decode cX2_giveUp 2 = .ok (.putfield 58, 3) := by decide +kernel
theorem dX2_giveUp_5 : decode cX2_giveUp 5 = .ok (.aload_n 0, 1) := by decide +kernel
theorem dX2_giveUp_6 : decode cX2_giveUp 6 = .ok (.iconst (-1), 1) := by decide +kernel
theorem dX2_giveUp_7 : decode cX2_giveUp 7 = .ok (.putfield 44, 3) := by decide +kernel
theorem dX2_giveUp_10 : decode cX2_giveUp 10 = .ok (.aload_n 0, 1) := by decide +kernel
theorem dX2_giveUp_11 : decode cX2_giveUp 11 = .ok (.iload_n 2, 1) := by decide +kernel
theorem dX2_giveUp_12 : decode cX2_giveUp 12 = .ok (.putfield 48, 3) := by decide +kernel
theorem dX2_giveUp_15 : decode cX2_giveUp 15 = .ok (.aload_n 0, 1) := by decide +kernel
theorem dX2_giveUp_16 : decode cX2_giveUp 16 = .ok (.iload_n 1, 1) := by decide +kernel
theorem dX2_giveUp_17 : decode cX2_giveUp 17 = .ok (.putfield 101, 3) := by decide +kernel
theorem dX2_giveUp_20 : decode cX2_giveUp 20 = .ok (.aload_n 0, 1) := by decide +kernel
theorem dX2_giveUp_21 : decode cX2_giveUp 21 = .ok (.dup, 1) := by decide +kernel
theorem dX2_giveUp_22 : decode cX2_giveUp 22 = .ok (.getfield 104, 3) := by decide +kernel
theorem dX2_giveUp_25 : decode cX2_giveUp 25 = .ok (.iconst 1, 1) := by decide +kernel
theorem dX2_giveUp_26 : decode cX2_giveUp 26 = .ok (.iadd, 1) := by decide +kernel
theorem dX2_giveUp_27 : decode cX2_giveUp 27 = .ok (.putfield 104, 3) := by decide +kernel
theorem dX2_giveUp_30 : decode cX2_giveUp 30 = .ok (.return_, 1) := by decide +kernel
set_option maxRecDepth 20000 in
theorem ggX2_sleep_X2_follow : GoodIn wsX2_sleep wsX2_follow := goodIn_r _ [9, 10, 1, 11, 12, 13, 8, 14, 15, 4, 16, 17, 18, 19, 20, 21, 2, 22, 23, 24, 25, 26, 27, 28, 29, 30, 31, 32, 33, 34, 35, 36, 37, 38, 39, 3, 40, 41, 42, 43, 44, 45, 46, 47, 48, 49, 50, 51, 52, 53, 54, 55, 56, 57, 58, 59, 60, 61, 62, 63, 64, 65, 66, 67, 68] (by decide +kernel) (by decide +kernel)
set_option maxRecDepth 20000 in
theorem gX2_sleep_X2_follow : GoodIn wsX2_sleep (wsV RX2 107 RX2 yX2_follow wsX2_follow) := goodIn_app (goodIn_of _ (by decide +kernel)) ggX2_sleep_X2_follow
theorem dX2_sleep_0 : decode cX2_sleep 0 = .ok (.aload_n 0, 1) := by decide +kernel
theorem dX2_sleep_1 : decode cX2_sleep 1 = .ok (.getfield 58, 3) := by decide +kernel
theorem dX2_sleep_4 : decode cX2_sleep 4 = .ok (.ifCond .eq 6, 3) := by decide +kernel
theorem dX2_sleep_7 : decode cX2_sleep 7 = .ok (.bipush (-3), 2) := by decide +kernel
theorem dX2_sleep_9 : decode cX2_sleep 9 = .ok (.ireturn, 1) := by decide +kernel
theorem dX2_sleep_10 : decode cX2_sleep 10 = .ok (.iconst 0, 1) := by decide +kernel
theorem dX2_sleep_11 : decode cX2_sleep 11 = .ok (.istore_n 1, 1) := by decide +kernel
theorem dX2_sleep_12 : decode cX2_sleep 12 = .ok (.iload_n 1, 1) := by decide +kernel
theorem dX2_sleep_13 : decode cX2_sleep 13 = .ok (.aload_n 0, 1) := by decide +kernel
theorem dX2_sleep_14 : decode cX2_sleep 14 = .ok (.getfield 51, 3) := by decide +kernel
theorem dX2_sleep_17 : decode cX2_sleep 17 = .ok (.if_icmp .ge 21, 3) := by decide +kernel
theorem dX2_sleep_20 : decode cX2_sleep 20 = .ok (.aload_n 0, 1) := by decide +kernel
theorem dX2_sleep_21 : decode cX2_sleep 21 = .ok (.getfield 25, 3) := by decide +kernel
theorem dX2_sleep_24 : decode cX2_sleep 24 = .ok (.iload_n 1, 1) := by decide +kernel
theorem dX2_sleep_25 : decode cX2_sleep 25 = .ok (.aload_n 0, 1) := by decide +kernel
theorem dX2_sleep_26 : decode cX2_sleep 26 = .ok (.getfield 22, 3) := by decide +kernel
theorem dX2_sleep_29 : decode cX2_sleep 29 = .ok (.iload_n 1, 1) := by decide +kernel
theorem dX2_sleep_30 : decode cX2_sleep 30 = .ok (.iaload, 1) := by decide +kernel
theorem dX2_sleep_31 : decode cX2_sleep 31 = .ok (.iastore, 1) := by decide +kernel
theorem dX2_sleep_32 : decode cX2_sleep 32 = .ok (.iinc 1 1, 3) := by decide +kernel
theorem dX2_sleep_35 : decode cX2_sleep 35 = .ok (.goto (-23), 3) := by decide +kernel
theorem dX2_sleep_38 : decode cX2_sleep 38 = .ok (.aload_n 0, 1) := by decide +kernel
theorem dX2_sleep_39 : decode cX2_sleep 39 = .ok (.iconst 1, 1) := by decide +kernel
theorem dX2_sleep_40 : decode cX2_sleep 40 = .ok (.putfield 58, 3) := by decide +kernel
theorem dX2_sleep_43 : decode cX2_sleep 43 = .ok (.aload_n 0, 1) := by decide +kernel
theorem dX2_sleep_44 : decode cX2_sleep 44 = .ok (.invokevirtual 107, 3) := by decide +kernel
theorem dX2_sleep_47 : decode cX2_sleep 47 = .ok (.aload_n 0, 1) := by decide +kernel
theorem dX2_sleep_48 : decode cX2_sleep 48 = .ok (.getfield 58, 3) := by decide +kernel
theorem dX2_sleep_51 : decode cX2_sleep 51 = .ok (.ireturn, 1) := by decide +kernel
set_option maxRecDepth 20000 in
theorem ggX2_signal_X2_none : GoodIn wsX2_signal wsX2_none := goodIn_r _ [7, 8, 57, 58, 59, 60, 61, 62, 63, 64, 65, 66, 67, 68, 69, 70, 71, 72, 73, 74, 75, 76, 77, 78, 79, 80] (by decide +kernel) (by decide +kernel)
set_option maxRecDepth 20000 in
theorem gX2_signal_X2_none : GoodIn wsX2_signal (wsV RX2 67 RX2 yX2_none wsX2_none) := goodIn_app (goodIn_of _ (by decide +kernel)) ggX2_signal_X2_none
set_option maxRecDepth 20000 in
theorem ggX2_signal_X2_giveUp : GoodIn wsX2_signal wsX2_giveUp := goodIn_r _ [12, 2, 13, 14, 15, 16, 57, 58, 59, 60, 61, 62, 63, 64, 65, 66, 67, 68, 69, 70, 71, 72, 73, 74, 75, 76, 77, 78, 79, 80] (by decide +kernel) (by decide +kernel)
set_option maxRecDepth 20000 in
theorem gX2_signal_X2_giveUp : GoodIn wsX2_signal (wsV RX2 110 RX2 yX2_giveUp wsX2_giveUp) := goodIn_app (goodIn_of _ (by decide +kernel)) ggX2_signal_X2_giveUp
set_option maxRecDepth 20000 in
theorem ggX2_signal_X2_follow : GoodIn wsX2_signal wsX2_follow := goodIn_r _ [20, 13, 2, 21, 22, 23, 6, 24, 25, 26, 27, 28, 29, 30, 31, 32, 8, 33, 34, 35, 36, 37, 38, 39, 40, 41, 42, 43, 44, 45, 46, 47, 48, 49, 50, 51, 52, 53, 54, 55, 56, 57, 58, 59, 60, 61, 62, 63, 64, 65, 66, 67, 68, 69, 70, 71, 72, 73, 74, 75, 76, 77, 78, 79, 80] (by decide +kernel) (by decide +kernel)
set_option maxRecDepth 20000 in
theorem gX2_signal_X2_follow : GoodIn wsX2_signal (wsV RX2 107 RX2 yX2_follow wsX2_follow) := goodIn_app (goodIn_of _ (by decide +kernel)) ggX2_signal_X2_follow
theorem dX2_signal_0 : decode cX2_signal 0 = .ok (.aload_n 0, 1) := by decide +kernel
theorem dX2_signal_1 : decode cX2_signal 1 = .ok (.iload_n 1, 1) := by decide +kernel
theorem dX2_signal_2 : decode cX2_signal 2 = .ok (.invokevirtual 67, 3) := by decide +kernel
theorem dX2_signal_5 : decode cX2_signal 5 = .ok (.ifCond .eq 6, 3) := by decide +kernel
theorem dX2_signal_8 : decode cX2_signal 8 = .ok (.bipush (-2), 2) := by decide +kernel
theorem dX2_signal_10 : decode cX2_signal 10 = .ok (.ireturn, 1) := by decide +kernel
theorem dX2_signal_11 : decode cX2_signal 11 = .ok (.aload_n 0, 1) := by decide +kernel
theorem dX2_signal_12 : decode cX2_signal 12 = .ok (.getfield 37, 3) := by decide +kernel
theorem dX2_signal_15 : decode cX2_signal 15 = .ok (.iload_n 1, 1) := by decide +kernel
theorem dX2_signal_16 : decode cX2_signal 16 = .ok (.baload, 1) := by decide +kernel
theorem dX2_signal_17 : decode cX2_signal 17 = .ok (.ifCond .eq 23, 3) := by decide +kernel
theorem dX2_signal_20 : decode cX2_signal 20 = .ok (.aload_n 0, 1) := by decide +kernel
theorem dX2_signal_21 : decode cX2_signal 21 = .ok (.getfield 58, 3) := by decide +kernel
theorem dX2_signal_24 : decode cX2_signal 24 = .ok (.iconst 1, 1) := by decide +kernel
theorem dX2_signal_25 : decode cX2_signal 25 = .ok (.if_icmp .eq 11, 3) := by decide +kernel
theorem dX2_signal_28 : decode cX2_signal 28 = .ok (.aload_n 0, 1) := by decide +kernel
theorem dX2_signal_29 : decode cX2_signal 29 = .ok (.getfield 58, 3) := by decide +kernel
theorem dX2_signal_32 : decode cX2_signal 32 = .ok (.iconst 2, 1) := by decide +kernel
theorem dX2_signal_33 : decode cX2_signal 33 = .ok (.if_icmp .ne 7, 3) := by decide +kernel
theorem dX2_signal_36 : decode cX2_signal 36 = .ok (.iconst 1, 1) := by decide +kernel
theorem dX2_signal_37 : decode cX2_signal 37 = .ok (.goto 4, 3) := by decide +kernel
theorem dX2_signal_40 : decode cX2_signal 40 = .ok (.iconst 0, 1) := by decide +kernel
theorem dX2_signal_41 : decode cX2_signal 41 = .ok (.istore_n 2, 1) := by decide +kernel
theorem dX2_signal_42 : decode cX2_signal 42 = .ok (.iload_n 2, 1) := by decide +kernel
theorem dX2_signal_43 : decode cX2_signal 43 = .ok (.ifCond .ne 5, 3) := by decide +kernel
theorem dX2_signal_46 : decode cX2_signal 46 = .ok (.iconst 0, 1) := by decide +kernel
theorem dX2_signal_47 : decode cX2_signal 47 = .ok (.ireturn, 1) := by decide +kernel
theorem dX2_signal_48 : decode cX2_signal 48 = .ok (.aload_n 0, 1) := by decide +kernel
theorem dX2_signal_49 : decode cX2_signal 49 = .ok (.getfield 58, 3) := by decide +kernel
theorem dX2_signal_52 : decode cX2_signal 52 = .ok (.iconst 2, 1) := by decide +kernel
theorem dX2_signal_53 : decode cX2_signal 53 = .ok (.if_icmp .ne 11, 3) := by decide +kernel
theorem dX2_signal_56 : decode cX2_signal 56 = .ok (.aload_n 0, 1) := by decide +kernel
theorem dX2_signal_57 : decode cX2_signal 57 = .ok (.iconst 3, 1) := by decide +kernel
theorem dX2_signal_58 : decode cX2_signal 58 = .ok (.putfield 58, 3) := by decide +kernel
theorem dX2_signal_61 : decode cX2_signal 61 = .ok (.goto 9, 3) := by decide +kernel
theorem dX2_signal_64 : decode cX2_signal 64 = .ok (.aload_n 0, 1) := by decide +kernel
theorem dX2_signal_65 : decode cX2_signal 65 = .ok (.iconst 2, 1) := by decide +kernel
theorem dX2_signal_66 : decode cX2_signal 66 = .ok (.iload_n 1, 1) := by decide +kernel
theorem dX2_signal_67 : decode cX2_signal 67 = .ok (.invokevirtual 110, 3) := by decide +kernel
theorem dX2_signal_70 : decode cX2_signal 70 = .ok (.aload_n 0, 1) := by decide +kernel
theorem dX2_signal_71 : decode cX2_signal 71 = .ok (.invokevirtual 107, 3) := by decide +kernel
theorem dX2_signal_74 : decode cX2_signal 74 = .ok (.iconst 1, 1) := by decide +kernel
theorem dX2_signal_75 : decode cX2_signal 75 = .ok (.ireturn, 1) := by decide +kernel
theorem dX2_watch_0 : decode cX2_watch 0 = .ok (.iload_n 1, 1) := by decide +kernel
theorem dX2_watch_1 : decode cX2_watch 1 = .ok (.ifCond .lt 9, 3) := by decide +kernel
theorem dX2_watch_4 : decode cX2_watch 4 = .ok (.iload_n 1, 1) := by decide +kernel
theorem dX2_watch_5 : decode cX2_watch 5 = .ok (.bipush 100, 2) := by decide +kernel
theorem dX2_watch_7 : decode cX2_watch 7 = .ok (.if_icmp .le 5, 3) := by decide +kernel
theorem dX2_watch_10 : decode cX2_watch 10 = .ok (.iconst 0, 1) := by decide +kernel
theorem dX2_watch_11 : decode cX2_watch 11 = .ok (.ireturn, 1) := by decide +kernel
theorem dX2_watch_12 : decode cX2_watch 12 = .ok (.aload_n 0, 1) := by decide +kernel
theorem dX2_watch_13 : decode cX2_watch 13 = .ok (.iload_n 1, 1) := by decide +kernel
theorem dX2_watch_14 : decode cX2_watch 14 = .ok (.putfield 113, 3) := by decide +kernel
theorem dX2_watch_17 : decode cX2_watch 17 = .ok (.aload_n 0, 1) := by decide +kernel
theorem dX2_watch_18 : decode cX2_watch 18 = .ok (.iconst 0, 1) := by decide +kernel
theorem dX2_watch_19 : decode cX2_watch 19 = .ok (.putfield 116, 3) := by decide +kernel
theorem dX2_watch_22 : decode cX2_watch 22 = .ok (.iconst 1, 1) := by decide +kernel
theorem dX2_watch_23 : decode cX2_watch 23 = .ok (.ireturn, 1) := by decide +kernel
theorem dX2_kick_0 : decode cX2_kick 0 = .ok (.aload_n 0, 1) := by decide +kernel
theorem dX2_kick_1 : decode cX2_kick 1 = .ok (.getfield 116, 3) := by decide +kernel
theorem dX2_kick_4 : decode cX2_kick 4 = .ok (.istore_n 1, 1) := by decide +kernel
theorem dX2_kick_5 : decode cX2_kick 5 = .ok (.aload_n 0, 1) := by decide +kernel
theorem dX2_kick_6 : decode cX2_kick 6 = .ok (.iconst 0, 1) := by decide +kernel
theorem dX2_kick_7 : decode cX2_kick 7 = .ok (.putfield 116, 3) := by decide +kernel
theorem dX2_kick_10 : decode cX2_kick 10 = .ok (.iload_n 1, 1) := by decide +kernel
theorem dX2_kick_11 : decode cX2_kick 11 = .ok (.ireturn, 1) := by decide +kernel
theorem dX2_reset_0 : decode cX2_reset 0 = .ok (.iconst 0, 1) := by decide +kernel
theorem dX2_reset_1 : decode cX2_reset 1 = .ok (.istore_n 1, 1) := by decide +kernel
theorem dX2_reset_2 : decode cX2_reset 2 = .ok (.iload_n 1, 1) := by decide +kernel
theorem dX2_reset_3 : decode cX2_reset 3 = .ok (.aload_n 0, 1) := by decide +kernel
theorem dX2_reset_4 : decode cX2_reset 4 = .ok (.getfield 51, 3) := by decide +kernel
theorem dX2_reset_7 : decode cX2_reset 7 = .ok (.if_icmp .ge 57, 3) := by decide +kernel
theorem dX2_reset_10 : decode cX2_reset 10 = .ok (.aload_n 0, 1) := by decide +kernel
theorem dX2_reset_11 : decode cX2_reset 11 = .ok (.aload_n 0, 1) := by decide +kernel
theorem dX2_reset_12 : decode cX2_reset 12 = .ok (.getfield 22, 3) := by decide +kernel
theorem dX2_reset_15 : decode cX2_reset 15 = .ok (.iload_n 1, 1) := by decide +kernel
theorem dX2_reset_16 : decode cX2_reset 16 = .ok (.iaload, 1) := by decide +kernel
theorem dX2_reset_17 : decode cX2_reset 17 = .ok (.iconst 2, 1) := by decide +kernel
theorem dX2_reset_18 : decode cX2_reset 18 = .ok (.if_icmp .ne 10, 3) := by decide +kernel
theorem dX2_reset_21 : decode cX2_reset 21 = .ok (.aload_n 0, 1) := by decide +kernel
theorem dX2_reset_22 : decode cX2_reset 22 = .ok (.getfield 71, 3) := by decide +kernel
theorem dX2_reset_25 : decode cX2_reset 25 = .ok (.goto 9, 3) := by decide +kernel
theorem dX2_reset_28 : decode cX2_reset 28 = .ok (.aload_n 0, 1) := by decide +kernel
theorem dX2_reset_29 : decode cX2_reset 29 = .ok (.getfield 71, 3) := by decide +kernel
theorem dX2_reset_32 : decode cX2_reset 32 = .ok (.iconst 1, 1) := by decide +kernel
theorem dX2_reset_33 : decode cX2_reset 33 = .ok (.iadd, 1) := by decide +kernel
theorem dX2_reset_34 : decode cX2_reset 34 = .ok (.putfield 71, 3) := by decide +kernel
theorem dX2_reset_37 : decode cX2_reset 37 = .ok (.aload_n 0, 1) := by decide +kernel
theorem dX2_reset_38 : decode cX2_reset 38 = .ok (.getfield 22, 3) := by decide +kernel
theorem dX2_reset_41 : decode cX2_reset 41 = .ok (.iload_n 1, 1) := by decide +kernel
theorem dX2_reset_42 : decode cX2_reset 42 = .ok (.iconst 2, 1) := by decide +kernel
theorem dX2_reset_43 : decode cX2_reset 43 = .ok (.iastore, 1) := by decide +kernel
theorem dX2_reset_44 : decode cX2_reset 44 = .ok (.aload_n 0, 1) := by decide +kernel
theorem dX2_reset_45 : decode cX2_reset 45 = .ok (.getfield 28, 3) := by decide +kernel
theorem dX2_reset_48 : decode cX2_reset 48 = .ok (.iload_n 1, 1) := by decide +kernel
theorem dX2_reset_49 : decode cX2_reset 49 = .ok (.iconst 0, 1) := by decide +kernel
theorem dX2_reset_50 : decode cX2_reset 50 = .ok (.iastore, 1) := by decide +kernel
theorem dX2_reset_51 : decode cX2_reset 51 = .ok (.aload_n 0, 1) := by decide +kernel
theorem dX2_reset_52 : decode cX2_reset 52 = .ok (.getfield 31, 3) := by decide +kernel
theorem dX2_reset_55 : decode cX2_reset 55 = .ok (.iload_n 1, 1) := by decide +kernel
theorem dX2_reset_56 : decode cX2_reset 56 = .ok (.iconst 0, 1) := by decide +kernel
theorem dX2_reset_57 : decode cX2_reset 57 = .ok (.iastore, 1) := by decide +kernel
theorem dX2_reset_58 : decode cX2_reset 58 = .ok (.iinc 1 1, 3) := by decide +kernel
theorem dX2_reset_61 : decode cX2_reset 61 = .ok (.goto (-59), 3) := by decide +kernel
theorem dX2_reset_64 : decode cX2_reset 64 = .ok (.aload_n 0, 1) := by decide +kernel
theorem dX2_reset_65 : decode cX2_reset 65 = .ok (.iconst 0, 1) := by decide +kernel
theorem dX2_reset_66 : decode cX2_reset 66 = .ok (.putfield 58, 3) := by decide +kernel
theorem dX2_reset_69 : decode cX2_reset 69 = .ok (.aload_n 0, 1) := by decide +kernel
theorem dX2_reset_70 : decode cX2_reset 70 = .ok (.iconst (-1), 1) := by decide +kernel
theorem dX2_reset_71 : decode cX2_reset 71 = .ok (.putfield 44, 3) := by decide +kernel
theorem dX2_reset_74 : decode cX2_reset 74 = .ok (.aload_n 0, 1) := by decide +kernel
theorem dX2_reset_75 : decode cX2_reset 75 = .ok (.iconst (-1), 1) := by decide +kernel
theorem dX2_reset_76 : decode cX2_reset 76 = .ok (.putfield 48, 3) := by decide +kernel
theorem dX2_reset_79 : decode cX2_reset 79 = .ok (.aload_n 0, 1) := by decide +kernel
theorem dX2_reset_80 : decode cX2_reset 80 = .ok (.iconst 0, 1) := by decide +kernel
theorem dX2_reset_81 : decode cX2_reset 81 = .ok (.putfield 101, 3) := by decide +kernel
theorem dX2_reset_84 : decode cX2_reset 84 = .ok (.aload_n 0, 1) := by decide +kernel
theorem dX2_reset_85 : decode cX2_reset 85 = .ok (.iconst 0, 1) := by decide +kernel
theorem dX2_reset_86 : decode cX2_reset 86 = .ok (.putfield 116, 3) := by decide +kernel
theorem dX2_reset_89 : decode cX2_reset 89 = .ok (.aload_n 0, 1) := by decide +kernel
theorem dX2_reset_90 : decode cX2_reset 90 = .ok (.dup, 1) := by decide +kernel
theorem dX2_reset_91 : decode cX2_reset 91 = .ok (.getfield 119, 3) := by decide +kernel
theorem dX2_reset_94 : decode cX2_reset 94 = .ok (.iconst 1, 1) := by decide +kernel
theorem dX2_reset_95 : decode cX2_reset 95 = .ok (.iadd, 1) := by decide +kernel
theorem dX2_reset_96 : decode cX2_reset 96 = .ok (.putfield 119, 3) := by decide +kernel
theorem dX2_reset_99 : decode cX2_reset 99 = .ok (.return_, 1) := by decide +kernel
theorem dX2_childOn_0 : decode cX2_childOn 0 = .ok (.iconst 0, 1) := by decide +kernel
theorem dX2_childOn_1 : decode cX2_childOn 1 = .ok (.istore_n 2, 1) := by decide +kernel
theorem dX2_childOn_2 : decode cX2_childOn 2 = .ok (.iload_n 1, 1) := by decide +kernel
theorem dX2_childOn_3 : decode cX2_childOn 3 = .ok (.iconst 1, 1) := by decide +kernel
theorem dX2_childOn_4 : decode cX2_childOn 4 = .ok (.iadd, 1) := by decide +kernel
theorem dX2_childOn_5 : decode cX2_childOn 5 = .ok (.istore_n 3, 1) := by decide +kernel
theorem dX2_childOn_6 : decode cX2_childOn 6 = .ok (.iload_n 3, 1) := by decide +kernel
theorem dX2_childOn_7 : decode cX2_childOn 7 = .ok (.aload_n 0, 1) := by decide +kernel
theorem dX2_childOn_8 : decode cX2_childOn 8 = .ok (.getfield 51, 3) := by decide +kernel
theorem dX2_childOn_11 : decode cX2_childOn 11 = .ok (.if_icmp .ge 43, 3) := by decide +kernel
theorem dX2_childOn_14 : decode cX2_childOn 14 = .ok (.iload_n 2, 1) := by decide +kernel
theorem dX2_childOn_15 : decode cX2_childOn 15 = .ok (.ifCond .ne 27, 3) := by decide +kernel
theorem dX2_childOn_18 : decode cX2_childOn 18 = .ok (.aload_n 0, 1) := by decide +kernel
theorem dX2_childOn_19 : decode cX2_childOn 19 = .ok (.getfield 7, 3) := by decide +kernel
theorem dX2_childOn_22 : decode cX2_childOn 22 = .ok (.iload_n 3, 1) := by decide +kernel
theorem dX2_childOn_23 : decode cX2_childOn 23 = .ok (.iaload, 1) := by decide +kernel
theorem dX2_childOn_24 : decode cX2_childOn 24 = .ok (.iload_n 1, 1) := by decide +kernel
theorem dX2_childOn_25 : decode cX2_childOn 25 = .ok (.ishr, 1) := by decide +kernel
theorem dX2_childOn_26 : decode cX2_childOn 26 = .ok (.iconst 1, 1) := by decide +kernel
theorem dX2_childOn_27 : decode cX2_childOn 27 = .ok (.iand, 1) := by decide +kernel
theorem dX2_childOn_28 : decode cX2_childOn 28 = .ok (.iconst 1, 1) := by decide +kernel
theorem dX2_childOn_29 : decode cX2_childOn 29 = .ok (.if_icmp .ne 17, 3) := by decide +kernel
theorem dX2_childOn_32 : decode cX2_childOn 32 = .ok (.aload_n 0, 1) := by decide +kernel
theorem dX2_childOn_33 : decode cX2_childOn 33 = .ok (.getfield 22, 3) := by decide +kernel
theorem dX2_childOn_36 : decode cX2_childOn 36 = .ok (.iload_n 3, 1) := by decide +kernel
theorem dX2_childOn_37 : decode cX2_childOn 37 = .ok (.iaload, 1) := by decide +kernel
theorem dX2_childOn_38 : decode cX2_childOn 38 = .ok (.iconst 2, 1) := by decide +kernel
theorem dX2_childOn_39 : decode cX2_childOn 39 = .ok (.if_icmp .ne 7, 3) := by decide +kernel
theorem dX2_childOn_42 : decode cX2_childOn 42 = .ok (.iconst 1, 1) := by decide +kernel
theorem dX2_childOn_43 : decode cX2_childOn 43 = .ok (.goto 4, 3) := by decide +kernel
theorem dX2_childOn_46 : decode cX2_childOn 46 = .ok (.iconst 0, 1) := by decide +kernel
theorem dX2_childOn_47 : decode cX2_childOn 47 = .ok (.istore_n 2, 1) := by decide +kernel
theorem dX2_childOn_48 : decode cX2_childOn 48 = .ok (.iinc 3 1, 3) := by decide +kernel
theorem dX2_childOn_51 : decode cX2_childOn 51 = .ok (.goto (-45), 3) := by decide +kernel
theorem dX2_childOn_54 : decode cX2_childOn 54 = .ok (.iload_n 2, 1) := by decide +kernel
theorem dX2_childOn_55 : decode cX2_childOn 55 = .ok (.ireturn, 1) := by decide +kernel
set_option maxRecDepth 20000 in
theorem ggX2_doze_X2_childOn : GoodIn wsX2_doze wsX2_childOn := goodIn_r _ [11, 1, 12, 3, 18, 19, 20, 21, 22, 23, 24, 25, 26, 27, 28, 29, 30, 31, 32, 33, 34, 35, 36, 37, 38, 39, 40, 41] (by decide +kernel) (by decide +kernel)
set_option maxRecDepth 20000 in
theorem gX2_doze_X2_childOn : GoodIn wsX2_doze (wsV RX2 122 RX2 yX2_childOn wsX2_childOn) := goodIn_app (goodIn_of _ (by decide +kernel)) ggX2_doze_X2_childOn
set_option maxRecDepth 20000 in
theorem ggX2_doze_X2_become : GoodIn wsX2_doze wsX2_become := goodIn_r _ [16, 3, 17, 18, 19, 20, 21, 22, 23, 24, 25, 26, 27, 28, 29, 30, 31, 32, 33, 34, 35, 36, 37, 38, 39, 40, 41] (by decide +kernel) (by decide +kernel)
set_option maxRecDepth 20000 in
theorem gX2_doze_X2_become : GoodIn wsX2_doze (wsV RX2 85 RX2 yX2_become wsX2_become) := goodIn_app (goodIn_of _ (by decide +kernel)) ggX2_doze_X2_become
theorem dX2_doze_0 : decode cX2_doze 0 = .ok (.iconst 0, 1) := by decide +kernel
theorem dX2_doze_1 : decode cX2_doze 1 = .ok (.istore_n 1, 1) := by decide +kernel
theorem dX2_doze_2 : decode cX2_doze 2 = .ok (.iload_n 1, 1) := by decide +kernel
theorem dX2_doze_3 : decode cX2_doze 3 = .ok (.aload_n 0, 1) := by decide +kernel
theorem dX2_doze_4 : decode cX2_doze 4 = .ok (.getfield 51, 3) := by decide +kernel
theorem dX2_doze_7 : decode cX2_doze 7 = .ok (.if_icmp .ge 47, 3) := by decide +kernel
theorem dX2_doze_10 : decode cX2_doze 10 = .ok (.aload_n 0, 1) := by decide +kernel
theorem dX2_doze_11 : decode cX2_doze 11 = .ok (.getfield 41, 3) := by decide +kernel
theorem dX2_doze_14 : decode cX2_doze 14 = .ok (.iload_n 1, 1) := by decide +kernel
theorem dX2_doze_15 : decode cX2_doze 15 = .ok (.aload_n 0, 1) := by decide +kernel
theorem dX2_doze_16 : decode cX2_doze 16 = .ok (.getfield 22, 3) := by decide +kernel
theorem dX2_doze_19 : decode cX2_doze 19 = .ok (.iload_n 1, 1) := by decide +kernel
theorem dX2_doze_20 : decode cX2_doze 20 = .ok (.iaload, 1) := by decide +kernel
theorem dX2_doze_21 : decode cX2_doze 21 = .ok (.iconst 2, 1) := by decide +kernel
theorem dX2_doze_22 : decode cX2_doze 22 = .ok (.if_icmp .ne 24, 3) := by decide +kernel
theorem dX2_doze_25 : decode cX2_doze 25 = .ok (.aload_n 0, 1) := by decide +kernel
theorem dX2_doze_26 : decode cX2_doze 26 = .ok (.getfield 28, 3) := by decide +kernel
theorem dX2_doze_29 : decode cX2_doze 29 = .ok (.iload_n 1, 1) := by decide +kernel
theorem dX2_doze_30 : decode cX2_doze 30 = .ok (.iaload, 1) := by decide +kernel
theorem dX2_doze_31 : decode cX2_doze 31 = .ok (.ifCond .ne 15, 3) := by decide +kernel
theorem dX2_doze_34 : decode cX2_doze 34 = .ok (.aload_n 0, 1) := by decide +kernel
theorem dX2_doze_35 : decode cX2_doze 35 = .ok (.iload_n 1, 1) := by decide +kernel
theorem dX2_doze_36 : decode cX2_doze 36 = .ok (.invokevirtual 122, 3) := by decide +kernel
theorem dX2_doze_39 : decode cX2_doze 39 = .ok (.ifCond .ne 7, 3) := by decide +kernel
theorem dX2_doze_42 : decode cX2_doze 42 = .ok (.iconst 1, 1) := by decide +kernel
theorem dX2_doze_43 : decode cX2_doze 43 = .ok (.goto 4, 3) := by decide +kernel
theorem dX2_doze_46 : decode cX2_doze 46 = .ok (.iconst 0, 1) := by decide +kernel
theorem dX2_doze_47 : decode cX2_doze 47 = .ok (.bastore, 1) := by decide +kernel
theorem dX2_doze_48 : decode cX2_doze 48 = .ok (.iinc 1 1, 3) := by decide +kernel
theorem dX2_doze_51 : decode cX2_doze 51 = .ok (.goto (-49), 3) := by decide +kernel
theorem dX2_doze_54 : decode cX2_doze 54 = .ok (.iconst 0, 1) := by decide +kernel
theorem dX2_doze_55 : decode cX2_doze 55 = .ok (.istore_n 1, 1) := by decide +kernel
theorem dX2_doze_56 : decode cX2_doze 56 = .ok (.iload_n 1, 1) := by decide +kernel
theorem dX2_doze_57 : decode cX2_doze 57 = .ok (.aload_n 0, 1) := by decide +kernel
theorem dX2_doze_58 : decode cX2_doze 58 = .ok (.getfield 51, 3) := by decide +kernel
theorem dX2_doze_61 : decode cX2_doze 61 = .ok (.if_icmp .ge 36, 3) := by decide +kernel
theorem dX2_doze_64 : decode cX2_doze 64 = .ok (.aload_n 0, 1) := by decide +kernel
theorem dX2_doze_65 : decode cX2_doze 65 = .ok (.getfield 31, 3) := by decide +kernel
theorem dX2_doze_68 : decode cX2_doze 68 = .ok (.iload_n 1, 1) := by decide +kernel
theorem dX2_doze_69 : decode cX2_doze 69 = .ok (.aload_n 0, 1) := by decide +kernel
theorem dX2_doze_70 : decode cX2_doze 70 = .ok (.getfield 41, 3) := by decide +kernel
theorem dX2_doze_73 : decode cX2_doze 73 = .ok (.iload_n 1, 1) := by decide +kernel
theorem dX2_doze_74 : decode cX2_doze 74 = .ok (.baload, 1) := by decide +kernel
theorem dX2_doze_75 : decode cX2_doze 75 = .ok (.ifCond .eq 14, 3) := by decide +kernel
theorem dX2_doze_78 : decode cX2_doze 78 = .ok (.aload_n 0, 1) := by decide +kernel
theorem dX2_doze_79 : decode cX2_doze 79 = .ok (.getfield 31, 3) := by decide +kernel
theorem dX2_doze_82 : decode cX2_doze 82 = .ok (.iload_n 1, 1) := by decide +kernel
theorem dX2_doze_83 : decode cX2_doze 83 = .ok (.iaload, 1) := by decide +kernel
theorem dX2_doze_84 : decode cX2_doze 84 = .ok (.iconst 1, 1) := by decide +kernel
theorem dX2_doze_85 : decode cX2_doze 85 = .ok (.iadd, 1) := by decide +kernel
theorem dX2_doze_86 : decode cX2_doze 86 = .ok (.goto 4, 3) := by decide +kernel
theorem dX2_doze_89 : decode cX2_doze 89 = .ok (.iconst 0, 1) := by decide +kernel
theorem dX2_doze_90 : decode cX2_doze 90 = .ok (.iastore, 1) := by decide +kernel
theorem dX2_doze_91 : decode cX2_doze 91 = .ok (.iinc 1 1, 3) := by decide +kernel
theorem dX2_doze_94 : decode cX2_doze 94 = .ok (.goto (-38), 3) := by decide +kernel
theorem dX2_doze_97 : decode cX2_doze 97 = .ok (.iconst 0, 1) := by decide +kernel
theorem dX2_doze_98 : decode cX2_doze 98 = .ok (.istore_n 1, 1) := by decide +kernel
theorem dX2_doze_99 : decode cX2_doze 99 = .ok (.iload_n 1, 1) := by decide +kernel
theorem dX2_doze_100 : decode cX2_doze 100 = .ok (.aload_n 0, 1) := by decide +kernel
theorem dX2_doze_101 : decode cX2_doze 101 = .ok (.getfield 51, 3) := by decide +kernel
theorem dX2_doze_104 : decode cX2_doze 104 = .ok (.if_icmp .ge 49, 3) := by decide +kernel
theorem dX2_doze_107 : decode cX2_doze 107 = .ok (.aload_n 0, 1) := by decide +kernel
theorem dX2_doze_108 : decode cX2_doze 108 = .ok (.getfield 22, 3) := by decide +kernel
theorem dX2_doze_111 : decode cX2_doze 111 = .ok (.iload_n 1, 1) := by decide +kernel
theorem dX2_doze_112 : decode cX2_doze 112 = .ok (.iaload, 1) := by decide +kernel
theorem dX2_doze_113 : decode cX2_doze 113 = .ok (.iconst 2, 1) := by decide +kernel
theorem dX2_doze_114 : decode cX2_doze 114 = .ok (.if_icmp .ne 33, 3) := by decide +kernel
theorem dX2_doze_117 : decode cX2_doze 117 = .ok (.aload_n 0, 1) := by decide +kernel
theorem dX2_doze_118 : decode cX2_doze 118 = .ok (.getfield 19, 3) := by decide +kernel
theorem dX2_doze_121 : decode cX2_doze 121 = .ok (.iload_n 1, 1) := by decide +kernel
theorem dX2_doze_122 : decode cX2_doze 122 = .ok (.iaload, 1) := by decide +kernel
theorem dX2_doze_123 : decode cX2_doze 123 = .ok (.ifCond .le 24, 3) := by decide +kernel
theorem dX2_doze_126 : decode cX2_doze 126 = .ok (.aload_n 0, 1) := by decide +kernel
theorem dX2_doze_127 : decode cX2_doze 127 = .ok (.getfield 31, 3) := by decide +kernel
theorem dX2_doze_130 : decode cX2_doze 130 = .ok (.iload_n 1, 1) := by decide +kernel
theorem dX2_doze_131 : decode cX2_doze 131 = .ok (.iaload, 1) := by decide +kernel
theorem dX2_doze_132 : decode cX2_doze 132 = .ok (.aload_n 0, 1) := by decide +kernel
theorem dX2_doze_133 : decode cX2_doze 133 = .ok (.getfield 19, 3) := by decide +kernel
theorem dX2_doze_136 : decode cX2_doze 136 = .ok (.iload_n 1, 1) := by decide +kernel
theorem dX2_doze_137 : decode cX2_doze 137 = .ok (.iaload, 1) := by decide +kernel
theorem dX2_doze_138 : decode cX2_doze 138 = .ok (.if_icmp .lt 9, 3) := by decide +kernel
theorem dX2_doze_141 : decode cX2_doze 141 = .ok (.aload_n 0, 1) := by decide +kernel
theorem dX2_doze_142 : decode cX2_doze 142 = .ok (.iload_n 1, 1) := by decide +kernel
theorem dX2_doze_143 : decode cX2_doze 143 = .ok (.iconst 1, 1) := by decide +kernel
theorem dX2_doze_144 : decode cX2_doze 144 = .ok (.invokevirtual 85, 3) := by decide +kernel
theorem dX2_doze_147 : decode cX2_doze 147 = .ok (.iinc 1 1, 3) := by decide +kernel
theorem dX2_doze_150 : decode cX2_doze 150 = .ok (.goto (-51), 3) := by decide +kernel
theorem dX2_doze_153 : decode cX2_doze 153 = .ok (.return_, 1) := by decide +kernel
set_option maxRecDepth 20000 in
theorem ggX2_work_X2_become : GoodIn wsX2_work wsX2_become := goodIn_r _ [9, 10, 11, 53, 54, 55, 56, 57, 58, 59, 60, 61, 62, 63, 64, 65, 66, 67, 68, 69, 70, 71, 72, 73, 74, 75, 76] (by decide +kernel) (by decide +kernel)
set_option maxRecDepth 20000 in
theorem gX2_work_X2_become : GoodIn wsX2_work (wsV RX2 85 RX2 yX2_become wsX2_become) := goodIn_app (goodIn_of _ (by decide +kernel)) ggX2_work_X2_become
set_option maxRecDepth 20000 in
theorem ggX2_work_X2_giveUp : GoodIn wsX2_work wsX2_giveUp := goodIn_r _ [15, 3, 2, 16, 17, 18, 53, 54, 55, 56, 57, 58, 59, 60, 61, 62, 63, 64, 65, 66, 67, 68, 69, 70, 71, 72, 73, 74, 75, 76] (by decide +kernel) (by decide +kernel)
set_option maxRecDepth 20000 in
theorem gX2_work_X2_giveUp : GoodIn wsX2_work (wsV RX2 110 RX2 yX2_giveUp wsX2_giveUp) := goodIn_app (goodIn_of _ (by decide +kernel)) ggX2_work_X2_giveUp
set_option maxRecDepth 20000 in
theorem ggX2_work_X2_follow : GoodIn wsX2_work wsX2_follow := goodIn_r _ [22, 2, 3, 23, 24, 25, 8, 26, 27, 10, 28, 1, 29, 30, 31, 32, 33, 34, 35, 36, 37, 38, 39, 40, 41, 42, 5, 6, 7, 9, 11, 43, 44, 45, 46, 47, 48, 49, 50, 51, 52, 53, 54, 55, 56, 57, 58, 59, 60, 61, 62, 63, 64, 65, 66, 67, 68, 69, 70, 71, 72, 73, 74, 75, 76] (by decide +kernel) (by decide +kernel)
set_option maxRecDepth 20000 in
theorem gX2_work_X2_follow : GoodIn wsX2_work (wsV RX2 107 RX2 yX2_follow wsX2_follow) := goodIn_app (goodIn_of _ (by decide +kernel)) ggX2_work_X2_follow
