theorem dX1_init_5 : decode cX1_init 5 = .ok (.new 7, 3) := by decide +kernel
theorem dX1_init_8 : decode cX1_init 8 = .ok (.dup, 1) := by decide +kernel
theorem dX1_init_9 : decode cX1_init 9 = .ok (.invokespecial 9, 3) := by decide +kernel
theorem dX1_init_12 : decode cX1_init 12 = .ok (.putfield 10, 3) := by decide +kernel
theorem dX1_init_15 : decode cX1_init 15 = .ok (.aload_n 0, 1) := by decide +kernel
theorem dX1_init_16 : decode cX1_init 16 = .ok (.new 7, 3) := by decide +kernel
theorem dX1_init_19 : decode cX1_init 19 = .ok (.dup, 1) := by decide +kernel
theorem dX1_init_20 : decode cX1_init 20 = .ok (.invokespecial 9, 3) := by decide +kernel
theorem dX1_init_23 : decode cX1_init 23 = .ok (.putfield 16, 3) := by decide +kernel
theorem dX1_init_26 : decode cX1_init 26 = .ok (.aload_n 0, 1) := by decide +kernel
theorem dX1_init_27 : decode cX1_init 27 = .ok (.iconst 0, 1) := by decide +kernel
theorem dX1_init_28 : decode cX1_init 28 = .ok (.putfield 19, 3) := by decide +kernel
theorem dX1_init_31 : decode cX1_init 31 = .ok (.aload_n 0, 1) := by decide +kernel
theorem dX1_init_32 : decode cX1_init 32 = .ok (.aconst_null, 1) := by decide +kernel
theorem dX1_init_33 : decode cX1_init 33 = .ok (.putfield 23, 3) := by decide +kernel
theorem dX1_init_36 : decode cX1_init 36 = .ok (.aload_n 0, 1) := by decide +kernel
theorem dX1_init_37 : decode cX1_init 37 = .ok (.iconst 0, 1) := by decide +kernel
theorem dX1_init_38 : decode cX1_init 38 = .ok (.putfield 27, 3) := by decide +kernel
theorem dX1_init_41 : decode cX1_init 41 = .ok (.aload_n 0, 1) := by decide +kernel
theorem dX1_init_42 : decode cX1_init 42 = .ok (.iconst 0, 1) := by decide +kernel
theorem dX1_init_43 : decode cX1_init 43 = .ok (.putfield 30, 3) := by decide +kernel
theorem dX1_init_46 : decode cX1_init 46 = .ok (.aload_n 0, 1) := by decide +kernel
theorem dX1_init_47 : decode cX1_init 47 = .ok (.iconst 0, 1) := by decide +kernel
theorem dX1_init_48 : decode cX1_init 48 = .ok (.putfield 33, 3) := by decide +kernel
theorem dX1_init_51 : decode cX1_init 51 = .ok (.aload_n 0, 1) := by decide +kernel
theorem dX1_init_52 : decode cX1_init 52 = .ok (.iconst 0, 1) := by decide +kernel
theorem dX1_init_53 : decode cX1_init 53 = .ok (.putfield 36, 3) := by decide +kernel
theorem dX1_init_56 : decode cX1_init 56 = .ok (.aload_n 0, 1) := by decide +kernel
theorem dX1_init_57 : decode cX1_init 57 = .ok (.iconst 0, 1) := by decide +kernel
theorem dX1_init_58 : decode cX1_init 58 = .ok (.putfield 39, 3) := by decide +kernel
theorem dX1_init_61 : decode cX1_init 61 = .ok (.aload_n 0, 1) := by decide +kernel
theorem dX1_init_62 : decode cX1_init 62 = .ok (.iconst 0, 1) := by decide +kernel
theorem dX1_init_63 : decode cX1_init 63 = .ok (.putfield 42, 3) := by decide +kernel
theorem dX1_init_66 : decode cX1_init 66 = .ok (.aload_n 0, 1) := by decide +kernel
theorem dX1_init_67 : decode cX1_init 67 = .ok (.iconst 0, 1) := by decide +kernel
theorem dX1_init_68 : decode cX1_init 68 = .ok (.putfield 45, 3) := by decide +kernel
theorem dX1_init_71 : decode cX1_init 71 = .ok (.aload_n 0, 1) := by decide +kernel
theorem dX1_init_72 : decode cX1_init 72 = .ok (.iconst 0, 1) := by decide +kernel
theorem dX1_init_73 : decode cX1_init 73 = .ok (.putfield 48, 3) := by decide +kernel
theorem dX1_init_76 : decode cX1_init 76 = .ok (.aload_n 0, 1) := by decide +kernel
theorem dX1_init_77 : decode cX1_init 77 = .ok (.iconst (-1), 1) := by decide +kernel
theorem dX1_init_78 : decode cX1_init 78 = .ok (.putfield 51, 3) := by decide +kernel
theorem dX1_init_81 : decode cX1_init 81 = .ok (.aload_n 0, 1) := by decide +kernel
theorem dX1_init_82 : decode cX1_init 82 = .ok (.iconst 0, 1) := by decide +kernel
theorem dX1_init_83 : decode cX1_init 83 = .ok (.putfield 54, 3) := by decide +kernel
theorem dX1_init_86 : decode cX1_init 86 = .ok (.return_, 1) := by decide +kernel
set_option maxRecDepth 20000 in
theorem ggX1_device_X1_areDevices : GoodIn wsX1_device wsX1_areDevices := goodIn_r _ [14, 2, 15, 16, 17, 18, 19, 20, 153, 154, 155, 156, 157, 158, 159, 160, 161, 162, 163, 164, 165, 166, 180, 181, 182] (by decide +kernel) (by decide +kernel)
set_option maxRecDepth 20000 in
theorem gX1_device_X1_areDevices : GoodIn wsX1_device (wsV RX1 57 RX1 yX1_areDevices wsX1_areDevices) := goodIn_app (goodIn_of _ (by decide +kernel)) ggX1_device_X1_areDevices
set_option maxRecDepth 20000 in
theorem ggX1_device_X1_isWithin : GoodIn wsX1_device wsX1_isWithin := goodIn_r _ [23] (by decide +kernel) (by decide +kernel)
set_option maxRecDepth 20000 in
theorem gX1_device_X1_isWithin : GoodIn wsX1_device (va_wsS RX1 61 yX1_isWithin wsX1_isWithin) := goodIn_app (goodIn_of _ (by decide +kernel)) ggX1_device_X1_isWithin
set_option maxRecDepth 20000 in
theorem ggX1_device_Jx4a65c_size_8abf5 : GoodIn wsX1_device wsJx4a65c_size_8abf5 := goodIn_r _ [19, 20, 180, 181, 182] (by decide +kernel) (by decide +kernel)
set_option maxRecDepth 20000 in
theorem gX1_device_Jx4a65c_size_8abf5 : GoodIn wsX1_device (wsV RX1 65 RJx4a65c yJx4a65c_size_8abf5 wsJx4a65c_size_8abf5) := goodIn_app (goodIn_of _ (by decide +kernel)) ggX1_device_Jx4a65c_size_8abf5
set_option maxRecDepth 20000 in
theorem ggX1_device_X1_withAncestors : GoodIn wsX1_device wsX1_withAncestors := goodIn_r _ [27, 2, 28, 8, 15, 16, 17, 18, 19, 20, 29, 30, 31, 32, 33, 34, 35, 36, 37, 38, 39, 40, 41, 42, 43, 44, 45, 46, 47, 13, 48, 49, 50, 51, 9, 153, 154, 155, 156, 157, 158, 159, 160, 161, 162, 163, 164, 165, 166, 167, 168, 169, 170, 171, 172, 173, 174, 175, 176, 177, 178, 179, 180, 181, 182] (by decide +kernel) (by decide +kernel)
set_option maxRecDepth 20000 in
theorem gX1_device_X1_withAncestors : GoodIn wsX1_device (wsV RX1 71 RX1 yX1_withAncestors wsX1_withAncestors) := goodIn_app (goodIn_of _ (by decide +kernel)) ggX1_device_X1_withAncestors
set_option maxRecDepth 20000 in
theorem ggX1_device_X1_depthUnder : GoodIn wsX1_device wsX1_depthUnder := goodIn_r _ [55, 2, 28, 7, 56, 57, 58, 59, 15, 16, 17, 18, 19, 20, 29, 30, 31, 32, 33, 34, 35, 36, 37, 38, 39, 40, 41, 42, 43, 44, 45, 46, 47, 13, 48, 49, 50, 51, 9, 153, 154, 155, 156, 157, 158, 159, 160, 161, 162, 163, 164, 165, 166, 167, 168, 169, 170, 171, 172, 173, 174, 175, 176, 177, 178, 179, 180, 181, 182] (by decide +kernel) (by decide +kernel)
set_option maxRecDepth 20000 in
theorem gX1_device_X1_depthUnder : GoodIn wsX1_device (wsV RX1 75 RX1 yX1_depthUnder wsX1_depthUnder) := goodIn_app (goodIn_of _ (by decide +kernel)) ggX1_device_X1_depthUnder
set_option maxRecDepth 20000 in
theorem ggX1_device_X0_init : GoodIn wsX1_device wsX0_init := goodIn_r _ [62, 63, 64, 65, 66, 67, 68, 69, 70, 71, 72, 73, 74, 75, 76, 77, 78, 167, 168, 169, 170, 171, 172, 173, 174, 175, 176, 177, 178, 179] (by decide +kernel) (by decide +kernel)
set_option maxRecDepth 20000 in
theorem gX1_device_X0_init : GoodIn wsX1_device (wsX0_init) := ggX1_device_X0_init
set_option maxRecDepth 20000 in
theorem ggX1_device_Jx4a65c_add_9ea2d : GoodIn wsX1_device wsJx4a65c_add_9ea2d := goodIn_r _ [82, 83, 84, 45, 20, 85, 86, 87, 18, 88, 89, 90, 91, 92, 93, 94, 95, 96, 97, 98, 57, 58, 59, 99, 100, 101, 102, 103, 104, 105, 106, 107, 108, 109, 110, 111, 112, 113, 114, 115, 116, 117, 118, 119, 120, 121, 122, 123, 124, 125, 126, 127, 128, 180, 181, 182] (by decide +kernel) (by decide +kernel)
set_option maxRecDepth 20000 in
theorem gX1_device_Jx4a65c_add_9ea2d : GoodIn wsX1_device (wsV RX1 81 RJx4a65c yJx4a65c_add_9ea2d wsJx4a65c_add_9ea2d) := goodIn_app (goodIn_of _ (by decide +kernel)) ggX1_device_Jx4a65c_add_9ea2d
set_option maxRecDepth 20000 in
theorem ggX1_device_X1_placeFor : GoodIn wsX1_device wsX1_placeFor := goodIn_r _ [132, 6, 28, 7, 15, 16, 17, 18, 19, 20, 29, 30, 31, 32, 33, 34, 35, 36, 37, 38, 39, 40, 41, 42, 43, 44, 45, 153, 154, 155, 156, 157, 158, 159, 160, 161, 162, 163, 164, 165, 166, 167, 168, 169, 170, 171, 172, 173, 174, 175, 176, 177, 178, 179, 180, 181, 182] (by decide +kernel) (by decide +kernel)
set_option maxRecDepth 20000 in
theorem gX1_device_X1_placeFor : GoodIn wsX1_device (wsV RX1 88 RX1 yX1_placeFor wsX1_placeFor) := goodIn_app (goodIn_of _ (by decide +kernel)) ggX1_device_X1_placeFor
set_option maxRecDepth 20000 in
theorem ggX1_device_Jx4a65c_add_7a177 : GoodIn wsX1_device wsJx4a65c_add_7a177 := goodIn_r _ [136, 83, 84, 20, 45, 137, 126, 127, 128, 138, 139, 140, 18, 141, 89, 90, 91, 92, 93, 94, 95, 96, 97, 98, 57, 58, 59, 99, 100, 101, 102, 103, 104, 105, 106, 107, 108, 109, 110, 111, 112, 113, 114, 115, 116, 117, 118, 119, 120, 121, 122, 123, 124, 125, 180, 181, 182] (by decide +kernel) (by decide +kernel)
set_option maxRecDepth 20000 in
theorem gX1_device_Jx4a65c_add_7a177 : GoodIn wsX1_device (wsV RX1 91 RJx4a65c yJx4a65c_add_7a177 wsJx4a65c_add_7a177) := goodIn_app (goodIn_of _ (by decide +kernel)) ggX1_device_Jx4a65c_add_7a177
set_option maxRecDepth 20000 in
theorem ggX1_device_X1_rouse : GoodIn wsX1_device wsX1_rouse := goodIn_r _ [145, 2, 28, 146, 15, 16, 17, 18, 19, 20, 29, 30, 31, 32, 33, 34, 35, 36, 37, 38, 39, 40, 41, 42, 43, 44, 45, 46, 47, 13, 48, 49, 50, 51, 9, 147, 148, 149, 150, 151, 152, 153, 154, 155, 156, 157, 158, 159, 160, 161, 162, 163, 164, 165, 166, 167, 168, 169, 170, 171, 172, 173, 174, 175, 176, 177, 178, 179, 180, 181, 182] (by decide +kernel) (by decide +kernel)
set_option maxRecDepth 20000 in
theorem gX1_device_X1_rouse : GoodIn wsX1_device (wsV RX1 97 RX1 yX1_rouse wsX1_rouse) := goodIn_app (goodIn_of _ (by decide +kernel)) ggX1_device_X1_rouse
theorem dX1_device_0 : decode cX1_device 0 = .ok (.aload_n 0, 1) := by decide +kernel
theorem dX1_device_1 : decode cX1_device 1 = .ok (.iload_n 1, 1) := by decide +kernel
theorem dX1_device_2 : decode cX1_device 2 = .ok (.invokevirtual 57, 3) := by decide +kernel
theorem dX1_device_5 : decode cX1_device 5 = .ok (.ifCond .eq 34, 3) := by decide +kernel
theorem dX1_device_8 : decode cX1_device 8 = .ok (.iload_n 2, 1) := by decide +kernel
theorem dX1_device_9 : decode cX1_device 9 = .ok (.iconst 1, 1) := by decide +kernel
theorem dX1_device_10 : decode cX1_device 10 = .ok (.bipush 20, 2) := by decide +kernel
theorem dX1_device_12 : decode cX1_device 12 = .ok (.invokestatic 61, 3) := by decide +kernel
theorem dX1_device_15 : decode cX1_device 15 = .ok (.ifCond .eq 24, 3) := by decide +kernel
theorem dX1_device_18 : decode cX1_device 18 = .ok (.iload_n 3, 1) := by decide +kernel
theorem dX1_device_19 : decode cX1_device 19 = .ok (.iconst 1, 1) := by decide +kernel
theorem dX1_device_20 : decode cX1_device 20 = .ok (.bipush 20, 2) := by decide +kernel
theorem dX1_device_22 : decode cX1_device 22 = .ok (.invokestatic 61, 3) := by decide +kernel
theorem dX1_device_25 : decode cX1_device 25 = .ok (.ifCond .eq 14, 3) := by decide +kernel
theorem dX1_device_28 : decode cX1_device 28 = .ok (.iload 4, 2) := by decide +kernel
theorem dX1_device_30 : decode cX1_device 30 = .ok (.iconst 0, 1) := by decide +kernel
theorem dX1_device_31 : decode cX1_device 31 = .ok (.bipush 50, 2) := by decide +kernel
theorem dX1_device_33 : decode cX1_device 33 = .ok (.invokestatic 61, 3) := by decide +kernel
theorem dX1_device_36 : decode cX1_device 36 = .ok (.ifCond .ne 6, 3) := by decide +kernel
theorem dX1_device_39 : decode cX1_device 39 = .ok (.bipush (-2), 2) := by decide +kernel
theorem dX1_device_41 : decode cX1_device 41 = .ok (.ireturn, 1) := by decide +kernel
theorem dX1_device_42 : decode cX1_device 42 = .ok (.aload_n 0, 1) := by decide +kernel
theorem dX1_device_43 : decode cX1_device 43 = .ok (.getfield 19, 3) := by decide +kernel
theorem dX1_device_46 : decode cX1_device 46 = .ok (.ifCond .eq 6, 3) := by decide +kernel
theorem dX1_device_49 : decode cX1_device 49 = .ok (.bipush (-3), 2) := by decide +kernel
theorem dX1_device_51 : decode cX1_device 51 = .ok (.ireturn, 1) := by decide +kernel
theorem dX1_device_52 : decode cX1_device 52 = .ok (.aload_n 0, 1) := by decide +kernel
theorem dX1_device_53 : decode cX1_device 53 = .ok (.getfield 10, 3) := by decide +kernel
theorem dX1_device_56 : decode cX1_device 56 = .ok (.invokevirtual 65, 3) := by decide +kernel
theorem dX1_device_59 : decode cX1_device 59 = .ok (.bipush 12, 2) := by decide +kernel
theorem dX1_device_61 : decode cX1_device 61 = .ok (.if_icmp .lt 6, 3) := by decide +kernel
theorem dX1_device_64 : decode cX1_device 64 = .ok (.bipush (-4), 2) := by decide +kernel
theorem dX1_device_66 : decode cX1_device 66 = .ok (.ireturn, 1) := by decide +kernel
theorem dX1_device_67 : decode cX1_device 67 = .ok (.new 69, 3) := by decide +kernel
theorem dX1_device_70 : decode cX1_device 70 = .ok (.dup, 1) := by decide +kernel
theorem dX1_device_71 : decode cX1_device 71 = .ok (.aload_n 0, 1) := by decide +kernel
theorem dX1_device_72 : decode cX1_device 72 = .ok (.getfield 10, 3) := by decide +kernel
theorem dX1_device_75 : decode cX1_device 75 = .ok (.invokevirtual 65, 3) := by decide +kernel
theorem dX1_device_78 : decode cX1_device 78 = .ok (.iload_n 1, 1) := by decide +kernel
theorem dX1_device_79 : decode cX1_device 79 = .ok (.aload_n 0, 1) := by decide +kernel
theorem dX1_device_80 : decode cX1_device 80 = .ok (.iload_n 1, 1) := by decide +kernel
theorem dX1_device_81 : decode cX1_device 81 = .ok (.invokevirtual 71, 3) := by decide +kernel
theorem dX1_device_84 : decode cX1_device 84 = .ok (.aload_n 0, 1) := by decide +kernel
theorem dX1_device_85 : decode cX1_device 85 = .ok (.iload_n 1, 1) := by decide +kernel
theorem dX1_device_86 : decode cX1_device 86 = .ok (.invokevirtual 75, 3) := by decide +kernel
theorem dX1_device_89 : decode cX1_device 89 = .ok (.iload_n 2, 1) := by decide +kernel
theorem dX1_device_90 : decode cX1_device 90 = .ok (.iload_n 3, 1) := by decide +kernel
theorem dX1_device_91 : decode cX1_device 91 = .ok (.iload 4, 2) := by decide +kernel
theorem dX1_device_93 : decode cX1_device 93 = .ok (.invokespecial 78, 3) := by decide +kernel
theorem dX1_device_96 : decode cX1_device 96 = .ok (.astore 5, 2) := by decide +kernel
theorem dX1_device_98 : decode cX1_device 98 = .ok (.aload_n 0, 1) := by decide +kernel
theorem dX1_device_99 : decode cX1_device 99 = .ok (.getfield 10, 3) := by decide +kernel
theorem dX1_device_102 : decode cX1_device 102 = .ok (.aload 5, 2) := by decide +kernel
theorem dX1_device_104 : decode cX1_device 104 = .ok (.invokevirtual 81, 3) := by decide +kernel
theorem dX1_device_107 : decode cX1_device 107 = .ok (.pop, 1) := by decide +kernel
theorem dX1_device_108 : decode cX1_device 108 = .ok (.aload_n 0, 1) := by decide +kernel
theorem dX1_device_109 : decode cX1_device 109 = .ok (.getfield 16, 3) := by decide +kernel
theorem dX1_device_112 : decode cX1_device 112 = .ok (.aload_n 0, 1) := by decide +kernel
theorem dX1_device_113 : decode cX1_device 113 = .ok (.aload 5, 2) := by decide +kernel
theorem dX1_device_115 : decode cX1_device 115 = .ok (.getfield 85, 3) := by decide +kernel
theorem dX1_device_118 : decode cX1_device 118 = .ok (.invokevirtual 88, 3) := by decide +kernel
theorem dX1_device_121 : decode cX1_device 121 = .ok (.aload 5, 2) := by decide +kernel
theorem dX1_device_123 : decode cX1_device 123 = .ok (.invokevirtual 91, 3) := by decide +kernel
theorem dX1_device_126 : decode cX1_device 126 = .ok (.aload_n 0, 1) := by decide +kernel
theorem dX1_device_127 : decode cX1_device 127 = .ok (.aload 5, 2) := by decide +kernel
theorem dX1_device_129 : decode cX1_device 129 = .ok (.getfield 94, 3) := by decide +kernel
theorem dX1_device_132 : decode cX1_device 132 = .ok (.invokevirtual 97, 3) := by decide +kernel
theorem dX1_device_135 : decode cX1_device 135 = .ok (.aload 5, 2) := by decide +kernel
theorem dX1_device_137 : decode cX1_device 137 = .ok (.getfield 101, 3) := by decide +kernel
theorem dX1_device_140 : decode cX1_device 140 = .ok (.ireturn, 1) := by decide +kernel
set_option maxRecDepth 20000 in
theorem ggX1_use_X1_find : GoodIn wsX1_use wsX1_find := goodIn_r _ [9, 10, 11, 12, 13, 14, 15, 16, 17, 18, 19, 8, 20, 21, 22, 23, 24, 25, 26, 27, 28, 29, 30, 31, 32, 33, 34, 35, 36, 37, 55, 56, 57, 58, 59, 60, 61, 62, 63, 64, 65, 66, 67, 68, 82, 83, 84] (by decide +kernel) (by decide +kernel)
set_option maxRecDepth 20000 in
theorem gX1_use_X1_find : GoodIn wsX1_use (wsV RX1 104 RX1 yX1_find wsX1_find) := goodIn_app (goodIn_of _ (by decide +kernel)) ggX1_use_X1_find
set_option maxRecDepth 20000 in
theorem ggX1_use_X1_bit : GoodIn wsX1_use wsX1_bit := goodIn_r _ [40, 41, 69, 70, 71, 72, 73, 74, 75, 76, 77, 78, 79, 80, 81] (by decide +kernel) (by decide +kernel)
set_option maxRecDepth 20000 in
theorem gX1_use_X1_bit : GoodIn wsX1_use (va_wsS RX1 111 yX1_bit wsX1_bit) := goodIn_app (goodIn_of _ (by decide +kernel)) ggX1_use_X1_bit
set_option maxRecDepth 20000 in
theorem ggX1_use_X1_rouse : GoodIn wsX1_use wsX1_rouse := goodIn_r _ [45, 10, 11, 46, 12, 13, 14, 15, 16, 17, 21, 22, 23, 24, 25, 26, 27, 28, 29, 30, 31, 32, 33, 34, 35, 36, 37, 47, 48, 8, 49, 38, 39, 40, 41, 50, 51, 52, 53, 54, 3, 55, 56, 57, 58, 59, 60, 61, 62, 63, 64, 65, 66, 67, 68, 69, 70, 71, 72, 73, 74, 75, 76, 77, 78, 79, 80, 81, 82, 83, 84] (by decide +kernel) (by decide +kernel)
set_option maxRecDepth 20000 in
theorem gX1_use_X1_rouse : GoodIn wsX1_use (wsV RX1 97 RX1 yX1_rouse wsX1_rouse) := goodIn_app (goodIn_of _ (by decide +kernel)) ggX1_use_X1_rouse
theorem dX1_use_0 : decode cX1_use 0 = .ok (.aload_n 0, 1) := by decide +kernel
theorem dX1_use_1 : decode cX1_use 1 = .ok (.iload_n 1, 1) := by decide +kernel
theorem dX1_use_2 : decode cX1_use 2 = .ok (.invokevirtual 104, 3) := by decide +kernel
theorem dX1_use_5 : decode cX1_use 5 = .ok (.astore_n 2, 1) := by decide +kernel
theorem dX1_use_6 : decode cX1_use 6 = .ok (.aload_n 2, 1) := by decide +kernel
theorem dX1_use_7 : decode cX1_use 7 = .ok (.ifnonnull 6, 3) := by decide +kernel
theorem dX1_use_10 : decode cX1_use 10 = .ok (.bipush (-2), 2) := by decide +kernel
theorem dX1_use_12 : decode cX1_use 12 = .ok (.ireturn, 1) := by decide +kernel
theorem dX1_use_13 : decode cX1_use 13 = .ok (.aload_n 0, 1) := by decide +kernel
theorem dX1_use_14 : decode cX1_use 14 = .ok (.getfield 19, 3) := by decide +kernel
theorem dX1_use_17 : decode cX1_use 17 = .ok (.ifCond .eq 6, 3) := by decide +kernel
theorem dX1_use_20 : decode cX1_use 20 = .ok (.bipush (-3), 2) := by decide +kernel
theorem dX1_use_22 : decode cX1_use 22 = .ok (.ireturn, 1) := by decide +kernel
theorem dX1_use_23 : decode cX1_use 23 = .ok (.aload_n 2, 1) := by decide +kernel
theorem dX1_use_24 : decode cX1_use 24 = .ok (.dup, 1) := by decide +kernel
theorem dX1_use_25 : decode cX1_use 25 = .ok (.getfield 108, 3) := by decide +kernel
theorem dX1_use_28 : decode cX1_use 28 = .ok (.iconst 1, 1) := by decide +kernel
theorem dX1_use_29 : decode cX1_use 29 = .ok (.iadd, 1) := by decide +kernel
theorem dX1_use_30 : decode cX1_use 30 = .ok (.putfield 108, 3) := by decide +kernel
theorem dX1_use_33 : decode cX1_use 33 = .ok (.aload_n 0, 1) := by decide +kernel
theorem dX1_use_34 : decode cX1_use 34 = .ok (.getfield 54, 3) := by decide +kernel
theorem dX1_use_37 : decode cX1_use 37 = .ok (.istore_n 3, 1) := by decide +kernel
theorem dX1_use_38 : decode cX1_use 38 = .ok (.aload_n 0, 1) := by decide +kernel
theorem dX1_use_39 : decode cX1_use 39 = .ok (.aload_n 2, 1) := by decide +kernel
theorem dX1_use_40 : decode cX1_use 40 = .ok (.getfield 94, 3) := by decide +kernel
theorem dX1_use_43 : decode cX1_use 43 = .ok (.aload_n 2, 1) := by decide +kernel
theorem dX1_use_44 : decode cX1_use 44 = .ok (.invokestatic 111, 3) := by decide +kernel
theorem dX1_use_47 : decode cX1_use 47 = .ok (.ior, 1) := by decide +kernel
theorem dX1_use_48 : decode cX1_use 48 = .ok (.invokevirtual 97, 3) := by decide +kernel
theorem dX1_use_51 : decode cX1_use 51 = .ok (.aload_n 0, 1) := by decide +kernel
theorem dX1_use_52 : decode cX1_use 52 = .ok (.getfield 54, 3) := by decide +kernel
theorem dX1_use_55 : decode cX1_use 55 = .ok (.iload_n 3, 1) := by decide +kernel
theorem dX1_use_56 : decode cX1_use 56 = .ok (.isub, 1) := by decide +kernel
theorem dX1_use_57 : decode cX1_use 57 = .ok (.ireturn, 1) := by decide +kernel
set_option maxRecDepth 20000 in
theorem ggX1_release_X1_find : GoodIn wsX1_release wsX1_find := goodIn_r _ [7, 8, 9, 10, 11, 12, 13, 14, 15, 16, 17, 6, 18, 19, 20, 21, 22, 23, 24, 25, 26, 27, 28, 29, 30, 31, 32, 33, 34, 35, 36, 37, 38, 39, 40, 41, 42, 43, 44, 45, 46, 47, 48, 49, 63, 64, 65] (by decide +kernel) (by decide +kernel)
set_option maxRecDepth 20000 in
theorem gX1_release_X1_find : GoodIn wsX1_release (wsV RX1 104 RX1 yX1_find wsX1_find) := goodIn_app (goodIn_of _ (by decide +kernel)) ggX1_release_X1_find
theorem dX1_release_0 : decode cX1_release 0 = .ok (.aload_n 0, 1) := by decide +kernel
theorem dX1_release_1 : decode cX1_release 1 = .ok (.iload_n 1, 1) := by decide +kernel
theorem dX1_release_2 : decode cX1_release 2 = .ok (.invokevirtual 104, 3) := by decide +kernel
theorem dX1_release_5 : decode cX1_release 5 = .ok (.astore_n 2, 1) := by decide +kernel
theorem dX1_release_6 : decode cX1_release 6 = .ok (.aload_n 2, 1) := by decide +kernel
theorem dX1_release_7 : decode cX1_release 7 = .ok (.ifnonnull 6, 3) := by decide +kernel
theorem dX1_release_10 : decode cX1_release 10 = .ok (.bipush (-2), 2) := by decide +kernel
theorem dX1_release_12 : decode cX1_release 12 = .ok (.ireturn, 1) := by decide +kernel
theorem dX1_release_13 : decode cX1_release 13 = .ok (.aload_n 0, 1) := by decide +kernel
theorem dX1_release_14 : decode cX1_release 14 = .ok (.getfield 19, 3) := by decide +kernel
theorem dX1_release_17 : decode cX1_release 17 = .ok (.ifCond .eq 6, 3) := by decide +kernel
theorem dX1_release_20 : decode cX1_release 20 = .ok (.bipush (-3), 2) := by decide +kernel
theorem dX1_release_22 : decode cX1_release 22 = .ok (.ireturn, 1) := by decide +kernel
theorem dX1_release_23 : decode cX1_release 23 = .ok (.aload_n 2, 1) := by decide +kernel
theorem dX1_release_24 : decode cX1_release 24 = .ok (.getfield 108, 3) := by decide +kernel
theorem dX1_release_27 : decode cX1_release 27 = .ok (.ifCond .ne 5, 3) := by decide +kernel
theorem dX1_release_30 : decode cX1_release 30 = .ok (.iconst (-1), 1) := by decide +kernel
theorem dX1_release_31 : decode cX1_release 31 = .ok (.ireturn, 1) := by decide +kernel
theorem dX1_release_32 : decode cX1_release 32 = .ok (.aload_n 2, 1) := by decide +kernel
theorem dX1_release_33 : decode cX1_release 33 = .ok (.dup, 1) := by decide +kernel
theorem dX1_release_34 : decode cX1_release 34 = .ok (.getfield 108, 3) := by decide +kernel
theorem dX1_release_37 : decode cX1_release 37 = .ok (.iconst 1, 1) := by decide +kernel
theorem dX1_release_38 : decode cX1_release 38 = .ok (.isub, 1) := by decide +kernel
theorem dX1_release_39 : decode cX1_release 39 = .ok (.putfield 108, 3) := by decide +kernel
theorem dX1_release_42 : decode cX1_release 42 = .ok (.aload_n 2, 1) := by decide +kernel
theorem dX1_release_43 : decode cX1_release 43 = .ok (.getfield 108, 3) := by decide +kernel
theorem dX1_release_46 : decode cX1_release 46 = .ok (.ireturn, 1) := by decide +kernel
set_option maxRecDepth 20000 in
theorem ggX1_waker_X1_find : GoodIn wsX1_waker wsX1_find := goodIn_r _ [6, 7, 8, 9, 10, 11, 12, 13, 14, 15, 16, 5, 17, 18, 19, 20, 21, 22, 23, 24, 25, 26, 27, 28, 29, 30, 31, 32, 33, 34, 48, 49, 50, 51, 52, 53, 54, 55, 56, 57, 58, 59, 60, 61, 62, 63, 64] (by decide +kernel) (by decide +kernel)
set_option maxRecDepth 20000 in
theorem gX1_waker_X1_find : GoodIn wsX1_waker (wsV RX1 104 RX1 yX1_find wsX1_find) := goodIn_app (goodIn_of _ (by decide +kernel)) ggX1_waker_X1_find
theorem dX1_waker_0 : decode cX1_waker 0 = .ok (.aload_n 0, 1) := by decide +kernel
theorem dX1_waker_1 : decode cX1_waker 1 = .ok (.iload_n 1, 1) := by decide +kernel
theorem dX1_waker_2 : decode cX1_waker 2 = .ok (.invokevirtual 104, 3) := by decide +kernel
theorem dX1_waker_5 : decode cX1_waker 5 = .ok (.astore_n 3, 1) := by decide +kernel
theorem dX1_waker_6 : decode cX1_waker 6 = .ok (.aload_n 3, 1) := by decide +kernel
theorem dX1_waker_7 : decode cX1_waker 7 = .ok (.ifnonnull 5, 3) := by decide +kernel
theorem dX1_waker_10 : decode cX1_waker 10 = .ok (.iconst 0, 1) := by decide +kernel
theorem dX1_waker_11 : decode cX1_waker 11 = .ok (.ireturn, 1) := by decide +kernel
theorem dX1_waker_12 : decode cX1_waker 12 = .ok (.aload_n 3, 1) := by decide +kernel
theorem dX1_waker_13 : decode cX1_waker 13 = .ok (.iload_n 2, 1) := by decide +kernel
theorem dX1_waker_14 : decode cX1_waker 14 = .ok (.putfield 115, 3) := by decide +kernel
theorem dX1_waker_17 : decode cX1_waker 17 = .ok (.iconst 1, 1) := by decide +kernel
theorem dX1_waker_18 : decode cX1_waker 18 = .ok (.ireturn, 1) := by decide +kernel
set_option maxRecDepth 20000 in
theorem ggX1_refuse_X1_find : GoodIn wsX1_refuse wsX1_find := goodIn_r _ [6, 7, 8, 9, 10, 11, 12, 13, 14, 15, 16, 5, 17, 18, 19, 20, 21, 22, 23, 24, 25, 26, 27, 28, 29, 30, 31, 32, 33, 34, 48, 49, 50, 51, 52, 53, 54, 55, 56, 57, 58, 59, 60, 61, 62, 63, 64] (by decide +kernel) (by decide +kernel)
set_option maxRecDepth 20000 in
theorem gX1_refuse_X1_find : GoodIn wsX1_refuse (wsV RX1 104 RX1 yX1_find wsX1_find) := goodIn_app (goodIn_of _ (by decide +kernel)) ggX1_refuse_X1_find
set_option maxRecDepth 20000 in
theorem ggX1_refuse_X1_isWithin : GoodIn wsX1_refuse wsX1_isWithin := goodIn_r _ [17] (by decide +kernel) (by decide +kernel)
set_option maxRecDepth 20000 in
theorem gX1_refuse_X1_isWithin : GoodIn wsX1_refuse (va_wsS RX1 61 yX1_isWithin wsX1_isWithin) := goodIn_app (goodIn_of _ (by decide +kernel)) ggX1_refuse_X1_isWithin
theorem dX1_refuse_0 : decode cX1_refuse 0 = .ok (.aload_n 0, 1) := by decide +kernel
theorem dX1_refuse_1 : decode cX1_refuse 1 = .ok (.iload_n 1, 1) := by decide +kernel
theorem dX1_refuse_2 : decode cX1_refuse 2 = .ok (.invokevirtual 104, 3) := by decide +kernel
theorem dX1_refuse_5 : decode cX1_refuse 5 = .ok (.astore_n 3, 1) := by decide +kernel
theorem dX1_refuse_6 : decode cX1_refuse 6 = .ok (.aload_n 3, 1) := by decide +kernel
theorem dX1_refuse_7 : decode cX1_refuse 7 = .ok (.ifnull 13, 3) := by decide +kernel
theorem dX1_refuse_10 : decode cX1_refuse 10 = .ok (.iload_n 2, 1) := by decide +kernel
theorem dX1_refuse_11 : decode cX1_refuse 11 = .ok (.iconst 0, 1) := by decide +kernel
theorem dX1_refuse_12 : decode cX1_refuse 12 = .ok (.bipush 9, 2) := by decide +kernel
theorem dX1_refuse_14 : decode cX1_refuse 14 = .ok (.invokestatic 61, 3) := by decide +kernel
theorem dX1_refuse_17 : decode cX1_refuse 17 = .ok (.ifCond .ne 5, 3) := by decide +kernel
theorem dX1_refuse_20 : decode cX1_refuse 20 = .ok (.iconst 0, 1) := by decide +kernel
theorem dX1_refuse_21 : decode cX1_refuse 21 = .ok (.ireturn, 1) := by decide +kernel
theorem dX1_refuse_22 : decode cX1_refuse 22 = .ok (.aload_n 3, 1) := by decide +kernel
theorem dX1_refuse_23 : decode cX1_refuse 23 = .ok (.iload_n 2, 1) := by decide +kernel
theorem dX1_refuse_24 : decode cX1_refuse 24 = .ok (.putfield 119, 3) := by decide +kernel
theorem dX1_refuse_27 : decode cX1_refuse 27 = .ok (.iconst 1, 1) := by decide +kernel
theorem dX1_refuse_28 : decode cX1_refuse 28 = .ok (.ireturn, 1) := by decide +kernel
set_option maxRecDepth 20000 in
theorem ggX1_signal_X1_find : GoodIn wsX1_signal wsX1_find := goodIn_r _ [7, 8, 9, 10, 11, 12, 13, 14, 15, 16, 17, 6, 18, 19, 20, 21, 22, 23, 24, 25, 26, 27, 28, 29, 30, 31, 32, 33, 34, 35, 84, 85, 86, 87, 88, 89, 90, 91, 92, 93, 94, 95, 96, 97, 98, 99, 100] (by decide +kernel) (by decide +kernel)
set_option maxRecDepth 20000 in
theorem gX1_signal_X1_find : GoodIn wsX1_signal (wsV RX1 104 RX1 yX1_find wsX1_find) := goodIn_app (goodIn_of _ (by decide +kernel)) ggX1_signal_X1_find
set_option maxRecDepth 20000 in
theorem ggX1_signal_X1_comeBack : GoodIn wsX1_signal wsX1_comeBack := goodIn_r _ [39, 2, 40, 41, 42, 6, 43, 44, 9, 45, 46, 47, 10, 11, 12, 13, 14, 15, 19, 20, 21, 22, 23, 24, 25, 26, 27, 28, 29, 30, 31, 32, 33, 34, 35, 48, 49, 50, 51, 52, 53, 54, 55, 56, 57, 58, 59, 60, 61, 62, 84, 85, 86, 87, 88, 89, 90, 91, 92, 93, 94, 95, 96, 97, 71, 72, 73, 74, 75, 76, 77, 78, 79, 80, 81, 82, 83, 98, 99, 100] (by decide +kernel) (by decide +kernel)
set_option maxRecDepth 20000 in
theorem gX1_signal_X1_comeBack : GoodIn wsX1_signal (wsV RX1 122 RX1 yX1_comeBack wsX1_comeBack) := goodIn_app (goodIn_of _ (by decide +kernel)) ggX1_signal_X1_comeBack
set_option maxRecDepth 20000 in
theorem ggX1_signal_X1_giveUp : GoodIn wsX1_signal wsX1_giveUp := goodIn_r _ [66, 67, 68, 69, 70, 36, 37, 38, 6, 39, 2, 40, 41, 42, 43, 44, 9, 45, 46, 47, 10, 11, 12, 13, 14, 15, 19, 20, 21, 22, 23, 24, 25, 26, 27, 28, 29, 30, 31, 32, 33, 34, 35, 48, 49, 50, 51, 52, 53, 54, 55, 56, 57, 58, 59, 60, 61, 62, 84, 85, 86, 87, 88, 89, 90, 91, 92, 93, 94, 95, 96, 97, 71, 72, 73, 74, 75, 76, 77, 78, 79, 80, 81, 82, 83, 98, 99, 100] (by decide +kernel) (by decide +kernel)
set_option maxRecDepth 20000 in
theorem gX1_signal_X1_giveUp : GoodIn wsX1_signal (wsV RX1 125 RX1 yX1_giveUp wsX1_giveUp) := goodIn_app (goodIn_of _ (by decide +kernel)) ggX1_signal_X1_giveUp
theorem dX1_signal_0 : decode cX1_signal 0 = .ok (.aload_n 0, 1) := by decide +kernel
theorem dX1_signal_1 : decode cX1_signal 1 = .ok (.iload_n 1, 1) := by decide +kernel
theorem dX1_signal_2 : decode cX1_signal 2 = .ok (.invokevirtual 104, 3) := by decide +kernel
theorem dX1_signal_5 : decode cX1_signal 5 = .ok (.astore_n 2, 1) := by decide +kernel
theorem dX1_signal_6 : decode cX1_signal 6 = .ok (.aload_n 2, 1) := by decide +kernel
theorem dX1_signal_7 : decode cX1_signal 7 = .ok (.ifnonnull 6, 3) := by decide +kernel
theorem dX1_signal_10 : decode cX1_signal 10 = .ok (.bipush (-2), 2) := by decide +kernel
theorem dX1_signal_12 : decode cX1_signal 12 = .ok (.ireturn, 1) := by decide +kernel
theorem dX1_signal_13 : decode cX1_signal 13 = .ok (.aload_n 2, 1) := by decide +kernel
theorem dX1_signal_14 : decode cX1_signal 14 = .ok (.getfield 115, 3) := by decide +kernel
theorem dX1_signal_17 : decode cX1_signal 17 = .ok (.ifCond .eq 18, 3) := by decide +kernel
theorem dX1_signal_20 : decode cX1_signal 20 = .ok (.aload_n 0, 1) := by decide +kernel
theorem dX1_signal_21 : decode cX1_signal 21 = .ok (.getfield 19, 3) := by decide +kernel
theorem dX1_signal_24 : decode cX1_signal 24 = .ok (.iconst 2, 1) := by decide +kernel
theorem dX1_signal_25 : decode cX1_signal 25 = .ok (.if_icmp .ne 10, 3) := by decide +kernel
theorem dX1_signal_28 : decode cX1_signal 28 = .ok (.aload_n 0, 1) := by decide +kernel
theorem dX1_signal_29 : decode cX1_signal 29 = .ok (.iconst 3, 1) := by decide +kernel
theorem dX1_signal_30 : decode cX1_signal 30 = .ok (.invokevirtual 122, 3) := by decide +kernel
theorem dX1_signal_33 : decode cX1_signal 33 = .ok (.iconst 1, 1) := by decide +kernel
theorem dX1_signal_34 : decode cX1_signal 34 = .ok (.ireturn, 1) := by decide +kernel
theorem dX1_signal_35 : decode cX1_signal 35 = .ok (.aload_n 2, 1) := by decide +kernel
theorem dX1_signal_36 : decode cX1_signal 36 = .ok (.getfield 115, 3) := by decide +kernel
theorem dX1_signal_39 : decode cX1_signal 39 = .ok (.ifCond .eq 19, 3) := by decide +kernel
theorem dX1_signal_42 : decode cX1_signal 42 = .ok (.aload_n 0, 1) := by decide +kernel
theorem dX1_signal_43 : decode cX1_signal 43 = .ok (.getfield 19, 3) := by decide +kernel
theorem dX1_signal_46 : decode cX1_signal 46 = .ok (.iconst 1, 1) := by decide +kernel
theorem dX1_signal_47 : decode cX1_signal 47 = .ok (.if_icmp .ne 11, 3) := by decide +kernel
theorem dX1_signal_50 : decode cX1_signal 50 = .ok (.aload_n 0, 1) := by decide +kernel
theorem dX1_signal_51 : decode cX1_signal 51 = .ok (.iconst 2, 1) := by decide +kernel
theorem dX1_signal_52 : decode cX1_signal 52 = .ok (.aload_n 2, 1) := by decide +kernel
theorem dX1_signal_53 : decode cX1_signal 53 = .ok (.invokevirtual 125, 3) := by decide +kernel
theorem dX1_signal_56 : decode cX1_signal 56 = .ok (.iconst 1, 1) := by decide +kernel
theorem dX1_signal_57 : decode cX1_signal 57 = .ok (.ireturn, 1) := by decide +kernel
theorem dX1_signal_58 : decode cX1_signal 58 = .ok (.iconst 0, 1) := by decide +kernel
theorem dX1_signal_59 : decode cX1_signal 59 = .ok (.ireturn, 1) := by decide +kernel
set_option maxRecDepth 20000 in
theorem ggX1_sleep_Jx4a65c_size_8abf5 : GoodIn wsX1_sleep wsJx4a65c_size_8abf5 := goodIn_r _ [10, 11, 79, 80, 81] (by decide +kernel) (by decide +kernel)
set_option maxRecDepth 20000 in
theorem gX1_sleep_Jx4a65c_size_8abf5 : GoodIn wsX1_sleep (wsV RX1 65 RJx4a65c yJx4a65c_size_8abf5 wsJx4a65c_size_8abf5) := goodIn_app (goodIn_of _ (by decide +kernel)) ggX1_sleep_Jx4a65c_size_8abf5
set_option maxRecDepth 20000 in
theorem ggX1_sleep_Jx4a65c_get_915e3 : GoodIn wsX1_sleep wsJx4a65c_get_915e3 := goodIn_r _ [15, 11, 16, 17, 18, 19, 20, 21, 22, 23, 24, 25, 26, 9, 27, 28, 79, 80, 81] (by decide +kernel) (by decide +kernel)
set_option maxRecDepth 20000 in
theorem gX1_sleep_Jx4a65c_get_915e3 : GoodIn wsX1_sleep (wsV RX1 129 RJx4a65c yJx4a65c_get_915e3 wsJx4a65c_get_915e3) := goodIn_app (goodIn_of _ (by decide +kernel)) ggX1_sleep_Jx4a65c_get_915e3
set_option maxRecDepth 20000 in
theorem ggX1_sleep_X1_sinkFurther : GoodIn wsX1_sleep wsX1_sinkFurther := goodIn_r _ [33, 34, 3, 4, 35, 1, 36, 6, 7, 8, 9, 10, 11, 12, 13, 14, 15, 16, 17, 18, 19, 20, 21, 22, 23, 24, 25, 26, 27, 28, 37, 38, 39, 32, 40, 41, 42, 43, 44, 45, 46, 47, 48, 49, 50, 51, 52, 53, 54, 55, 56, 57, 58, 59, 60, 61, 62, 63, 64, 65, 66, 67, 68, 69, 70, 71, 72, 73, 74, 75, 76, 77, 78, 79, 80, 81] (by decide +kernel) (by decide +kernel)
set_option maxRecDepth 20000 in
theorem gX1_sleep_X1_sinkFurther : GoodIn wsX1_sleep (wsV RX1 139 RX1 yX1_sinkFurther wsX1_sinkFurther) := goodIn_app (goodIn_of _ (by decide +kernel)) ggX1_sleep_X1_sinkFurther
theorem dX1_sleep_0 : decode cX1_sleep 0 = .ok (.aload_n 0, 1) := by decide +kernel
theorem dX1_sleep_1 : decode cX1_sleep 1 = .ok (.getfield 19, 3) := by decide +kernel
theorem dX1_sleep_4 : decode cX1_sleep 4 = .ok (.ifCond .eq 6, 3) := by decide +kernel
theorem dX1_sleep_7 : decode cX1_sleep 7 = .ok (.bipush (-3), 2) := by decide +kernel
theorem dX1_sleep_9 : decode cX1_sleep 9 = .ok (.ireturn, 1) := by decide +kernel
theorem dX1_sleep_10 : decode cX1_sleep 10 = .ok (.iconst 0, 1) := by decide +kernel
theorem dX1_sleep_11 : decode cX1_sleep 11 = .ok (.istore_n 1, 1) := by decide +kernel
theorem dX1_sleep_12 : decode cX1_sleep 12 = .ok (.iload_n 1, 1) := by decide +kernel
theorem dX1_sleep_13 : decode cX1_sleep 13 = .ok (.aload_n 0, 1) := by decide +kernel
theorem dX1_sleep_14 : decode cX1_sleep 14 = .ok (.getfield 10, 3) := by decide +kernel
theorem dX1_sleep_17 : decode cX1_sleep 17 = .ok (.invokevirtual 65, 3) := by decide +kernel
theorem dX1_sleep_20 : decode cX1_sleep 20 = .ok (.if_icmp .ge 29, 3) := by decide +kernel
theorem dX1_sleep_23 : decode cX1_sleep 23 = .ok (.aload_n 0, 1) := by decide +kernel
theorem dX1_sleep_24 : decode cX1_sleep 24 = .ok (.getfield 10, 3) := by decide +kernel
theorem dX1_sleep_27 : decode cX1_sleep 27 = .ok (.iload_n 1, 1) := by decide +kernel
theorem dX1_sleep_28 : decode cX1_sleep 28 = .ok (.invokevirtual 129, 3) := by decide +kernel
theorem dX1_sleep_31 : decode cX1_sleep 31 = .ok (.checkcast 69, 3) := by decide +kernel
theorem dX1_sleep_34 : decode cX1_sleep 34 = .ok (.astore_n 2, 1) := by decide +kernel
theorem dX1_sleep_35 : decode cX1_sleep 35 = .ok (.aload_n 2, 1) := by decide +kernel
theorem dX1_sleep_36 : decode cX1_sleep 36 = .ok (.aload_n 2, 1) := by decide +kernel
theorem dX1_sleep_37 : decode cX1_sleep 37 = .ok (.getfield 133, 3) := by decide +kernel
theorem dX1_sleep_40 : decode cX1_sleep 40 = .ok (.putfield 136, 3) := by decide +kernel
theorem dX1_sleep_43 : decode cX1_sleep 43 = .ok (.iinc 1 1, 3) := by decide +kernel
theorem dX1_sleep_46 : decode cX1_sleep 46 = .ok (.goto (-34), 3) := by decide +kernel
theorem dX1_sleep_49 : decode cX1_sleep 49 = .ok (.aload_n 0, 1) := by decide +kernel
theorem dX1_sleep_50 : decode cX1_sleep 50 = .ok (.iconst 1, 1) := by decide +kernel
theorem dX1_sleep_51 : decode cX1_sleep 51 = .ok (.putfield 19, 3) := by decide +kernel
theorem dX1_sleep_54 : decode cX1_sleep 54 = .ok (.aload_n 0, 1) := by decide +kernel
theorem dX1_sleep_55 : decode cX1_sleep 55 = .ok (.invokevirtual 139, 3) := by decide +kernel
theorem dX1_sleep_58 : decode cX1_sleep 58 = .ok (.aload_n 0, 1) := by decide +kernel
theorem dX1_sleep_59 : decode cX1_sleep 59 = .ok (.getfield 19, 3) := by decide +kernel
theorem dX1_sleep_62 : decode cX1_sleep 62 = .ok (.ireturn, 1) := by decide +kernel
set_option maxRecDepth 20000 in
theorem ggX1_watch_X1_isWithin : GoodIn wsX1_watch wsX1_isWithin := goodIn_r _ [6] (by decide +kernel) (by decide +kernel)
set_option maxRecDepth 20000 in
theorem gX1_watch_X1_isWithin : GoodIn wsX1_watch (va_wsS RX1 61 yX1_isWithin wsX1_isWithin) := goodIn_app (goodIn_of _ (by decide +kernel)) ggX1_watch_X1_isWithin
theorem dX1_watch_0 : decode cX1_watch 0 = .ok (.iload_n 1, 1) := by decide +kernel
theorem dX1_watch_1 : decode cX1_watch 1 = .ok (.iconst 0, 1) := by decide +kernel
theorem dX1_watch_2 : decode cX1_watch 2 = .ok (.bipush 100, 2) := by decide +kernel
theorem dX1_watch_4 : decode cX1_watch 4 = .ok (.invokestatic 61, 3) := by decide +kernel
theorem dX1_watch_7 : decode cX1_watch 7 = .ok (.ifCond .ne 5, 3) := by decide +kernel
theorem dX1_watch_10 : decode cX1_watch 10 = .ok (.iconst 0, 1) := by decide +kernel
theorem dX1_watch_11 : decode cX1_watch 11 = .ok (.ireturn, 1) := by decide +kernel
theorem dX1_watch_12 : decode cX1_watch 12 = .ok (.aload_n 0, 1) := by decide +kernel
theorem dX1_watch_13 : decode cX1_watch 13 = .ok (.iload_n 1, 1) := by decide +kernel
theorem dX1_watch_14 : decode cX1_watch 14 = .ok (.putfield 33, 3) := by decide +kernel
theorem dX1_watch_17 : decode cX1_watch 17 = .ok (.aload_n 0, 1) := by decide +kernel
theorem dX1_watch_18 : decode cX1_watch 18 = .ok (.iconst 0, 1) := by decide +kernel
theorem dX1_watch_19 : decode cX1_watch 19 = .ok (.putfield 36, 3) := by decide +kernel
theorem dX1_watch_22 : decode cX1_watch 22 = .ok (.iconst 1, 1) := by decide +kernel
theorem dX1_watch_23 : decode cX1_watch 23 = .ok (.ireturn, 1) := by decide +kernel
theorem dX1_kick_0 : decode cX1_kick 0 = .ok (.aload_n 0, 1) := by decide +kernel
theorem dX1_kick_1 : decode cX1_kick 1 = .ok (.getfield 36, 3) := by decide +kernel
theorem dX1_kick_4 : decode cX1_kick 4 = .ok (.istore_n 1, 1) := by decide +kernel
theorem dX1_kick_5 : decode cX1_kick 5 = .ok (.aload_n 0, 1) := by decide +kernel
theorem dX1_kick_6 : decode cX1_kick 6 = .ok (.iconst 0, 1) := by decide +kernel
theorem dX1_kick_7 : decode cX1_kick 7 = .ok (.putfield 36, 3) := by decide +kernel
theorem dX1_kick_10 : decode cX1_kick 10 = .ok (.iload_n 1, 1) := by decide +kernel
theorem dX1_kick_11 : decode cX1_kick 11 = .ok (.ireturn, 1) := by decide +kernel
set_option maxRecDepth 20000 in
theorem ggX1_tick_X1_isWithin : GoodIn wsX1_tick wsX1_isWithin := goodIn_r _ [5] (by decide +kernel) (by decide +kernel)
set_option maxRecDepth 20000 in
theorem gX1_tick_X1_isWithin : GoodIn wsX1_tick (va_wsS RX1 61 yX1_isWithin wsX1_isWithin) := goodIn_app (goodIn_of _ (by decide +kernel)) ggX1_tick_X1_isWithin
set_option maxRecDepth 20000 in
theorem ggX1_tick_X1_passOneTick : GoodIn wsX1_tick wsX1_passOneTick := goodIn_r _ [9, 10, 11, 12, 13, 14, 15, 4, 16, 17, 18, 19, 20, 21, 22, 23, 24, 25, 26, 27, 28, 29, 30, 31, 32, 33, 34, 35, 36, 37, 38, 39, 40, 41, 42, 43, 44, 45, 46, 47, 48, 49, 50, 51, 52, 53, 54, 55, 56, 57, 1, 58, 59, 60, 61, 62, 63, 64, 65, 66, 67, 68, 69, 70, 71, 72, 73, 74, 75, 76, 77, 78, 79, 80, 81, 82, 83, 84, 85, 86, 87, 88, 89, 90, 91, 92, 93, 94, 95, 96, 97, 98, 99, 100, 101, 102, 103, 104, 105, 106, 107, 108, 109, 110, 111, 112, 113, 114, 115, 116, 117, 118, 119, 120, 121, 122, 123, 124, 125, 126, 127, 128, 129, 130, 131, 132, 133, 134, 135, 136, 137, 138, 139, 140] (by decide +kernel) (by decide +kernel)
set_option maxRecDepth 20000 in
theorem gX1_tick_X1_passOneTick : GoodIn wsX1_tick (wsV RX1 142 RX1 yX1_passOneTick wsX1_passOneTick) := goodIn_app (goodIn_of _ (by decide +kernel)) ggX1_tick_X1_passOneTick
theorem dX1_tick_0 : decode cX1_tick 0 = .ok (.iload_n 1, 1) := by decide +kernel
theorem dX1_tick_1 : decode cX1_tick 1 = .ok (.iconst 0, 1) := by decide +kernel
theorem dX1_tick_2 : decode cX1_tick 2 = .ok (.sipush 200, 3) := by decide +kernel
theorem dX1_tick_5 : decode cX1_tick 5 = .ok (.invokestatic 61, 3) := by decide +kernel
theorem dX1_tick_8 : decode cX1_tick 8 = .ok (.ifCond .ne 6, 3) := by decide +kernel
theorem dX1_tick_11 : decode cX1_tick 11 = .ok (.bipush (-2), 2) := by decide +kernel
theorem dX1_tick_13 : decode cX1_tick 13 = .ok (.ireturn, 1) := by decide +kernel
theorem dX1_tick_14 : decode cX1_tick 14 = .ok (.aload_n 0, 1) := by decide +kernel
theorem dX1_tick_15 : decode cX1_tick 15 = .ok (.getfield 54, 3) := by decide +kernel
theorem dX1_tick_18 : decode cX1_tick 18 = .ok (.istore_n 2, 1) := by decide +kernel
theorem dX1_tick_19 : decode cX1_tick 19 = .ok (.iconst 0, 1) := by decide +kernel
theorem dX1_tick_20 : decode cX1_tick 20 = .ok (.istore_n 3, 1) := by decide +kernel
theorem dX1_tick_21 : decode cX1_tick 21 = .ok (.iload_n 3, 1) := by decide +kernel
theorem dX1_tick_22 : decode cX1_tick 22 = .ok (.iload_n 1, 1) := by decide +kernel
theorem dX1_tick_23 : decode cX1_tick 23 = .ok (.if_icmp .ge 13, 3) := by decide +kernel
theorem dX1_tick_26 : decode cX1_tick 26 = .ok (.aload_n 0, 1) := by decide +kernel
theorem dX1_tick_27 : decode cX1_tick 27 = .ok (.invokevirtual 142, 3) := by decide +kernel
theorem dX1_tick_30 : decode cX1_tick 30 = .ok (.iinc 3 1, 3) := by decide +kernel
theorem dX1_tick_33 : decode cX1_tick 33 = .ok (.goto (-12), 3) := by decide +kernel
theorem dX1_tick_36 : decode cX1_tick 36 = .ok (.aload_n 0, 1) := by decide +kernel
theorem dX1_tick_37 : decode cX1_tick 37 = .ok (.getfield 54, 3) := by decide +kernel
theorem dX1_tick_40 : decode cX1_tick 40 = .ok (.iload_n 2, 1) := by decide +kernel
theorem dX1_tick_41 : decode cX1_tick 41 = .ok (.isub, 1) := by decide +kernel
theorem dX1_tick_42 : decode cX1_tick 42 = .ok (.ireturn, 1) := by decide +kernel
theorem dX1_phase_0 : decode cX1_phase 0 = .ok (.aload_n 0, 1) := by decide +kernel
theorem dX1_phase_1 : decode cX1_phase 1 = .ok (.getfield 19, 3) := by decide +kernel
theorem dX1_phase_4 : decode cX1_phase 4 = .ok (.ireturn, 1) := by decide +kernel
set_option maxRecDepth 20000 in
theorem ggX1_state_X1_find : GoodIn wsX1_state wsX1_find := goodIn_r _ [6, 7, 8, 9, 10, 11, 12, 13, 14, 15, 16, 5, 17, 18, 19, 20, 21, 22, 23, 24, 25, 26, 27, 28, 29, 30, 31, 32, 33, 34, 48, 49, 50, 51, 52, 53, 54, 55, 56, 57, 58, 59, 60, 61, 62, 63, 64] (by decide +kernel) (by decide +kernel)
set_option maxRecDepth 20000 in
theorem gX1_state_X1_find : GoodIn wsX1_state (wsV RX1 104 RX1 yX1_find wsX1_find) := goodIn_app (goodIn_of _ (by decide +kernel)) ggX1_state_X1_find
theorem dX1_state_0 : decode cX1_state 0 = .ok (.aload_n 0, 1) := by decide +kernel
theorem dX1_state_1 : decode cX1_state 1 = .ok (.iload_n 1, 1) := by decide +kernel
theorem dX1_state_2 : decode cX1_state 2 = .ok (.invokevirtual 104, 3) := by decide +kernel
theorem dX1_state_5 : decode cX1_state 5 = .ok (.astore_n 2, 1) := by decide +kernel
theorem dX1_state_6 : decode cX1_state 6 = .ok (.aload_n 2, 1) := by decide +kernel
theorem dX1_state_7 : decode cX1_state 7 = .ok (.ifnonnull 8, 3) := by decide +kernel
theorem dX1_state_10 : decode cX1_state 10 = .ok (.bipush (-2), 2) := by decide +kernel
theorem dX1_state_12 : decode cX1_state 12 = .ok (.goto 7, 3) := by decide +kernel
theorem dX1_state_15 : decode cX1_state 15 = .ok (.aload_n 2, 1) := by decide +kernel
theorem dX1_state_16 : decode cX1_state 16 = .ok (.getfield 133, 3) := by decide +kernel
theorem dX1_state_19 : decode cX1_state 19 = .ok (.ireturn, 1) := by decide +kernel
set_option maxRecDepth 20000 in
theorem ggX1_uses_X1_find : GoodIn wsX1_uses wsX1_find := goodIn_r _ [6, 7, 8, 9, 10, 11, 12, 13, 14, 15, 16, 5, 17, 18, 19, 20, 21, 22, 23, 24, 25, 26, 27, 28, 29, 30, 31, 32, 33, 34, 48, 49, 50, 51, 52, 53, 54, 55, 56, 57, 58, 59, 60, 61, 62, 63, 64] (by decide +kernel) (by decide +kernel)
set_option maxRecDepth 20000 in
theorem gX1_uses_X1_find : GoodIn wsX1_uses (wsV RX1 104 RX1 yX1_find wsX1_find) := goodIn_app (goodIn_of _ (by decide +kernel)) ggX1_uses_X1_find
theorem dX1_uses_0 : decode cX1_uses 0 = .ok (.aload_n 0, 1) := by decide +kernel
theorem dX1_uses_1 : decode cX1_uses 1 = .ok (.iload_n 1, 1) := by decide +kernel
theorem dX1_uses_2 : decode cX1_uses 2 = .ok (.invokevirtual 104, 3) := by decide +kernel
theorem dX1_uses_5 : decode cX1_uses 5 = .ok (.astore_n 2, 1) := by decide +kernel
theorem dX1_uses_6 : decode cX1_uses 6 = .ok (.aload_n 2, 1) := by decide +kernel
theorem dX1_uses_7 : decode cX1_uses 7 = .ok (.ifnonnull 8, 3) := by decide +kernel
theorem dX1_uses_10 : decode cX1_uses 10 = .ok (.bipush (-2), 2) := by decide +kernel
theorem dX1_uses_12 : decode cX1_uses 12 = .ok (.goto 7, 3) := by decide +kernel
theorem dX1_uses_15 : decode cX1_uses 15 = .ok (.aload_n 2, 1) := by decide +kernel
theorem dX1_uses_16 : decode cX1_uses 16 = .ok (.getfield 108, 3) := by decide +kernel
theorem dX1_uses_19 : decode cX1_uses 19 = .ok (.ireturn, 1) := by decide +kernel
set_option maxRecDepth 20000 in
theorem ggX1_idle_X1_find : GoodIn wsX1_idle wsX1_find := goodIn_r _ [6, 7, 8, 9, 10, 11, 12, 13, 14, 15, 16, 5, 17, 18, 19, 20, 21, 22, 23, 24, 25, 26, 27, 28, 29, 30, 31, 32, 33, 34, 48, 49, 50, 51, 52, 53, 54, 55, 56, 57, 58, 59, 60, 61, 62, 63, 64] (by decide +kernel) (by decide +kernel)
set_option maxRecDepth 20000 in
theorem gX1_idle_X1_find : GoodIn wsX1_idle (wsV RX1 104 RX1 yX1_find wsX1_find) := goodIn_app (goodIn_of _ (by decide +kernel)) ggX1_idle_X1_find
theorem dX1_idle_0 : decode cX1_idle 0 = .ok (.aload_n 0, 1) := by decide +kernel
theorem dX1_idle_1 : decode cX1_idle 1 = .ok (.iload_n 1, 1) := by decide +kernel
theorem dX1_idle_2 : decode cX1_idle 2 = .ok (.invokevirtual 104, 3) := by decide +kernel
theorem dX1_idle_5 : decode cX1_idle 5 = .ok (.astore_n 2, 1) := by decide +kernel
theorem dX1_idle_6 : decode cX1_idle 6 = .ok (.aload_n 2, 1) := by decide +kernel
theorem dX1_idle_7 : decode cX1_idle 7 = .ok (.ifnonnull 8, 3) := by decide +kernel
theorem dX1_idle_10 : decode cX1_idle 10 = .ok (.bipush (-2), 2) := by decide +kernel
theorem dX1_idle_12 : decode cX1_idle 12 = .ok (.goto 7, 3) := by decide +kernel
theorem dX1_idle_15 : decode cX1_idle 15 = .ok (.aload_n 2, 1) := by decide +kernel
theorem dX1_idle_16 : decode cX1_idle 16 = .ok (.getfield 145, 3) := by decide +kernel
theorem dX1_idle_19 : decode cX1_idle 19 = .ok (.ireturn, 1) := by decide +kernel
set_option maxRecDepth 20000 in
theorem ggX1_refusals_X1_find : GoodIn wsX1_refusals wsX1_find := goodIn_r _ [6, 7, 8, 9, 10, 11, 12, 13, 14, 15, 16, 5, 17, 18, 19, 20, 21, 22, 23, 24, 25, 26, 27, 28, 29, 30, 31, 32, 33, 34, 48, 49, 50, 51, 52, 53, 54, 55, 56, 57, 58, 59, 60, 61, 62, 63, 64] (by decide +kernel) (by decide +kernel)
set_option maxRecDepth 20000 in
theorem gX1_refusals_X1_find : GoodIn wsX1_refusals (wsV RX1 104 RX1 yX1_find wsX1_find) := goodIn_app (goodIn_of _ (by decide +kernel)) ggX1_refusals_X1_find
theorem dX1_refusals_0 : decode cX1_refusals 0 = .ok (.aload_n 0, 1) := by decide +kernel
theorem dX1_refusals_1 : decode cX1_refusals 1 = .ok (.iload_n 1, 1) := by decide +kernel
theorem dX1_refusals_2 : decode cX1_refusals 2 = .ok (.invokevirtual 104, 3) := by decide +kernel
theorem dX1_refusals_5 : decode cX1_refusals 5 = .ok (.astore_n 2, 1) := by decide +kernel
theorem dX1_refusals_6 : decode cX1_refusals 6 = .ok (.aload_n 2, 1) := by decide +kernel
theorem dX1_refusals_7 : decode cX1_refusals 7 = .ok (.ifnonnull 8, 3) := by decide +kernel
theorem dX1_refusals_10 : decode cX1_refusals 10 = .ok (.bipush (-2), 2) := by decide +kernel
theorem dX1_refusals_12 : decode cX1_refusals 12 = .ok (.goto 7, 3) := by decide +kernel
theorem dX1_refusals_15 : decode cX1_refusals 15 = .ok (.aload_n 2, 1) := by decide +kernel
theorem dX1_refusals_16 : decode cX1_refusals 16 = .ok (.getfield 119, 3) := by decide +kernel
theorem dX1_refusals_19 : decode cX1_refusals 19 = .ok (.ireturn, 1) := by decide +kernel
theorem dX1_due_0 : decode cX1_due 0 = .ok (.aload_n 0, 1) := by decide +kernel
theorem dX1_due_1 : decode cX1_due 1 = .ok (.getfield 23, 3) := by decide +kernel
theorem dX1_due_4 : decode cX1_due 4 = .ok (.ifnonnull 7, 3) := by decide +kernel
theorem dX1_due_7 : decode cX1_due 7 = .ok (.iconst (-1), 1) := by decide +kernel
theorem dX1_due_8 : decode cX1_due 8 = .ok (.goto 10, 3) := by decide +kernel
theorem dX1_due_11 : decode cX1_due 11 = .ok (.aload_n 0, 1) := by decide +kernel
theorem dX1_due_12 : decode cX1_due 12 = .ok (.getfield 23, 3) := by decide +kernel
theorem dX1_due_15 : decode cX1_due 15 = .ok (.getfield 101, 3) := by decide +kernel
theorem dX1_due_18 : decode cX1_due 18 = .ok (.ireturn, 1) := by decide +kernel
theorem dX1_left_0 : decode cX1_left 0 = .ok (.aload_n 0, 1) := by decide +kernel
theorem dX1_left_1 : decode cX1_left 1 = .ok (.getfield 27, 3) := by decide +kernel
theorem dX1_left_4 : decode cX1_left 4 = .ok (.ireturn, 1) := by decide +kernel
theorem dX1_named_0 : decode cX1_named 0 = .ok (.aload_n 0, 1) := by decide +kernel
theorem dX1_named_1 : decode cX1_named 1 = .ok (.getfield 51, 3) := by decide +kernel
theorem dX1_named_4 : decode cX1_named 4 = .ok (.ireturn, 1) := by decide +kernel
set_option maxRecDepth 20000 in
theorem ggX1_figure_Jx4a65c_size_8abf5 : GoodIn wsX1_figure wsJx4a65c_size_8abf5 := goodIn_r _ [12, 13, 28, 29, 30] (by decide +kernel) (by decide +kernel)
set_option maxRecDepth 20000 in
theorem gX1_figure_Jx4a65c_size_8abf5 : GoodIn wsX1_figure (wsV RX1 65 RJx4a65c yJx4a65c_size_8abf5 wsJx4a65c_size_8abf5) := goodIn_app (goodIn_of _ (by decide +kernel)) ggX1_figure_Jx4a65c_size_8abf5
theorem dX1_figure_0 : decode cX1_figure 0 = .ok (.iload_n 1, 1) := by decide +kernel
theorem dX1_figure_1 : decode cX1_figure 1 = .ok (.tableswitch 81 0 6 #[43, 48, 53, 58, 63, 68, 73], 43) := by decide +kernel
theorem dX1_figure_44 : decode cX1_figure 44 = .ok (.aload_n 0, 1) := by decide +kernel
theorem dX1_figure_45 : decode cX1_figure 45 = .ok (.getfield 30, 3) := by decide +kernel
theorem dX1_figure_48 : decode cX1_figure 48 = .ok (.ireturn, 1) := by decide +kernel
theorem dX1_figure_49 : decode cX1_figure 49 = .ok (.aload_n 0, 1) := by decide +kernel
theorem dX1_figure_50 : decode cX1_figure 50 = .ok (.getfield 36, 3) := by decide +kernel
theorem dX1_figure_53 : decode cX1_figure 53 = .ok (.ireturn, 1) := by decide +kernel
theorem dX1_figure_54 : decode cX1_figure 54 = .ok (.aload_n 0, 1) := by decide +kernel
theorem dX1_figure_55 : decode cX1_figure 55 = .ok (.getfield 39, 3) := by decide +kernel
theorem dX1_figure_58 : decode cX1_figure 58 = .ok (.ireturn, 1) := by decide +kernel
theorem dX1_figure_59 : decode cX1_figure 59 = .ok (.aload_n 0, 1) := by decide +kernel
theorem dX1_figure_60 : decode cX1_figure 60 = .ok (.getfield 42, 3) := by decide +kernel
theorem dX1_figure_63 : decode cX1_figure 63 = .ok (.ireturn, 1) := by decide +kernel
theorem dX1_figure_64 : decode cX1_figure 64 = .ok (.aload_n 0, 1) := by decide +kernel
theorem dX1_figure_65 : decode cX1_figure 65 = .ok (.getfield 45, 3) := by decide +kernel
theorem dX1_figure_68 : decode cX1_figure 68 = .ok (.ireturn, 1) := by decide +kernel
theorem dX1_figure_69 : decode cX1_figure 69 = .ok (.aload_n 0, 1) := by decide +kernel
theorem dX1_figure_70 : decode cX1_figure 70 = .ok (.getfield 48, 3) := by decide +kernel
theorem dX1_figure_73 : decode cX1_figure 73 = .ok (.ireturn, 1) := by decide +kernel
theorem dX1_figure_74 : decode cX1_figure 74 = .ok (.aload_n 0, 1) := by decide +kernel
theorem dX1_figure_75 : decode cX1_figure 75 = .ok (.getfield 10, 3) := by decide +kernel
theorem dX1_figure_78 : decode cX1_figure 78 = .ok (.invokevirtual 65, 3) := by decide +kernel
theorem dX1_figure_81 : decode cX1_figure 81 = .ok (.ireturn, 1) := by decide +kernel
theorem dX1_figure_82 : decode cX1_figure 82 = .ok (.bipush (-2), 2) := by decide +kernel
theorem dX1_figure_84 : decode cX1_figure 84 = .ok (.ireturn, 1) := by decide +kernel
theorem dX1_isWithin_0 : decode cX1_isWithin 0 = .ok (.iload_n 0, 1) := by decide +kernel
theorem dX1_isWithin_1 : decode cX1_isWithin 1 = .ok (.iload_n 1, 1) := by decide +kernel
theorem dX1_isWithin_2 : decode cX1_isWithin 2 = .ok (.if_icmp .lt 12, 3) := by decide +kernel
theorem dX1_isWithin_5 : decode cX1_isWithin 5 = .ok (.iload_n 0, 1) := by decide +kernel
theorem dX1_isWithin_6 : decode cX1_isWithin 6 = .ok (.iload_n 2, 1) := by decide +kernel
theorem dX1_isWithin_7 : decode cX1_isWithin 7 = .ok (.if_icmp .gt 7, 3) := by decide +kernel
theorem dX1_isWithin_10 : decode cX1_isWithin 10 = .ok (.iconst 1, 1) := by decide +kernel
theorem dX1_isWithin_11 : decode cX1_isWithin 11 = .ok (.goto 4, 3) := by decide +kernel
theorem dX1_isWithin_14 : decode cX1_isWithin 14 = .ok (.iconst 0, 1) := by decide +kernel
theorem dX1_isWithin_15 : decode cX1_isWithin 15 = .ok (.ireturn, 1) := by decide +kernel
theorem dX1_bit_0 : decode cX1_bit 0 = .ok (.iconst 1, 1) := by decide +kernel
theorem dX1_bit_1 : decode cX1_bit 1 = .ok (.aload_n 0, 1) := by decide +kernel
theorem dX1_bit_2 : decode cX1_bit 2 = .ok (.getfield 101, 3) := by decide +kernel
theorem dX1_bit_5 : decode cX1_bit 5 = .ok (.ishl, 1) := by decide +kernel
theorem dX1_bit_6 : decode cX1_bit 6 = .ok (.ireturn, 1) := by decide +kernel
set_option maxRecDepth 20000 in
theorem ggX1_holds_X1_bit : GoodIn wsX1_holds wsX1_bit := goodIn_r _ [4, 5, 6, 7, 8, 9, 10, 11, 12, 13, 14, 15, 16, 17, 18] (by decide +kernel) (by decide +kernel)
set_option maxRecDepth 20000 in
theorem gX1_holds_X1_bit : GoodIn wsX1_holds (va_wsS RX1 111 yX1_bit wsX1_bit) := goodIn_app (goodIn_of _ (by decide +kernel)) ggX1_holds_X1_bit
theorem dX1_holds_0 : decode cX1_holds 0 = .ok (.iload_n 0, 1) := by decide +kernel
theorem dX1_holds_1 : decode cX1_holds 1 = .ok (.aload_n 1, 1) := by decide +kernel
theorem dX1_holds_2 : decode cX1_holds 2 = .ok (.invokestatic 111, 3) := by decide +kernel
theorem dX1_holds_5 : decode cX1_holds 5 = .ok (.iand, 1) := by decide +kernel
theorem dX1_holds_6 : decode cX1_holds 6 = .ok (.ifCond .eq 7, 3) := by decide +kernel
theorem dX1_holds_9 : decode cX1_holds 9 = .ok (.iconst 1, 1) := by decide +kernel
theorem dX1_holds_10 : decode cX1_holds 10 = .ok (.goto 4, 3) := by decide +kernel
theorem dX1_holds_13 : decode cX1_holds 13 = .ok (.iconst 0, 1) := by decide +kernel
theorem dX1_holds_14 : decode cX1_holds 14 = .ok (.ireturn, 1) := by decide +kernel
set_option maxRecDepth 20000 in
theorem ggX1_find_Jx4a65c_size_8abf5 : GoodIn wsX1_find wsJx4a65c_size_8abf5 := goodIn_r _ [7, 8, 44, 45, 46] (by decide +kernel) (by decide +kernel)
set_option maxRecDepth 20000 in
theorem gX1_find_Jx4a65c_size_8abf5 : GoodIn wsX1_find (wsV RX1 65 RJx4a65c yJx4a65c_size_8abf5 wsJx4a65c_size_8abf5) := goodIn_app (goodIn_of _ (by decide +kernel)) ggX1_find_Jx4a65c_size_8abf5
set_option maxRecDepth 20000 in
theorem ggX1_find_X1_isWithin : GoodIn wsX1_find wsX1_isWithin := goodIn_r _ [12] (by decide +kernel) (by decide +kernel)
set_option maxRecDepth 20000 in
theorem gX1_find_X1_isWithin : GoodIn wsX1_find (va_wsS RX1 61 yX1_isWithin wsX1_isWithin) := goodIn_app (goodIn_of _ (by decide +kernel)) ggX1_find_X1_isWithin
set_option maxRecDepth 20000 in
theorem ggX1_find_Jx4a65c_get_915e3 : GoodIn wsX1_find wsJx4a65c_get_915e3 := goodIn_r _ [16, 8, 17, 18, 19, 20, 21, 22, 23, 24, 25, 26, 27, 6, 28, 29, 44, 45, 46] (by decide +kernel) (by decide +kernel)
set_option maxRecDepth 20000 in
theorem gX1_find_Jx4a65c_get_915e3 : GoodIn wsX1_find (wsV RX1 129 RJx4a65c yJx4a65c_get_915e3 wsJx4a65c_get_915e3) := goodIn_app (goodIn_of _ (by decide +kernel)) ggX1_find_Jx4a65c_get_915e3
theorem dX1_find_0 : decode cX1_find 0 = .ok (.iload_n 1, 1) := by decide +kernel
theorem dX1_find_1 : decode cX1_find 1 = .ok (.iconst 0, 1) := by decide +kernel
theorem dX1_find_2 : decode cX1_find 2 = .ok (.aload_n 0, 1) := by decide +kernel
theorem dX1_find_3 : decode cX1_find 3 = .ok (.getfield 10, 3) := by decide +kernel
theorem dX1_find_6 : decode cX1_find 6 = .ok (.invokevirtual 65, 3) := by decide +kernel
theorem dX1_find_9 : decode cX1_find 9 = .ok (.iconst 1, 1) := by decide +kernel
theorem dX1_find_10 : decode cX1_find 10 = .ok (.isub, 1) := by decide +kernel
theorem dX1_find_11 : decode cX1_find 11 = .ok (.invokestatic 61, 3) := by decide +kernel
theorem dX1_find_14 : decode cX1_find 14 = .ok (.ifCond .eq 17, 3) := by decide +kernel
theorem dX1_find_17 : decode cX1_find 17 = .ok (.aload_n 0, 1) := by decide +kernel
theorem dX1_find_18 : decode cX1_find 18 = .ok (.getfield 10, 3) := by decide +kernel
theorem dX1_find_21 : decode cX1_find 21 = .ok (.iload_n 1, 1) := by decide +kernel
theorem dX1_find_22 : decode cX1_find 22 = .ok (.invokevirtual 129, 3) := by decide +kernel
theorem dX1_find_25 : decode cX1_find 25 = .ok (.checkcast 69, 3) := by decide +kernel
theorem dX1_find_28 : decode cX1_find 28 = .ok (.goto 4, 3) := by decide +kernel
theorem dX1_find_31 : decode cX1_find 31 = .ok (.aconst_null, 1) := by decide +kernel
theorem dX1_find_32 : decode cX1_find 32 = .ok (.areturn, 1) := by decide +kernel
set_option maxRecDepth 20000 in
theorem ggX1_areDevices_Jx4a65c_size_8abf5 : GoodIn wsX1_areDevices wsJx4a65c_size_8abf5 := goodIn_r _ [6, 7, 22, 23, 24] (by decide +kernel) (by decide +kernel)
set_option maxRecDepth 20000 in
theorem gX1_areDevices_Jx4a65c_size_8abf5 : GoodIn wsX1_areDevices (wsV RX1 65 RJx4a65c yJx4a65c_size_8abf5 wsJx4a65c_size_8abf5) := goodIn_app (goodIn_of _ (by decide +kernel)) ggX1_areDevices_Jx4a65c_size_8abf5
theorem dX1_areDevices_0 : decode cX1_areDevices 0 = .ok (.iload_n 1, 1) := by decide +kernel
theorem dX1_areDevices_1 : decode cX1_areDevices 1 = .ok (.ifCond .lt 19, 3) := by decide +kernel
theorem dX1_areDevices_4 : decode cX1_areDevices 4 = .ok (.iload_n 1, 1) := by decide +kernel
theorem dX1_areDevices_5 : decode cX1_areDevices 5 = .ok (.aload_n 0, 1) := by decide +kernel
theorem dX1_areDevices_6 : decode cX1_areDevices 6 = .ok (.getfield 10, 3) := by decide +kernel
theorem dX1_areDevices_9 : decode cX1_areDevices 9 = .ok (.invokevirtual 65, 3) := by decide +kernel
theorem dX1_areDevices_12 : decode cX1_areDevices 12 = .ok (.ishr, 1) := by decide +kernel
theorem dX1_areDevices_13 : decode cX1_areDevices 13 = .ok (.ifCond .ne 7, 3) := by decide +kernel
theorem dX1_areDevices_16 : decode cX1_areDevices 16 = .ok (.iconst 1, 1) := by decide +kernel
theorem dX1_areDevices_17 : decode cX1_areDevices 17 = .ok (.goto 4, 3) := by decide +kernel
theorem dX1_areDevices_20 : decode cX1_areDevices 20 = .ok (.iconst 0, 1) := by decide +kernel
theorem dX1_areDevices_21 : decode cX1_areDevices 21 = .ok (.ireturn, 1) := by decide +kernel
set_option maxRecDepth 20000 in
theorem ggX1_withAncestors_Jx4a65c_size_8abf5 : GoodIn wsX1_withAncestors wsJx4a65c_size_8abf5 := goodIn_r _ [8, 9, 62, 63, 64] (by decide +kernel) (by decide +kernel)
set_option maxRecDepth 20000 in
theorem gX1_withAncestors_Jx4a65c_size_8abf5 : GoodIn wsX1_withAncestors (wsV RX1 65 RJx4a65c yJx4a65c_size_8abf5 wsJx4a65c_size_8abf5) := goodIn_app (goodIn_of _ (by decide +kernel)) ggX1_withAncestors_Jx4a65c_size_8abf5
set_option maxRecDepth 20000 in
theorem ggX1_withAncestors_Jx4a65c_get_915e3 : GoodIn wsX1_withAncestors wsJx4a65c_get_915e3 := goodIn_r _ [13, 9, 14, 15, 16, 17, 18, 19, 20, 21, 22, 23, 24, 7, 25, 26, 62, 63, 64] (by decide +kernel) (by decide +kernel)
set_option maxRecDepth 20000 in
theorem gX1_withAncestors_Jx4a65c_get_915e3 : GoodIn wsX1_withAncestors (wsV RX1 129 RJx4a65c yJx4a65c_get_915e3 wsJx4a65c_get_915e3) := goodIn_app (goodIn_of _ (by decide +kernel)) ggX1_withAncestors_Jx4a65c_get_915e3
set_option maxRecDepth 20000 in
theorem ggX1_withAncestors_X1_holds : GoodIn wsX1_withAncestors wsX1_holds := goodIn_r _ [30, 31, 32, 29, 33, 34, 49, 50, 51, 52, 53, 54, 55, 56, 57, 58, 59, 60, 61] (by decide +kernel) (by decide +kernel)
set_option maxRecDepth 20000 in
theorem gX1_withAncestors_X1_holds : GoodIn wsX1_withAncestors (va_wsS RX1 148 yX1_holds wsX1_holds) := goodIn_app (goodIn_of _ (by decide +kernel)) ggX1_withAncestors_X1_holds
theorem dX1_withAncestors_0 : decode cX1_withAncestors 0 = .ok (.iload_n 1, 1) := by decide +kernel
theorem dX1_withAncestors_1 : decode cX1_withAncestors 1 = .ok (.istore_n 2, 1) := by decide +kernel
theorem dX1_withAncestors_2 : decode cX1_withAncestors 2 = .ok (.iconst 0, 1) := by decide +kernel
theorem dX1_withAncestors_3 : decode cX1_withAncestors 3 = .ok (.istore_n 3, 1) := by decide +kernel
theorem dX1_withAncestors_4 : decode cX1_withAncestors 4 = .ok (.iload_n 3, 1) := by decide +kernel
theorem dX1_withAncestors_5 : decode cX1_withAncestors 5 = .ok (.aload_n 0, 1) := by decide +kernel
theorem dX1_withAncestors_6 : decode cX1_withAncestors 6 = .ok (.getfield 10, 3) := by decide +kernel
theorem dX1_withAncestors_9 : decode cX1_withAncestors 9 = .ok (.invokevirtual 65, 3) := by decide +kernel
theorem dX1_withAncestors_12 : decode cX1_withAncestors 12 = .ok (.if_icmp .ge 39, 3) := by decide +kernel
theorem dX1_withAncestors_15 : decode cX1_withAncestors 15 = .ok (.aload_n 0, 1) := by decide +kernel
theorem dX1_withAncestors_16 : decode cX1_withAncestors 16 = .ok (.getfield 10, 3) := by decide +kernel
theorem dX1_withAncestors_19 : decode cX1_withAncestors 19 = .ok (.iload_n 3, 1) := by decide +kernel
theorem dX1_withAncestors_20 : decode cX1_withAncestors 20 = .ok (.invokevirtual 129, 3) := by decide +kernel
theorem dX1_withAncestors_23 : decode cX1_withAncestors 23 = .ok (.checkcast 69, 3) := by decide +kernel
theorem dX1_withAncestors_26 : decode cX1_withAncestors 26 = .ok (.astore 4, 2) := by decide +kernel
theorem dX1_withAncestors_28 : decode cX1_withAncestors 28 = .ok (.iload_n 1, 1) := by decide +kernel
theorem dX1_withAncestors_29 : decode cX1_withAncestors 29 = .ok (.aload 4, 2) := by decide +kernel
theorem dX1_withAncestors_31 : decode cX1_withAncestors 31 = .ok (.invokestatic 148, 3) := by decide +kernel
theorem dX1_withAncestors_34 : decode cX1_withAncestors 34 = .ok (.ifCond .eq 11, 3) := by decide +kernel
theorem dX1_withAncestors_37 : decode cX1_withAncestors 37 = .ok (.iload_n 2, 1) := by decide +kernel
theorem dX1_withAncestors_38 : decode cX1_withAncestors 38 = .ok (.aload 4, 2) := by decide +kernel
theorem dX1_withAncestors_40 : decode cX1_withAncestors 40 = .ok (.getfield 94, 3) := by decide +kernel
theorem dX1_withAncestors_43 : decode cX1_withAncestors 43 = .ok (.ior, 1) := by decide +kernel
theorem dX1_withAncestors_44 : decode cX1_withAncestors 44 = .ok (.istore_n 2, 1) := by decide +kernel
theorem dX1_withAncestors_45 : decode cX1_withAncestors 45 = .ok (.iinc 3 1, 3) := by decide +kernel
theorem dX1_withAncestors_48 : decode cX1_withAncestors 48 = .ok (.goto (-44), 3) := by decide +kernel
theorem dX1_withAncestors_51 : decode cX1_withAncestors 51 = .ok (.iload_n 2, 1) := by decide +kernel
theorem dX1_withAncestors_52 : decode cX1_withAncestors 52 = .ok (.ireturn, 1) := by decide +kernel
set_option maxRecDepth 20000 in
theorem ggX1_depthUnder_Jx4a65c_size_8abf5 : GoodIn wsX1_depthUnder wsJx4a65c_size_8abf5 := goodIn_r _ [12, 13, 66, 67, 68] (by decide +kernel) (by decide +kernel)
set_option maxRecDepth 20000 in
theorem gX1_depthUnder_Jx4a65c_size_8abf5 : GoodIn wsX1_depthUnder (wsV RX1 65 RJx4a65c yJx4a65c_size_8abf5 wsJx4a65c_size_8abf5) := goodIn_app (goodIn_of _ (by decide +kernel)) ggX1_depthUnder_Jx4a65c_size_8abf5
set_option maxRecDepth 20000 in
theorem ggX1_depthUnder_Jx4a65c_get_915e3 : GoodIn wsX1_depthUnder wsJx4a65c_get_915e3 := goodIn_r _ [17, 13, 18, 19, 20, 21, 22, 23, 24, 25, 26, 27, 28, 11, 29, 30, 66, 67, 68] (by decide +kernel) (by decide +kernel)
set_option maxRecDepth 20000 in
theorem gX1_depthUnder_Jx4a65c_get_915e3 : GoodIn wsX1_depthUnder (wsV RX1 129 RJx4a65c yJx4a65c_get_915e3 wsJx4a65c_get_915e3) := goodIn_app (goodIn_of _ (by decide +kernel)) ggX1_depthUnder_Jx4a65c_get_915e3
set_option maxRecDepth 20000 in
theorem ggX1_depthUnder_X1_holds : GoodIn wsX1_depthUnder wsX1_holds := goodIn_r _ [34, 35, 36, 33, 37, 38, 53, 54, 55, 56, 57, 58, 59, 60, 61, 62, 63, 64, 65] (by decide +kernel) (by decide +kernel)
set_option maxRecDepth 20000 in
theorem gX1_depthUnder_X1_holds : GoodIn wsX1_depthUnder (va_wsS RX1 148 yX1_holds wsX1_holds) := goodIn_app (goodIn_of _ (by decide +kernel)) ggX1_depthUnder_X1_holds
theorem dX1_depthUnder_0 : decode cX1_depthUnder 0 = .ok (.iconst 0, 1) := by decide +kernel
theorem dX1_depthUnder_1 : decode cX1_depthUnder 1 = .ok (.istore_n 2, 1) := by decide +kernel
theorem dX1_depthUnder_2 : decode cX1_depthUnder 2 = .ok (.iconst 0, 1) := by decide +kernel
theorem dX1_depthUnder_3 : decode cX1_depthUnder 3 = .ok (.istore_n 3, 1) := by decide +kernel
theorem dX1_depthUnder_4 : decode cX1_depthUnder 4 = .ok (.iload_n 3, 1) := by decide +kernel
theorem dX1_depthUnder_5 : decode cX1_depthUnder 5 = .ok (.aload_n 0, 1) := by decide +kernel
theorem dX1_depthUnder_6 : decode cX1_depthUnder 6 = .ok (.getfield 10, 3) := by decide +kernel
theorem dX1_depthUnder_9 : decode cX1_depthUnder 9 = .ok (.invokevirtual 65, 3) := by decide +kernel
theorem dX1_depthUnder_12 : decode cX1_depthUnder 12 = .ok (.if_icmp .ge 43, 3) := by decide +kernel
theorem dX1_depthUnder_15 : decode cX1_depthUnder 15 = .ok (.aload_n 0, 1) := by decide +kernel
theorem dX1_depthUnder_16 : decode cX1_depthUnder 16 = .ok (.getfield 10, 3) := by decide +kernel
theorem dX1_depthUnder_19 : decode cX1_depthUnder 19 = .ok (.iload_n 3, 1) := by decide +kernel
theorem dX1_depthUnder_20 : decode cX1_depthUnder 20 = .ok (.invokevirtual 129, 3) := by decide +kernel
theorem dX1_depthUnder_23 : decode cX1_depthUnder 23 = .ok (.checkcast 69, 3) := by decide +kernel
theorem dX1_depthUnder_26 : decode cX1_depthUnder 26 = .ok (.astore 4, 2) := by decide +kernel
theorem dX1_depthUnder_28 : decode cX1_depthUnder 28 = .ok (.iload_n 1, 1) := by decide +kernel
theorem dX1_depthUnder_29 : decode cX1_depthUnder 29 = .ok (.aload 4, 2) := by decide +kernel
theorem dX1_depthUnder_31 : decode cX1_depthUnder 31 = .ok (.invokestatic 148, 3) := by decide +kernel
theorem dX1_depthUnder_34 : decode cX1_depthUnder 34 = .ok (.ifCond .eq 15, 3) := by decide +kernel
theorem dX1_depthUnder_37 : decode cX1_depthUnder 37 = .ok (.iload_n 2, 1) := by decide +kernel
theorem dX1_depthUnder_38 : decode cX1_depthUnder 38 = .ok (.aload 4, 2) := by decide +kernel
theorem dX1_depthUnder_40 : decode cX1_depthUnder 40 = .ok (.getfield 85, 3) := by decide +kernel
theorem dX1_depthUnder_43 : decode cX1_depthUnder 43 = .ok (.iconst 1, 1) := by decide +kernel
theorem dX1_depthUnder_44 : decode cX1_depthUnder 44 = .ok (.iadd, 1) := by decide +kernel
theorem dX1_depthUnder_45 : decode cX1_depthUnder 45 = .ok (.invokestatic 152, 3) := by decide +kernel
theorem dX1_depthUnder_48 : decode cX1_depthUnder 48 = .ok (.istore_n 2, 1) := by decide +kernel
theorem dX1_depthUnder_49 : decode cX1_depthUnder 49 = .ok (.iinc 3 1, 3) := by decide +kernel
theorem dX1_depthUnder_52 : decode cX1_depthUnder 52 = .ok (.goto (-48), 3) := by decide +kernel
theorem dX1_depthUnder_55 : decode cX1_depthUnder 55 = .ok (.iload_n 2, 1) := by decide +kernel
theorem dX1_depthUnder_56 : decode cX1_depthUnder 56 = .ok (.ireturn, 1) := by decide +kernel
set_option maxRecDepth 20000 in
theorem ggX1_placeFor_Jx4a65c_size_8abf5 : GoodIn wsX1_placeFor wsJx4a65c_size_8abf5 := goodIn_r _ [8, 9, 54, 55, 56] (by decide +kernel) (by decide +kernel)
set_option maxRecDepth 20000 in
theorem gX1_placeFor_Jx4a65c_size_8abf5 : GoodIn wsX1_placeFor (wsV RX1 65 RJx4a65c yJx4a65c_size_8abf5 wsJx4a65c_size_8abf5) := goodIn_app (goodIn_of _ (by decide +kernel)) ggX1_placeFor_Jx4a65c_size_8abf5
set_option maxRecDepth 20000 in
theorem ggX1_placeFor_Jx4a65c_get_915e3 : GoodIn wsX1_placeFor wsJx4a65c_get_915e3 := goodIn_r _ [13, 9, 14, 15, 16, 17, 18, 19, 20, 21, 22, 23, 24, 7, 25, 26, 54, 55, 56] (by decide +kernel) (by decide +kernel)
set_option maxRecDepth 20000 in
theorem gX1_placeFor_Jx4a65c_get_915e3 : GoodIn wsX1_placeFor (wsV RX1 129 RJx4a65c yJx4a65c_get_915e3 wsJx4a65c_get_915e3) := goodIn_app (goodIn_of _ (by decide +kernel)) ggX1_placeFor_Jx4a65c_get_915e3
theorem dX1_placeFor_0 : decode cX1_placeFor 0 = .ok (.iconst 0, 1) := by decide +kernel
theorem dX1_placeFor_1 : decode cX1_placeFor 1 = .ok (.istore_n 2, 1) := by decide +kernel
theorem dX1_placeFor_2 : decode cX1_placeFor 2 = .ok (.iconst 0, 1) := by decide +kernel
theorem dX1_placeFor_3 : decode cX1_placeFor 3 = .ok (.istore_n 3, 1) := by decide +kernel
theorem dX1_placeFor_4 : decode cX1_placeFor 4 = .ok (.iload_n 3, 1) := by decide +kernel
theorem dX1_placeFor_5 : decode cX1_placeFor 5 = .ok (.aload_n 0, 1) := by decide +kernel
theorem dX1_placeFor_6 : decode cX1_placeFor 6 = .ok (.getfield 16, 3) := by decide +kernel
theorem dX1_placeFor_9 : decode cX1_placeFor 9 = .ok (.invokevirtual 65, 3) := by decide +kernel
theorem dX1_placeFor_12 : decode cX1_placeFor 12 = .ok (.if_icmp .ge 31, 3) := by decide +kernel
theorem dX1_placeFor_15 : decode cX1_placeFor 15 = .ok (.aload_n 0, 1) := by decide +kernel
theorem dX1_placeFor_16 : decode cX1_placeFor 16 = .ok (.getfield 16, 3) := by decide +kernel
theorem dX1_placeFor_19 : decode cX1_placeFor 19 = .ok (.iload_n 3, 1) := by decide +kernel
theorem dX1_placeFor_20 : decode cX1_placeFor 20 = .ok (.invokevirtual 129, 3) := by decide +kernel
theorem dX1_placeFor_23 : decode cX1_placeFor 23 = .ok (.checkcast 69, 3) := by decide +kernel
theorem dX1_placeFor_26 : decode cX1_placeFor 26 = .ok (.getfield 85, 3) := by decide +kernel
theorem dX1_placeFor_29 : decode cX1_placeFor 29 = .ok (.iload_n 1, 1) := by decide +kernel
theorem dX1_placeFor_30 : decode cX1_placeFor 30 = .ok (.if_icmp .gt 7, 3) := by decide +kernel
theorem dX1_placeFor_33 : decode cX1_placeFor 33 = .ok (.iload_n 3, 1) := by decide +kernel
theorem dX1_placeFor_34 : decode cX1_placeFor 34 = .ok (.iconst 1, 1) := by decide +kernel
theorem dX1_placeFor_35 : decode cX1_placeFor 35 = .ok (.iadd, 1) := by decide +kernel
theorem dX1_placeFor_36 : decode cX1_placeFor 36 = .ok (.istore_n 2, 1) := by decide +kernel
theorem dX1_placeFor_37 : decode cX1_placeFor 37 = .ok (.iinc 3 1, 3) := by decide +kernel
theorem dX1_placeFor_40 : decode cX1_placeFor 40 = .ok (.goto (-36), 3) := by decide +kernel
theorem dX1_placeFor_43 : decode cX1_placeFor 43 = .ok (.iload_n 2, 1) := by decide +kernel
theorem dX1_placeFor_44 : decode cX1_placeFor 44 = .ok (.ireturn, 1) := by decide +kernel
theorem dX1_turn_0 : decode cX1_turn 0 = .ok (.aload_n 1, 1) := by decide +kernel
theorem dX1_turn_1 : decode cX1_turn 1 = .ok (.getfield 133, 3) := by decide +kernel
theorem dX1_turn_4 : decode cX1_turn 4 = .ok (.iload_n 2, 1) := by decide +kernel
theorem dX1_turn_5 : decode cX1_turn 5 = .ok (.if_icmp .eq 18, 3) := by decide +kernel
theorem dX1_turn_8 : decode cX1_turn 8 = .ok (.aload_n 1, 1) := by decide +kernel
theorem dX1_turn_9 : decode cX1_turn 9 = .ok (.iload_n 2, 1) := by decide +kernel
theorem dX1_turn_10 : decode cX1_turn 10 = .ok (.putfield 133, 3) := by decide +kernel
theorem dX1_turn_13 : decode cX1_turn 13 = .ok (.aload_n 0, 1) := by decide +kernel
theorem dX1_turn_14 : decode cX1_turn 14 = .ok (.dup, 1) := by decide +kernel
theorem dX1_turn_15 : decode cX1_turn 15 = .ok (.getfield 54, 3) := by decide +kernel
theorem dX1_turn_18 : decode cX1_turn 18 = .ok (.iconst 1, 1) := by decide +kernel
theorem dX1_turn_19 : decode cX1_turn 19 = .ok (.iadd, 1) := by decide +kernel
theorem dX1_turn_20 : decode cX1_turn 20 = .ok (.putfield 54, 3) := by decide +kernel
theorem dX1_turn_23 : decode cX1_turn 23 = .ok (.return_, 1) := by decide +kernel
set_option maxRecDepth 20000 in
theorem ggX1_rouse_Jx4a65c_size_8abf5 : GoodIn wsX1_rouse wsJx4a65c_size_8abf5 := goodIn_r _ [8, 9, 68, 69, 70] (by decide +kernel) (by decide +kernel)
set_option maxRecDepth 20000 in
theorem gX1_rouse_Jx4a65c_size_8abf5 : GoodIn wsX1_rouse (wsV RX1 65 RJx4a65c yJx4a65c_size_8abf5 wsJx4a65c_size_8abf5) := goodIn_app (goodIn_of _ (by decide +kernel)) ggX1_rouse_Jx4a65c_size_8abf5
set_option maxRecDepth 20000 in
theorem ggX1_rouse_Jx4a65c_get_915e3 : GoodIn wsX1_rouse wsJx4a65c_get_915e3 := goodIn_r _ [13, 9, 14, 15, 16, 17, 18, 19, 20, 21, 22, 23, 24, 7, 25, 26, 68, 69, 70] (by decide +kernel) (by decide +kernel)
set_option maxRecDepth 20000 in
theorem gX1_rouse_Jx4a65c_get_915e3 : GoodIn wsX1_rouse (wsV RX1 129 RJx4a65c yJx4a65c_get_915e3 wsJx4a65c_get_915e3) := goodIn_app (goodIn_of _ (by decide +kernel)) ggX1_rouse_Jx4a65c_get_915e3
set_option maxRecDepth 20000 in
theorem ggX1_rouse_X1_holds : GoodIn wsX1_rouse wsX1_holds := goodIn_r _ [30, 31, 32, 29, 33, 34, 55, 56, 57, 58, 59, 60, 61, 62, 63, 64, 65, 66, 67] (by decide +kernel) (by decide +kernel)
set_option maxRecDepth 20000 in
theorem gX1_rouse_X1_holds : GoodIn wsX1_rouse (va_wsS RX1 148 yX1_holds wsX1_holds) := goodIn_app (goodIn_of _ (by decide +kernel)) ggX1_rouse_X1_holds
set_option maxRecDepth 20000 in
theorem ggX1_rouse_X1_turn : GoodIn wsX1_rouse wsX1_turn := goodIn_r _ [38, 39, 40, 55, 56, 57, 58, 59, 60, 61, 62, 63, 64, 65, 66, 67, 41, 42, 43, 44, 45, 46, 47, 48, 49, 50, 51, 52, 53, 54] (by decide +kernel) (by decide +kernel)
set_option maxRecDepth 20000 in
theorem gX1_rouse_X1_turn : GoodIn wsX1_rouse (wsV RX1 158 RX1 yX1_turn wsX1_turn) := goodIn_app (goodIn_of _ (by decide +kernel)) ggX1_rouse_X1_turn
theorem dX1_rouse_0 : decode cX1_rouse 0 = .ok (.iconst 0, 1) := by decide +kernel
theorem dX1_rouse_1 : decode cX1_rouse 1 = .ok (.istore_n 2, 1) := by decide +kernel
theorem dX1_rouse_2 : decode cX1_rouse 2 = .ok (.iload_n 2, 1) := by decide +kernel
theorem dX1_rouse_3 : decode cX1_rouse 3 = .ok (.aload_n 0, 1) := by decide +kernel
theorem dX1_rouse_4 : decode cX1_rouse 4 = .ok (.getfield 10, 3) := by decide +kernel
theorem dX1_rouse_7 : decode cX1_rouse 7 = .ok (.invokevirtual 65, 3) := by decide +kernel
theorem dX1_rouse_10 : decode cX1_rouse 10 = .ok (.if_icmp .ge 40, 3) := by decide +kernel
theorem dX1_rouse_13 : decode cX1_rouse 13 = .ok (.aload_n 0, 1) := by decide +kernel
theorem dX1_rouse_14 : decode cX1_rouse 14 = .ok (.getfield 10, 3) := by decide +kernel
theorem dX1_rouse_17 : decode cX1_rouse 17 = .ok (.iload_n 2, 1) := by decide +kernel
theorem dX1_rouse_18 : decode cX1_rouse 18 = .ok (.invokevirtual 129, 3) := by decide +kernel
theorem dX1_rouse_21 : decode cX1_rouse 21 = .ok (.checkcast 69, 3) := by decide +kernel
theorem dX1_rouse_24 : decode cX1_rouse 24 = .ok (.astore_n 3, 1) := by decide +kernel
theorem dX1_rouse_25 : decode cX1_rouse 25 = .ok (.iload_n 1, 1) := by decide +kernel
theorem dX1_rouse_26 : decode cX1_rouse 26 = .ok (.aload_n 3, 1) := by decide +kernel
theorem dX1_rouse_27 : decode cX1_rouse 27 = .ok (.invokestatic 148, 3) := by decide +kernel
theorem dX1_rouse_30 : decode cX1_rouse 30 = .ok (.ifCond .eq 14, 3) := by decide +kernel
theorem dX1_rouse_33 : decode cX1_rouse 33 = .ok (.aload_n 0, 1) := by decide +kernel
theorem dX1_rouse_34 : decode cX1_rouse 34 = .ok (.aload_n 3, 1) := by decide +kernel
theorem dX1_rouse_35 : decode cX1_rouse 35 = .ok (.iconst 2, 1) := by decide +kernel
theorem dX1_rouse_36 : decode cX1_rouse 36 = .ok (.invokevirtual 158, 3) := by decide +kernel
theorem dX1_rouse_39 : decode cX1_rouse 39 = .ok (.aload_n 3, 1) := by decide +kernel
theorem dX1_rouse_40 : decode cX1_rouse 40 = .ok (.iconst 0, 1) := by decide +kernel
theorem dX1_rouse_41 : decode cX1_rouse 41 = .ok (.putfield 145, 3) := by decide +kernel
theorem dX1_rouse_44 : decode cX1_rouse 44 = .ok (.iinc 2 1, 3) := by decide +kernel
theorem dX1_rouse_47 : decode cX1_rouse 47 = .ok (.goto (-45), 3) := by decide +kernel
theorem dX1_rouse_50 : decode cX1_rouse 50 = .ok (.return_, 1) := by decide +kernel
theorem dX1_makeDue_0 : decode cX1_makeDue 0 = .ok (.aload_n 0, 1) := by decide +kernel
theorem dX1_makeDue_1 : decode cX1_makeDue 1 = .ok (.aload_n 1, 1) := by decide +kernel
theorem dX1_makeDue_2 : decode cX1_makeDue 2 = .ok (.putfield 23, 3) := by decide +kernel
theorem dX1_makeDue_5 : decode cX1_makeDue 5 = .ok (.aload_n 0, 1) := by decide +kernel
theorem dX1_makeDue_6 : decode cX1_makeDue 6 = .ok (.iload_n 2, 1) := by decide +kernel
theorem dX1_makeDue_7 : decode cX1_makeDue 7 = .ok (.putfield 27, 3) := by decide +kernel
theorem dX1_makeDue_10 : decode cX1_makeDue 10 = .ok (.return_, 1) := by decide +kernel
theorem dX1_endDue_0 : decode cX1_endDue 0 = .ok (.aload_n 0, 1) := by decide +kernel
theorem dX1_endDue_1 : decode cX1_endDue 1 = .ok (.aconst_null, 1) := by decide +kernel
theorem dX1_endDue_2 : decode cX1_endDue 2 = .ok (.putfield 23, 3) := by decide +kernel
theorem dX1_endDue_5 : decode cX1_endDue 5 = .ok (.aload_n 0, 1) := by decide +kernel
theorem dX1_endDue_6 : decode cX1_endDue 6 = .ok (.iconst 0, 1) := by decide +kernel
theorem dX1_endDue_7 : decode cX1_endDue 7 = .ok (.putfield 27, 3) := by decide +kernel
theorem dX1_endDue_10 : decode cX1_endDue 10 = .ok (.return_, 1) := by decide +kernel
set_option maxRecDepth 20000 in
theorem ggX1_sinkFurther_Jx4a65c_size_8abf5 : GoodIn wsX1_sinkFurther wsJx4a65c_size_8abf5 := goodIn_r _ [11, 12, 73, 74, 75] (by decide +kernel) (by decide +kernel)
set_option maxRecDepth 20000 in
theorem gX1_sinkFurther_Jx4a65c_size_8abf5 : GoodIn wsX1_sinkFurther (wsV RX1 65 RJx4a65c yJx4a65c_size_8abf5 wsJx4a65c_size_8abf5) := goodIn_app (goodIn_of _ (by decide +kernel)) ggX1_sinkFurther_Jx4a65c_size_8abf5
set_option maxRecDepth 20000 in
theorem ggX1_sinkFurther_Jx4a65c_get_915e3 : GoodIn wsX1_sinkFurther wsJx4a65c_get_915e3 := goodIn_r _ [16, 12, 17, 18, 19, 20, 21, 22, 23, 24, 25, 26, 27, 10, 28, 29, 73, 74, 75] (by decide +kernel) (by decide +kernel)
set_option maxRecDepth 20000 in
theorem gX1_sinkFurther_Jx4a65c_get_915e3 : GoodIn wsX1_sinkFurther (wsV RX1 129 RJx4a65c yJx4a65c_get_915e3 wsJx4a65c_get_915e3) := goodIn_app (goodIn_of _ (by decide +kernel)) ggX1_sinkFurther_Jx4a65c_get_915e3
set_option maxRecDepth 20000 in
theorem ggX1_sinkFurther_X1_makeDue : GoodIn wsX1_sinkFurther wsX1_makeDue := goodIn_r _ [34, 35, 36, 46, 47, 48, 49, 50, 51, 52, 53, 54, 55, 56, 57, 58, 59] (by decide +kernel) (by decide +kernel)
set_option maxRecDepth 20000 in
theorem gX1_sinkFurther_X1_makeDue : GoodIn wsX1_sinkFurther (wsV RX1 165 RX1 yX1_makeDue wsX1_makeDue) := goodIn_app (goodIn_of _ (by decide +kernel)) ggX1_sinkFurther_X1_makeDue
set_option maxRecDepth 20000 in
theorem ggX1_sinkFurther_X1_turn : GoodIn wsX1_sinkFurther wsX1_turn := goodIn_r _ [40, 3, 41, 60, 61, 62, 63, 64, 65, 66, 67, 68, 69, 70, 71, 72, 46, 47, 48, 49, 50, 51, 52, 53, 54, 55, 56, 57, 58, 59] (by decide +kernel) (by decide +kernel)
set_option maxRecDepth 20000 in
theorem gX1_sinkFurther_X1_turn : GoodIn wsX1_sinkFurther (wsV RX1 158 RX1 yX1_turn wsX1_turn) := goodIn_app (goodIn_of _ (by decide +kernel)) ggX1_sinkFurther_X1_turn
set_option maxRecDepth 20000 in
theorem ggX1_sinkFurther_X1_endDue : GoodIn wsX1_sinkFurther wsX1_endDue := goodIn_r _ [45, 35, 36, 46, 47, 48, 49, 50, 51, 52, 53, 54, 55, 56, 57, 58, 59] (by decide +kernel) (by decide +kernel)
set_option maxRecDepth 20000 in
theorem gX1_sinkFurther_X1_endDue : GoodIn wsX1_sinkFurther (wsV RX1 168 RX1 yX1_endDue wsX1_endDue) := goodIn_app (goodIn_of _ (by decide +kernel)) ggX1_sinkFurther_X1_endDue
theorem dX1_sinkFurther_0 : decode cX1_sinkFurther 0 = .ok (.aload_n 0, 1) := by decide +kernel
theorem dX1_sinkFurther_1 : decode cX1_sinkFurther 1 = .ok (.getfield 16, 3) := by decide +kernel
theorem dX1_sinkFurther_4 : decode cX1_sinkFurther 4 = .ok (.invokevirtual 65, 3) := by decide +kernel
theorem dX1_sinkFurther_7 : decode cX1_sinkFurther 7 = .ok (.iconst 1, 1) := by decide +kernel
theorem dX1_sinkFurther_8 : decode cX1_sinkFurther 8 = .ok (.isub, 1) := by decide +kernel
theorem dX1_sinkFurther_9 : decode cX1_sinkFurther 9 = .ok (.istore_n 1, 1) := by decide +kernel
theorem dX1_sinkFurther_10 : decode cX1_sinkFurther 10 = .ok (.iload_n 1, 1) := by decide +kernel
theorem dX1_sinkFurther_11 : decode cX1_sinkFurther 11 = .ok (.ifCond .lt 45, 3) := by decide +kernel
theorem dX1_sinkFurther_14 : decode cX1_sinkFurther 14 = .ok (.aload_n 0, 1) := by decide +kernel
theorem dX1_sinkFurther_15 : decode cX1_sinkFurther 15 = .ok (.getfield 16, 3) := by decide +kernel
theorem dX1_sinkFurther_18 : decode cX1_sinkFurther 18 = .ok (.iload_n 1, 1) := by decide +kernel
theorem dX1_sinkFurther_19 : decode cX1_sinkFurther 19 = .ok (.invokevirtual 129, 3) := by decide +kernel
theorem dX1_sinkFurther_22 : decode cX1_sinkFurther 22 = .ok (.checkcast 69, 3) := by decide +kernel
theorem dX1_sinkFurther_25 : decode cX1_sinkFurther 25 = .ok (.astore_n 2, 1) := by decide +kernel
theorem dX1_sinkFurther_26 : decode cX1_sinkFurther 26 = .ok (.aload_n 2, 1) := by decide +kernel
theorem dX1_sinkFurther_27 : decode cX1_sinkFurther 27 = .ok (.getfield 133, 3) := by decide +kernel
theorem dX1_sinkFurther_30 : decode cX1_sinkFurther 30 = .ok (.iconst 2, 1) := by decide +kernel
theorem dX1_sinkFurther_31 : decode cX1_sinkFurther 31 = .ok (.if_icmp .ne 13, 3) := by decide +kernel
theorem dX1_sinkFurther_34 : decode cX1_sinkFurther 34 = .ok (.aload_n 0, 1) := by decide +kernel
theorem dX1_sinkFurther_35 : decode cX1_sinkFurther 35 = .ok (.aload_n 2, 1) := by decide +kernel
theorem dX1_sinkFurther_36 : decode cX1_sinkFurther 36 = .ok (.aload_n 2, 1) := by decide +kernel
theorem dX1_sinkFurther_37 : decode cX1_sinkFurther 37 = .ok (.getfield 162, 3) := by decide +kernel
theorem dX1_sinkFurther_40 : decode cX1_sinkFurther 40 = .ok (.invokevirtual 165, 3) := by decide +kernel
theorem dX1_sinkFurther_43 : decode cX1_sinkFurther 43 = .ok (.return_, 1) := by decide +kernel
theorem dX1_sinkFurther_44 : decode cX1_sinkFurther 44 = .ok (.aload_n 0, 1) := by decide +kernel
theorem dX1_sinkFurther_45 : decode cX1_sinkFurther 45 = .ok (.aload_n 2, 1) := by decide +kernel
theorem dX1_sinkFurther_46 : decode cX1_sinkFurther 46 = .ok (.iconst 0, 1) := by decide +kernel
theorem dX1_sinkFurther_47 : decode cX1_sinkFurther 47 = .ok (.invokevirtual 158, 3) := by decide +kernel
theorem dX1_sinkFurther_50 : decode cX1_sinkFurther 50 = .ok (.iinc 1 (-1), 3) := by decide +kernel
theorem dX1_sinkFurther_53 : decode cX1_sinkFurther 53 = .ok (.goto (-43), 3) := by decide +kernel
theorem dX1_sinkFurther_56 : decode cX1_sinkFurther 56 = .ok (.aload_n 0, 1) := by decide +kernel
theorem dX1_sinkFurther_57 : decode cX1_sinkFurther 57 = .ok (.invokevirtual 168, 3) := by decide +kernel
theorem dX1_sinkFurther_60 : decode cX1_sinkFurther 60 = .ok (.aload_n 0, 1) := by decide +kernel
theorem dX1_sinkFurther_61 : decode cX1_sinkFurther 61 = .ok (.iconst 2, 1) := by decide +kernel
theorem dX1_sinkFurther_62 : decode cX1_sinkFurther 62 = .ok (.putfield 19, 3) := by decide +kernel
theorem dX1_sinkFurther_65 : decode cX1_sinkFurther 65 = .ok (.aload_n 0, 1) := by decide +kernel
theorem dX1_sinkFurther_66 : decode cX1_sinkFurther 66 = .ok (.dup, 1) := by decide +kernel
theorem dX1_sinkFurther_67 : decode cX1_sinkFurther 67 = .ok (.getfield 42, 3) := by decide +kernel
theorem dX1_sinkFurther_70 : decode cX1_sinkFurther 70 = .ok (.iconst 1, 1) := by decide +kernel
theorem dX1_sinkFurther_71 : decode cX1_sinkFurther 71 = .ok (.iadd, 1) := by decide +kernel
theorem dX1_sinkFurther_72 : decode cX1_sinkFurther 72 = .ok (.putfield 42, 3) := by decide +kernel
theorem dX1_sinkFurther_75 : decode cX1_sinkFurther 75 = .ok (.return_, 1) := by decide +kernel
set_option maxRecDepth 20000 in
theorem ggX1_giveUp_X1_comeBack : GoodIn wsX1_giveUp wsX1_comeBack := goodIn_r _ [9, 10, 11, 12, 13, 8, 14, 15, 16, 17, 18, 19, 20, 21, 22, 23, 24, 25, 26, 27, 28, 29, 30, 31, 32, 33, 34, 35, 36, 37, 38, 39, 40, 41, 42, 43, 44, 45, 46, 47, 48, 49, 50, 51, 52, 53, 54, 55, 56, 57, 58, 59, 60, 61, 62, 63, 64, 65, 66, 67, 68, 69, 70, 71, 72, 73, 74, 75, 76, 77, 78, 79, 80, 81, 82, 83, 84, 85, 86, 87] (by decide +kernel) (by decide +kernel)
set_option maxRecDepth 20000 in
theorem gX1_giveUp_X1_comeBack : GoodIn wsX1_giveUp (wsV RX1 122 RX1 yX1_comeBack wsX1_comeBack) := goodIn_app (goodIn_of _ (by decide +kernel)) ggX1_giveUp_X1_comeBack
theorem dX1_giveUp_0 : decode cX1_giveUp 0 = .ok (.aload_n 0, 1) := by decide +kernel
theorem dX1_giveUp_1 : decode cX1_giveUp 1 = .ok (.dup, 1) := by decide +kernel
theorem dX1_giveUp_2 : decode cX1_giveUp 2 = .ok (.getfield 45, 3) := by decide +kernel
theorem dX1_giveUp_5 : decode cX1_giveUp 5 = .ok (.iconst 1, 1) := by decide +kernel
theorem dX1_giveUp_6 : decode cX1_giveUp 6 = .ok (.iadd, 1) := by decide +kernel
theorem dX1_giveUp_7 : decode cX1_giveUp 7 = .ok (.putfield 45, 3) := by decide +kernel
theorem dX1_giveUp_10 : decode cX1_giveUp 10 = .ok (.aload_n 0, 1) := by decide +kernel
theorem dX1_giveUp_11 : decode cX1_giveUp 11 = .ok (.iload_n 1, 1) := by decide +kernel
theorem dX1_giveUp_12 : decode cX1_giveUp 12 = .ok (.putfield 48, 3) := by decide +kernel
theorem dX1_giveUp_15 : decode cX1_giveUp 15 = .ok (.aload_n 0, 1) := by decide +kernel
theorem dX1_giveUp_16 : decode cX1_giveUp 16 = .ok (.aload_n 2, 1) := by decide +kernel
theorem dX1_giveUp_17 : decode cX1_giveUp 17 = .ok (.getfield 101, 3) := by decide +kernel
theorem dX1_giveUp_20 : decode cX1_giveUp 20 = .ok (.putfield 51, 3) := by decide +kernel
theorem dX1_giveUp_23 : decode cX1_giveUp 23 = .ok (.aload_n 0, 1) := by decide +kernel
theorem dX1_giveUp_24 : decode cX1_giveUp 24 = .ok (.iconst 4, 1) := by decide +kernel
theorem dX1_giveUp_25 : decode cX1_giveUp 25 = .ok (.invokevirtual 122, 3) := by decide +kernel
theorem dX1_giveUp_28 : decode cX1_giveUp 28 = .ok (.return_, 1) := by decide +kernel
set_option maxRecDepth 20000 in
theorem ggX1_comeBack_X1_comeFurtherBack : GoodIn wsX1_comeBack wsX1_comeFurtherBack := goodIn_r _ [6, 7, 8, 9, 10, 11, 1, 12, 13, 14, 15, 16, 17, 18, 19, 20, 21, 22, 23, 24, 25, 26, 27, 28, 29, 30, 31, 32, 33, 34, 35, 36, 37, 5, 38, 39, 40, 41, 42, 43, 44, 45, 46, 47, 48, 49, 50, 51, 52, 53, 54, 55, 56, 57, 58, 59, 60, 61, 62, 63, 64, 65, 66, 67, 68, 69, 70, 71, 72, 73, 74, 75, 76, 77, 78, 79] (by decide +kernel) (by decide +kernel)
set_option maxRecDepth 20000 in
theorem gX1_comeBack_X1_comeFurtherBack : GoodIn wsX1_comeBack (wsV RX1 171 RX1 yX1_comeFurtherBack wsX1_comeFurtherBack) := goodIn_app (goodIn_of _ (by decide +kernel)) ggX1_comeBack_X1_comeFurtherBack
theorem dX1_comeBack_0 : decode cX1_comeBack 0 = .ok (.aload_n 0, 1) := by decide +kernel
theorem dX1_comeBack_1 : decode cX1_comeBack 1 = .ok (.iload_n 1, 1) := by decide +kernel
theorem dX1_comeBack_2 : decode cX1_comeBack 2 = .ok (.putfield 19, 3) := by decide +kernel
theorem dX1_comeBack_5 : decode cX1_comeBack 5 = .ok (.aload_n 0, 1) := by decide +kernel
theorem dX1_comeBack_6 : decode cX1_comeBack 6 = .ok (.invokevirtual 171, 3) := by decide +kernel
theorem dX1_comeBack_9 : decode cX1_comeBack 9 = .ok (.return_, 1) := by decide +kernel
set_option maxRecDepth 20000 in
theorem ggX1_comeFurtherBack_Jx4a65c_size_8abf5 : GoodIn wsX1_comeFurtherBack wsJx4a65c_size_8abf5 := goodIn_r _ [11, 12, 73, 74, 75] (by decide +kernel) (by decide +kernel)
set_option maxRecDepth 20000 in
theorem gX1_comeFurtherBack_Jx4a65c_size_8abf5 : GoodIn wsX1_comeFurtherBack (wsV RX1 65 RJx4a65c yJx4a65c_size_8abf5 wsJx4a65c_size_8abf5) := goodIn_app (goodIn_of _ (by decide +kernel)) ggX1_comeFurtherBack_Jx4a65c_size_8abf5
set_option maxRecDepth 20000 in
theorem ggX1_comeFurtherBack_Jx4a65c_get_915e3 : GoodIn wsX1_comeFurtherBack wsJx4a65c_get_915e3 := goodIn_r _ [16, 12, 17, 18, 19, 20, 21, 22, 23, 24, 25, 26, 27, 10, 28, 29, 73, 74, 75] (by decide +kernel) (by decide +kernel)
set_option maxRecDepth 20000 in
theorem gX1_comeFurtherBack_Jx4a65c_get_915e3 : GoodIn wsX1_comeFurtherBack (wsV RX1 129 RJx4a65c yJx4a65c_get_915e3 wsJx4a65c_get_915e3) := goodIn_app (goodIn_of _ (by decide +kernel)) ggX1_comeFurtherBack_Jx4a65c_get_915e3
set_option maxRecDepth 20000 in
theorem ggX1_comeFurtherBack_X1_makeDue : GoodIn wsX1_comeFurtherBack wsX1_makeDue := goodIn_r _ [34, 35, 36, 46, 47, 48, 49, 50, 51, 52, 53, 54, 55, 56, 57, 58, 59] (by decide +kernel) (by decide +kernel)
set_option maxRecDepth 20000 in
theorem gX1_comeFurtherBack_X1_makeDue : GoodIn wsX1_comeFurtherBack (wsV RX1 165 RX1 yX1_makeDue wsX1_makeDue) := goodIn_app (goodIn_of _ (by decide +kernel)) ggX1_comeFurtherBack_X1_makeDue
set_option maxRecDepth 20000 in
theorem ggX1_comeFurtherBack_X1_turn : GoodIn wsX1_comeFurtherBack wsX1_turn := goodIn_r _ [40, 3, 41, 60, 61, 62, 63, 64, 65, 66, 67, 68, 69, 70, 71, 72, 46, 47, 48, 49, 50, 51, 52, 53, 54, 55, 56, 57, 58, 59] (by decide +kernel) (by decide +kernel)
set_option maxRecDepth 20000 in
theorem gX1_comeFurtherBack_X1_turn : GoodIn wsX1_comeFurtherBack (wsV RX1 158 RX1 yX1_turn wsX1_turn) := goodIn_app (goodIn_of _ (by decide +kernel)) ggX1_comeFurtherBack_X1_turn
set_option maxRecDepth 20000 in
theorem ggX1_comeFurtherBack_X1_endDue : GoodIn wsX1_comeFurtherBack wsX1_endDue := goodIn_r _ [45, 35, 36, 46, 47, 48, 49, 50, 51, 52, 53, 54, 55, 56, 57, 58, 59] (by decide +kernel) (by decide +kernel)
set_option maxRecDepth 20000 in
theorem gX1_comeFurtherBack_X1_endDue : GoodIn wsX1_comeFurtherBack (wsV RX1 168 RX1 yX1_endDue wsX1_endDue) := goodIn_app (goodIn_of _ (by decide +kernel)) ggX1_comeFurtherBack_X1_endDue
theorem dX1_comeFurtherBack_0 : decode cX1_comeFurtherBack 0 = .ok (.iconst 0, 1) := by decide +kernel
theorem dX1_comeFurtherBack_1 : decode cX1_comeFurtherBack 1 = .ok (.istore_n 1, 1) := by decide +kernel
theorem dX1_comeFurtherBack_2 : decode cX1_comeFurtherBack 2 = .ok (.iload_n 1, 1) := by decide +kernel
theorem dX1_comeFurtherBack_3 : decode cX1_comeFurtherBack 3 = .ok (.aload_n 0, 1) := by decide +kernel
theorem dX1_comeFurtherBack_4 : decode cX1_comeFurtherBack 4 = .ok (.getfield 16, 3) := by decide +kernel
theorem dX1_comeFurtherBack_7 : decode cX1_comeFurtherBack 7 = .ok (.invokevirtual 65, 3) := by decide +kernel
theorem dX1_comeFurtherBack_10 : decode cX1_comeFurtherBack 10 = .ok (.if_icmp .ge 55, 3) := by decide +kernel
theorem dX1_comeFurtherBack_13 : decode cX1_comeFurtherBack 13 = .ok (.aload_n 0, 1) := by decide +kernel
theorem dX1_comeFurtherBack_14 : decode cX1_comeFurtherBack 14 = .ok (.getfield 16, 3) := by decide +kernel
theorem dX1_comeFurtherBack_17 : decode cX1_comeFurtherBack 17 = .ok (.iload_n 1, 1) := by decide +kernel
theorem dX1_comeFurtherBack_18 : decode cX1_comeFurtherBack 18 = .ok (.invokevirtual 129, 3) := by decide +kernel
theorem dX1_comeFurtherBack_21 : decode cX1_comeFurtherBack 21 = .ok (.checkcast 69, 3) := by decide +kernel
theorem dX1_comeFurtherBack_24 : decode cX1_comeFurtherBack 24 = .ok (.astore_n 2, 1) := by decide +kernel
theorem dX1_comeFurtherBack_25 : decode cX1_comeFurtherBack 25 = .ok (.aload_n 2, 1) := by decide +kernel
theorem dX1_comeFurtherBack_26 : decode cX1_comeFurtherBack 26 = .ok (.getfield 133, 3) := by decide +kernel
theorem dX1_comeFurtherBack_29 : decode cX1_comeFurtherBack 29 = .ok (.ifCond .ne 30, 3) := by decide +kernel
theorem dX1_comeFurtherBack_32 : decode cX1_comeFurtherBack 32 = .ok (.aload_n 2, 1) := by decide +kernel
theorem dX1_comeFurtherBack_33 : decode cX1_comeFurtherBack 33 = .ok (.getfield 136, 3) := by decide +kernel
theorem dX1_comeFurtherBack_36 : decode cX1_comeFurtherBack 36 = .ok (.iconst 2, 1) := by decide +kernel
theorem dX1_comeFurtherBack_37 : decode cX1_comeFurtherBack 37 = .ok (.if_icmp .ne 13, 3) := by decide +kernel
theorem dX1_comeFurtherBack_40 : decode cX1_comeFurtherBack 40 = .ok (.aload_n 0, 1) := by decide +kernel
theorem dX1_comeFurtherBack_41 : decode cX1_comeFurtherBack 41 = .ok (.aload_n 2, 1) := by decide +kernel
theorem dX1_comeFurtherBack_42 : decode cX1_comeFurtherBack 42 = .ok (.aload_n 2, 1) := by decide +kernel
theorem dX1_comeFurtherBack_43 : decode cX1_comeFurtherBack 43 = .ok (.getfield 174, 3) := by decide +kernel
theorem dX1_comeFurtherBack_46 : decode cX1_comeFurtherBack 46 = .ok (.invokevirtual 165, 3) := by decide +kernel
theorem dX1_comeFurtherBack_49 : decode cX1_comeFurtherBack 49 = .ok (.return_, 1) := by decide +kernel
theorem dX1_comeFurtherBack_50 : decode cX1_comeFurtherBack 50 = .ok (.aload_n 0, 1) := by decide +kernel
theorem dX1_comeFurtherBack_51 : decode cX1_comeFurtherBack 51 = .ok (.aload_n 2, 1) := by decide +kernel
theorem dX1_comeFurtherBack_52 : decode cX1_comeFurtherBack 52 = .ok (.aload_n 2, 1) := by decide +kernel
theorem dX1_comeFurtherBack_53 : decode cX1_comeFurtherBack 53 = .ok (.getfield 136, 3) := by decide +kernel
theorem dX1_comeFurtherBack_56 : decode cX1_comeFurtherBack 56 = .ok (.invokevirtual 158, 3) := by decide +kernel
theorem dX1_comeFurtherBack_59 : decode cX1_comeFurtherBack 59 = .ok (.iinc 1 1, 3) := by decide +kernel
theorem dX1_comeFurtherBack_62 : decode cX1_comeFurtherBack 62 = .ok (.goto (-60), 3) := by decide +kernel
theorem dX1_comeFurtherBack_65 : decode cX1_comeFurtherBack 65 = .ok (.aload_n 0, 1) := by decide +kernel
theorem dX1_comeFurtherBack_66 : decode cX1_comeFurtherBack 66 = .ok (.invokevirtual 168, 3) := by decide +kernel
theorem dX1_comeFurtherBack_69 : decode cX1_comeFurtherBack 69 = .ok (.aload_n 0, 1) := by decide +kernel
theorem dX1_comeFurtherBack_70 : decode cX1_comeFurtherBack 70 = .ok (.iconst 0, 1) := by decide +kernel
theorem dX1_comeFurtherBack_71 : decode cX1_comeFurtherBack 71 = .ok (.putfield 19, 3) := by decide +kernel
theorem dX1_comeFurtherBack_74 : decode cX1_comeFurtherBack 74 = .ok (.return_, 1) := by decide +kernel
set_option maxRecDepth 20000 in
theorem ggX1_passOneTick_X1_watchBites : GoodIn wsX1_passOneTick wsX1_watchBites := goodIn_r _ [8, 9, 2, 10, 104, 105, 106, 107, 108, 109, 110, 111, 112, 113, 114, 115, 116, 117] (by decide +kernel) (by decide +kernel)
set_option maxRecDepth 20000 in
theorem gX1_passOneTick_X1_watchBites : GoodIn wsX1_passOneTick (wsV RX1 177 RX1 yX1_watchBites wsX1_watchBites) := goodIn_app (goodIn_of _ (by decide +kernel)) ggX1_passOneTick_X1_watchBites
set_option maxRecDepth 20000 in
theorem ggX1_passOneTick_X1_resetAll : GoodIn wsX1_passOneTick wsX1_resetAll := goodIn_r _ [14, 15, 16, 17, 18, 2, 19, 20, 10, 21, 22, 23, 24, 25, 26, 27, 28, 29, 30, 31, 32, 33, 34, 35, 36, 37, 38, 39, 40, 41, 42, 43, 44, 45, 46, 47, 7, 48, 49, 50, 51, 52, 53, 54, 3, 55, 104, 105, 106, 107, 108, 109, 110, 111, 112, 113, 114, 115, 116, 117, 118, 119, 120, 121, 122, 123, 124, 125, 126, 127, 128, 129, 130, 131, 132, 133] (by decide +kernel) (by decide +kernel)
set_option maxRecDepth 20000 in
theorem gX1_passOneTick_X1_resetAll : GoodIn wsX1_passOneTick (wsV RX1 181 RX1 yX1_resetAll wsX1_resetAll) := goodIn_app (goodIn_of _ (by decide +kernel)) ggX1_passOneTick_X1_resetAll
set_option maxRecDepth 20000 in
theorem ggX1_passOneTick_X1_idleOneTick : GoodIn wsX1_passOneTick wsX1_idleOneTick := goodIn_r _ [59, 15, 16, 49, 17, 18, 60, 61, 62, 63, 7, 64, 65, 22, 23, 24, 25, 26, 27, 28, 29, 30, 31, 32, 33, 34, 35, 36, 37, 38, 39, 40, 41, 42, 43, 44, 66, 67, 68, 69, 70, 71, 72, 45, 46, 47, 48, 50, 104, 105, 106, 107, 108, 109, 110, 111, 112, 113, 114, 115, 116, 117, 118, 119, 120, 121, 122, 123, 124, 125, 126, 127, 128, 129, 130, 131, 132, 133] (by decide +kernel) (by decide +kernel)
set_option maxRecDepth 20000 in
theorem gX1_passOneTick_X1_idleOneTick : GoodIn wsX1_passOneTick (wsV RX1 184 RX1 yX1_idleOneTick wsX1_idleOneTick) := goodIn_app (goodIn_of _ (by decide +kernel)) ggX1_passOneTick_X1_idleOneTick
set_option maxRecDepth 20000 in
theorem ggX1_passOneTick_X1_bringNearer : GoodIn wsX1_passOneTick wsX1_bringNearer := goodIn_r _ [76, 55, 2, 77, 45, 46, 47, 7, 48, 49, 50, 78, 79, 80, 81, 82, 16, 83, 84, 22, 23, 24, 25, 26, 27, 28, 29, 30, 31, 32, 33, 34, 35, 36, 37, 38, 39, 40, 41, 42, 43, 44, 85, 86, 87, 88, 3, 51, 52, 53, 54, 89, 90, 91, 92, 93, 20, 72, 19, 94, 95, 96, 97, 98, 99, 100, 101, 102, 103, 104, 105, 106, 107, 108, 109, 110, 111, 112, 113, 114, 115, 116, 117, 118, 119, 120, 121, 122, 123, 124, 125, 126, 127, 128, 129, 130, 131, 132, 133] (by decide +kernel) (by decide +kernel)
set_option maxRecDepth 20000 in
theorem gX1_passOneTick_X1_bringNearer : GoodIn wsX1_passOneTick (wsV RX1 187 RX1 yX1_bringNearer wsX1_bringNearer) := goodIn_app (goodIn_of _ (by decide +kernel)) ggX1_passOneTick_X1_bringNearer
theorem dX1_passOneTick_0 : decode cX1_passOneTick 0 = .ok (.aload_n 0, 1) := by decide +kernel
theorem dX1_passOneTick_1 : decode cX1_passOneTick 1 = .ok (.dup, 1) := by decide +kernel
theorem dX1_passOneTick_2 : decode cX1_passOneTick 2 = .ok (.getfield 30, 3) := by decide +kernel
theorem dX1_passOneTick_5 : decode cX1_passOneTick 5 = .ok (.iconst 1, 1) := by decide +kernel
theorem dX1_passOneTick_6 : decode cX1_passOneTick 6 = .ok (.iadd, 1) := by decide +kernel
theorem dX1_passOneTick_7 : decode cX1_passOneTick 7 = .ok (.putfield 30, 3) := by decide +kernel
theorem dX1_passOneTick_10 : decode cX1_passOneTick 10 = .ok (.aload_n 0, 1) := by decide +kernel
theorem dX1_passOneTick_11 : decode cX1_passOneTick 11 = .ok (.invokevirtual 177, 3) := by decide +kernel
theorem dX1_passOneTick_14 : decode cX1_passOneTick 14 = .ok (.ifCond .eq 10, 3) := by decide +kernel
theorem dX1_passOneTick_17 : decode cX1_passOneTick 17 = .ok (.aload_n 0, 1) := by decide +kernel
theorem dX1_passOneTick_18 : decode cX1_passOneTick 18 = .ok (.invokevirtual 181, 3) := by decide +kernel
theorem dX1_passOneTick_21 : decode cX1_passOneTick 21 = .ok (.goto 32, 3) := by decide +kernel
theorem dX1_passOneTick_24 : decode cX1_passOneTick 24 = .ok (.aload_n 0, 1) := by decide +kernel
theorem dX1_passOneTick_25 : decode cX1_passOneTick 25 = .ok (.getfield 19, 3) := by decide +kernel
theorem dX1_passOneTick_28 : decode cX1_passOneTick 28 = .ok (.ifCond .ne 10, 3) := by decide +kernel
theorem dX1_passOneTick_31 : decode cX1_passOneTick 31 = .ok (.aload_n 0, 1) := by decide +kernel
theorem dX1_passOneTick_32 : decode cX1_passOneTick 32 = .ok (.invokevirtual 184, 3) := by decide +kernel
theorem dX1_passOneTick_35 : decode cX1_passOneTick 35 = .ok (.goto 18, 3) := by decide +kernel
theorem dX1_passOneTick_38 : decode cX1_passOneTick 38 = .ok (.aload_n 0, 1) := by decide +kernel
theorem dX1_passOneTick_39 : decode cX1_passOneTick 39 = .ok (.getfield 23, 3) := by decide +kernel
theorem dX1_passOneTick_42 : decode cX1_passOneTick 42 = .ok (.ifnull 11, 3) := by decide +kernel
theorem dX1_passOneTick_45 : decode cX1_passOneTick 45 = .ok (.aload_n 0, 1) := by decide +kernel
theorem dX1_passOneTick_46 : decode cX1_passOneTick 46 = .ok (.aload_n 0, 1) := by decide +kernel
theorem dX1_passOneTick_47 : decode cX1_passOneTick 47 = .ok (.getfield 23, 3) := by decide +kernel
theorem dX1_passOneTick_50 : decode cX1_passOneTick 50 = .ok (.invokevirtual 187, 3) := by decide +kernel
theorem dX1_passOneTick_53 : decode cX1_passOneTick 53 = .ok (.return_, 1) := by decide +kernel
theorem dX1_watchBites_0 : decode cX1_watchBites 0 = .ok (.aload_n 0, 1) := by decide +kernel
theorem dX1_watchBites_1 : decode cX1_watchBites 1 = .ok (.getfield 33, 3) := by decide +kernel
theorem dX1_watchBites_4 : decode cX1_watchBites 4 = .ok (.ifCond .eq 11, 3) := by decide +kernel
theorem dX1_watchBites_7 : decode cX1_watchBites 7 = .ok (.aload_n 0, 1) := by decide +kernel
theorem dX1_watchBites_8 : decode cX1_watchBites 8 = .ok (.getfield 19, 3) := by decide +kernel
theorem dX1_watchBites_11 : decode cX1_watchBites 11 = .ok (.iconst 2, 1) := by decide +kernel
theorem dX1_watchBites_12 : decode cX1_watchBites 12 = .ok (.if_icmp .ne 5, 3) := by decide +kernel
theorem dX1_watchBites_15 : decode cX1_watchBites 15 = .ok (.iconst 0, 1) := by decide +kernel
theorem dX1_watchBites_16 : decode cX1_watchBites 16 = .ok (.ireturn, 1) := by decide +kernel
theorem dX1_watchBites_17 : decode cX1_watchBites 17 = .ok (.aload_n 0, 1) := by decide +kernel
theorem dX1_watchBites_18 : decode cX1_watchBites 18 = .ok (.dup, 1) := by decide +kernel
theorem dX1_watchBites_19 : decode cX1_watchBites 19 = .ok (.getfield 36, 3) := by decide +kernel
theorem dX1_watchBites_22 : decode cX1_watchBites 22 = .ok (.iconst 1, 1) := by decide +kernel
theorem dX1_watchBites_23 : decode cX1_watchBites 23 = .ok (.iadd, 1) := by decide +kernel
theorem dX1_watchBites_24 : decode cX1_watchBites 24 = .ok (.putfield 36, 3) := by decide +kernel
theorem dX1_watchBites_27 : decode cX1_watchBites 27 = .ok (.aload_n 0, 1) := by decide +kernel
theorem dX1_watchBites_28 : decode cX1_watchBites 28 = .ok (.getfield 36, 3) := by decide +kernel
theorem dX1_watchBites_31 : decode cX1_watchBites 31 = .ok (.aload_n 0, 1) := by decide +kernel
theorem dX1_watchBites_32 : decode cX1_watchBites 32 = .ok (.getfield 33, 3) := by decide +kernel
theorem dX1_watchBites_35 : decode cX1_watchBites 35 = .ok (.if_icmp .le 7, 3) := by decide +kernel
theorem dX1_watchBites_38 : decode cX1_watchBites 38 = .ok (.iconst 1, 1) := by decide +kernel
theorem dX1_watchBites_39 : decode cX1_watchBites 39 = .ok (.goto 4, 3) := by decide +kernel
theorem dX1_watchBites_42 : decode cX1_watchBites 42 = .ok (.iconst 0, 1) := by decide +kernel
theorem dX1_watchBites_43 : decode cX1_watchBites 43 = .ok (.ireturn, 1) := by decide +kernel
set_option maxRecDepth 20000 in
theorem ggX1_resetAll_Jx4a65c_size_8abf5 : GoodIn wsX1_resetAll wsJx4a65c_size_8abf5 := goodIn_r _ [14, 15, 73, 74, 75] (by decide +kernel) (by decide +kernel)
set_option maxRecDepth 20000 in
theorem gX1_resetAll_Jx4a65c_size_8abf5 : GoodIn wsX1_resetAll (wsV RX1 65 RJx4a65c yJx4a65c_size_8abf5 wsJx4a65c_size_8abf5) := goodIn_app (goodIn_of _ (by decide +kernel)) ggX1_resetAll_Jx4a65c_size_8abf5
set_option maxRecDepth 20000 in
theorem ggX1_resetAll_Jx4a65c_get_915e3 : GoodIn wsX1_resetAll wsJx4a65c_get_915e3 := goodIn_r _ [19, 15, 20, 21, 22, 23, 24, 25, 26, 27, 28, 29, 30, 13, 31, 32, 73, 74, 75] (by decide +kernel) (by decide +kernel)
set_option maxRecDepth 20000 in
theorem gX1_resetAll_Jx4a65c_get_915e3 : GoodIn wsX1_resetAll (wsV RX1 129 RJx4a65c yJx4a65c_get_915e3 wsJx4a65c_get_915e3) := goodIn_app (goodIn_of _ (by decide +kernel)) ggX1_resetAll_Jx4a65c_get_915e3
set_option maxRecDepth 20000 in
theorem ggX1_resetAll_X1_turn : GoodIn wsX1_resetAll wsX1_turn := goodIn_r _ [37, 38, 39, 60, 61, 62, 63, 64, 65, 66, 67, 68, 69, 70, 71, 72, 46, 47, 48, 49, 50, 51, 52, 53, 54, 55, 56, 57, 58, 59] (by decide +kernel) (by decide +kernel)
set_option maxRecDepth 20000 in
theorem gX1_resetAll_X1_turn : GoodIn wsX1_resetAll (wsV RX1 158 RX1 yX1_turn wsX1_turn) := goodIn_app (goodIn_of _ (by decide +kernel)) ggX1_resetAll_X1_turn
set_option maxRecDepth 20000 in
theorem ggX1_resetAll_X1_endDue : GoodIn wsX1_resetAll wsX1_endDue := goodIn_r _ [43, 44, 45, 46, 47, 48, 49, 50, 51, 52, 53, 54, 55, 56, 57, 58, 59] (by decide +kernel) (by decide +kernel)
set_option maxRecDepth 20000 in
theorem gX1_resetAll_X1_endDue : GoodIn wsX1_resetAll (wsV RX1 168 RX1 yX1_endDue wsX1_endDue) := goodIn_app (goodIn_of _ (by decide +kernel)) ggX1_resetAll_X1_endDue
theorem dX1_resetAll_0 : decode cX1_resetAll 0 = .ok (.iconst 0, 1) := by decide +kernel
theorem dX1_resetAll_1 : decode cX1_resetAll 1 = .ok (.istore_n 1, 1) := by decide +kernel
theorem dX1_resetAll_2 : decode cX1_resetAll 2 = .ok (.iload_n 1, 1) := by decide +kernel
theorem dX1_resetAll_3 : decode cX1_resetAll 3 = .ok (.aload_n 0, 1) := by decide +kernel
theorem dX1_resetAll_4 : decode cX1_resetAll 4 = .ok (.getfield 10, 3) := by decide +kernel
theorem dX1_resetAll_7 : decode cX1_resetAll 7 = .ok (.invokevirtual 65, 3) := by decide +kernel
theorem dX1_resetAll_10 : decode cX1_resetAll 10 = .ok (.if_icmp .ge 37, 3) := by decide +kernel
theorem dX1_resetAll_13 : decode cX1_resetAll 13 = .ok (.aload_n 0, 1) := by decide +kernel
theorem dX1_resetAll_14 : decode cX1_resetAll 14 = .ok (.getfield 10, 3) := by decide +kernel
theorem dX1_resetAll_17 : decode cX1_resetAll 17 = .ok (.iload_n 1, 1) := by decide +kernel
theorem dX1_resetAll_18 : decode cX1_resetAll 18 = .ok (.invokevirtual 129, 3) := by decide +kernel
theorem dX1_resetAll_21 : decode cX1_resetAll 21 = .ok (.checkcast 69, 3) := by decide +kernel
theorem dX1_resetAll_24 : decode cX1_resetAll 24 = .ok (.astore_n 2, 1) := by decide +kernel
theorem dX1_resetAll_25 : decode cX1_resetAll 25 = .ok (.aload_n 0, 1) := by decide +kernel
theorem dX1_resetAll_26 : decode cX1_resetAll 26 = .ok (.aload_n 2, 1) := by decide +kernel
theorem dX1_resetAll_27 : decode cX1_resetAll 27 = .ok (.iconst 2, 1) := by decide +kernel
theorem dX1_resetAll_28 : decode cX1_resetAll 28 = .ok (.invokevirtual 158, 3) := by decide +kernel
theorem dX1_resetAll_31 : decode cX1_resetAll 31 = .ok (.aload_n 2, 1) := by decide +kernel
theorem dX1_resetAll_32 : decode cX1_resetAll 32 = .ok (.iconst 0, 1) := by decide +kernel
theorem dX1_resetAll_33 : decode cX1_resetAll 33 = .ok (.putfield 108, 3) := by decide +kernel
theorem dX1_resetAll_36 : decode cX1_resetAll 36 = .ok (.aload_n 2, 1) := by decide +kernel
theorem dX1_resetAll_37 : decode cX1_resetAll 37 = .ok (.iconst 0, 1) := by decide +kernel
theorem dX1_resetAll_38 : decode cX1_resetAll 38 = .ok (.putfield 145, 3) := by decide +kernel
theorem dX1_resetAll_41 : decode cX1_resetAll 41 = .ok (.iinc 1 1, 3) := by decide +kernel
theorem dX1_resetAll_44 : decode cX1_resetAll 44 = .ok (.goto (-42), 3) := by decide +kernel
theorem dX1_resetAll_47 : decode cX1_resetAll 47 = .ok (.aload_n 0, 1) := by decide +kernel
theorem dX1_resetAll_48 : decode cX1_resetAll 48 = .ok (.invokevirtual 168, 3) := by decide +kernel
theorem dX1_resetAll_51 : decode cX1_resetAll 51 = .ok (.aload_n 0, 1) := by decide +kernel
theorem dX1_resetAll_52 : decode cX1_resetAll 52 = .ok (.iconst 0, 1) := by decide +kernel
theorem dX1_resetAll_53 : decode cX1_resetAll 53 = .ok (.putfield 19, 3) := by decide +kernel
theorem dX1_resetAll_56 : decode cX1_resetAll 56 = .ok (.aload_n 0, 1) := by decide +kernel
theorem dX1_resetAll_57 : decode cX1_resetAll 57 = .ok (.iconst (-1), 1) := by decide +kernel
theorem dX1_resetAll_58 : decode cX1_resetAll 58 = .ok (.putfield 51, 3) := by decide +kernel
theorem dX1_resetAll_61 : decode cX1_resetAll 61 = .ok (.aload_n 0, 1) := by decide +kernel
theorem dX1_resetAll_62 : decode cX1_resetAll 62 = .ok (.iconst 0, 1) := by decide +kernel
theorem dX1_resetAll_63 : decode cX1_resetAll 63 = .ok (.putfield 48, 3) := by decide +kernel
theorem dX1_resetAll_66 : decode cX1_resetAll 66 = .ok (.aload_n 0, 1) := by decide +kernel
theorem dX1_resetAll_67 : decode cX1_resetAll 67 = .ok (.iconst 0, 1) := by decide +kernel
theorem dX1_resetAll_68 : decode cX1_resetAll 68 = .ok (.putfield 36, 3) := by decide +kernel
theorem dX1_resetAll_71 : decode cX1_resetAll 71 = .ok (.aload_n 0, 1) := by decide +kernel
theorem dX1_resetAll_72 : decode cX1_resetAll 72 = .ok (.dup, 1) := by decide +kernel
theorem dX1_resetAll_73 : decode cX1_resetAll 73 = .ok (.getfield 39, 3) := by decide +kernel
theorem dX1_resetAll_76 : decode cX1_resetAll 76 = .ok (.iconst 1, 1) := by decide +kernel
theorem dX1_resetAll_77 : decode cX1_resetAll 77 = .ok (.iadd, 1) := by decide +kernel
theorem dX1_resetAll_78 : decode cX1_resetAll 78 = .ok (.putfield 39, 3) := by decide +kernel
theorem dX1_resetAll_81 : decode cX1_resetAll 81 = .ok (.return_, 1) := by decide +kernel
set_option maxRecDepth 20000 in
theorem ggX1_idleOneTick_X1_parentsOfThoseOn : GoodIn wsX1_idleOneTick wsX1_parentsOfThoseOn := goodIn_r _ [11, 1, 2, 3, 12, 13, 14, 15, 16, 17, 18, 19, 20, 21, 22, 23, 24, 25, 26, 27, 28, 29, 30, 31, 32, 33, 34, 35, 48, 49, 50, 51, 52, 53, 54, 55, 56, 57, 58, 59, 60, 61, 62, 63, 64, 65, 66, 67, 68, 69, 70, 71, 72, 73, 74, 75, 76, 77] (by decide +kernel) (by decide +kernel)
set_option maxRecDepth 20000 in
theorem gX1_idleOneTick_X1_parentsOfThoseOn : GoodIn wsX1_idleOneTick (wsV RX1 191 RX1 yX1_parentsOfThoseOn wsX1_parentsOfThoseOn) := goodIn_app (goodIn_of _ (by decide +kernel)) ggX1_idleOneTick_X1_parentsOfThoseOn
set_option maxRecDepth 20000 in
theorem ggX1_idleOneTick_Jx4a65c_size_8abf5 : GoodIn wsX1_idleOneTick wsJx4a65c_size_8abf5 := goodIn_r _ [17, 18, 75, 76, 77] (by decide +kernel) (by decide +kernel)
set_option maxRecDepth 20000 in
theorem gX1_idleOneTick_Jx4a65c_size_8abf5 : GoodIn wsX1_idleOneTick (wsV RX1 65 RJx4a65c yJx4a65c_size_8abf5 wsJx4a65c_size_8abf5) := goodIn_app (goodIn_of _ (by decide +kernel)) ggX1_idleOneTick_Jx4a65c_size_8abf5
set_option maxRecDepth 20000 in
theorem ggX1_idleOneTick_Jx4a65c_get_915e3 : GoodIn wsX1_idleOneTick wsJx4a65c_get_915e3 := goodIn_r _ [22, 18, 23, 24, 25, 26, 27, 28, 29, 30, 31, 32, 33, 16, 34, 35, 75, 76, 77] (by decide +kernel) (by decide +kernel)
set_option maxRecDepth 20000 in
theorem gX1_idleOneTick_Jx4a65c_get_915e3 : GoodIn wsX1_idleOneTick (wsV RX1 129 RJx4a65c yJx4a65c_get_915e3 wsJx4a65c_get_915e3) := goodIn_app (goodIn_of _ (by decide +kernel)) ggX1_idleOneTick_Jx4a65c_get_915e3
set_option maxRecDepth 20000 in
theorem ggX1_idleOneTick_X1_holds : GoodIn wsX1_idleOneTick wsX1_holds := goodIn_r _ [38, 39, 40, 10, 41, 42, 62, 63, 64, 65, 66, 67, 68, 69, 70, 71, 72, 73, 74] (by decide +kernel) (by decide +kernel)
set_option maxRecDepth 20000 in
theorem gX1_idleOneTick_X1_holds : GoodIn wsX1_idleOneTick (va_wsS RX1 148 yX1_holds wsX1_holds) := goodIn_app (goodIn_of _ (by decide +kernel)) ggX1_idleOneTick_X1_holds
set_option maxRecDepth 20000 in
theorem ggX1_idleOneTick_X1_turn : GoodIn wsX1_idleOneTick wsX1_turn := goodIn_r _ [46, 3, 47, 62, 63, 64, 65, 66, 67, 68, 69, 70, 71, 72, 73, 74, 48, 49, 50, 51, 52, 53, 54, 55, 56, 57, 58, 59, 60, 61] (by decide +kernel) (by decide +kernel)
set_option maxRecDepth 20000 in
theorem gX1_idleOneTick_X1_turn : GoodIn wsX1_idleOneTick (wsV RX1 158 RX1 yX1_turn wsX1_turn) := goodIn_app (goodIn_of _ (by decide +kernel)) ggX1_idleOneTick_X1_turn
theorem dX1_idleOneTick_0 : decode cX1_idleOneTick 0 = .ok (.aload_n 0, 1) := by decide +kernel
theorem dX1_idleOneTick_1 : decode cX1_idleOneTick 1 = .ok (.invokevirtual 191, 3) := by decide +kernel
theorem dX1_idleOneTick_4 : decode cX1_idleOneTick 4 = .ok (.istore_n 1, 1) := by decide +kernel
theorem dX1_idleOneTick_5 : decode cX1_idleOneTick 5 = .ok (.iconst 0, 1) := by decide +kernel
theorem dX1_idleOneTick_6 : decode cX1_idleOneTick 6 = .ok (.istore_n 2, 1) := by decide +kernel
theorem dX1_idleOneTick_7 : decode cX1_idleOneTick 7 = .ok (.iload_n 2, 1) := by decide +kernel
theorem dX1_idleOneTick_8 : decode cX1_idleOneTick 8 = .ok (.aload_n 0, 1) := by decide +kernel
theorem dX1_idleOneTick_9 : decode cX1_idleOneTick 9 = .ok (.getfield 10, 3) := by decide +kernel
theorem dX1_idleOneTick_12 : decode cX1_idleOneTick 12 = .ok (.invokevirtual 65, 3) := by decide +kernel
theorem dX1_idleOneTick_15 : decode cX1_idleOneTick 15 = .ok (.if_icmp .ge 99, 3) := by decide +kernel
theorem dX1_idleOneTick_18 : decode cX1_idleOneTick 18 = .ok (.aload_n 0, 1) := by decide +kernel
theorem dX1_idleOneTick_19 : decode cX1_idleOneTick 19 = .ok (.getfield 10, 3) := by decide +kernel
theorem dX1_idleOneTick_22 : decode cX1_idleOneTick 22 = .ok (.iload_n 2, 1) := by decide +kernel
theorem dX1_idleOneTick_23 : decode cX1_idleOneTick 23 = .ok (.invokevirtual 129, 3) := by decide +kernel
theorem dX1_idleOneTick_26 : decode cX1_idleOneTick 26 = .ok (.checkcast 69, 3) := by decide +kernel
theorem dX1_idleOneTick_29 : decode cX1_idleOneTick 29 = .ok (.astore_n 3, 1) := by decide +kernel
theorem dX1_idleOneTick_30 : decode cX1_idleOneTick 30 = .ok (.aload_n 3, 1) := by decide +kernel
theorem dX1_idleOneTick_31 : decode cX1_idleOneTick 31 = .ok (.getfield 133, 3) := by decide +kernel
theorem dX1_idleOneTick_34 : decode cX1_idleOneTick 34 = .ok (.iconst 2, 1) := by decide +kernel
theorem dX1_idleOneTick_35 : decode cX1_idleOneTick 35 = .ok (.if_icmp .ne 22, 3) := by decide +kernel
theorem dX1_idleOneTick_38 : decode cX1_idleOneTick 38 = .ok (.aload_n 3, 1) := by decide +kernel
theorem dX1_idleOneTick_39 : decode cX1_idleOneTick 39 = .ok (.getfield 108, 3) := by decide +kernel
theorem dX1_idleOneTick_42 : decode cX1_idleOneTick 42 = .ok (.ifCond .ne 15, 3) := by decide +kernel
theorem dX1_idleOneTick_45 : decode cX1_idleOneTick 45 = .ok (.iload_n 1, 1) := by decide +kernel
theorem dX1_idleOneTick_46 : decode cX1_idleOneTick 46 = .ok (.aload_n 3, 1) := by decide +kernel
theorem dX1_idleOneTick_47 : decode cX1_idleOneTick 47 = .ok (.invokestatic 148, 3) := by decide +kernel
theorem dX1_idleOneTick_50 : decode cX1_idleOneTick 50 = .ok (.ifCond .ne 7, 3) := by decide +kernel
theorem dX1_idleOneTick_53 : decode cX1_idleOneTick 53 = .ok (.iconst 1, 1) := by decide +kernel
theorem dX1_idleOneTick_54 : decode cX1_idleOneTick 54 = .ok (.goto 4, 3) := by decide +kernel
theorem dX1_idleOneTick_57 : decode cX1_idleOneTick 57 = .ok (.iconst 0, 1) := by decide +kernel
theorem dX1_idleOneTick_58 : decode cX1_idleOneTick 58 = .ok (.istore 4, 2) := by decide +kernel
theorem dX1_idleOneTick_60 : decode cX1_idleOneTick 60 = .ok (.aload_n 3, 1) := by decide +kernel
theorem dX1_idleOneTick_61 : decode cX1_idleOneTick 61 = .ok (.iload 4, 2) := by decide +kernel
theorem dX1_idleOneTick_63 : decode cX1_idleOneTick 63 = .ok (.ifCond .eq 12, 3) := by decide +kernel
theorem dX1_idleOneTick_66 : decode cX1_idleOneTick 66 = .ok (.aload_n 3, 1) := by decide +kernel
theorem dX1_idleOneTick_67 : decode cX1_idleOneTick 67 = .ok (.getfield 145, 3) := by decide +kernel
theorem dX1_idleOneTick_70 : decode cX1_idleOneTick 70 = .ok (.iconst 1, 1) := by decide +kernel
theorem dX1_idleOneTick_71 : decode cX1_idleOneTick 71 = .ok (.iadd, 1) := by decide +kernel
theorem dX1_idleOneTick_72 : decode cX1_idleOneTick 72 = .ok (.goto 4, 3) := by decide +kernel
theorem dX1_idleOneTick_75 : decode cX1_idleOneTick 75 = .ok (.iconst 0, 1) := by decide +kernel
theorem dX1_idleOneTick_76 : decode cX1_idleOneTick 76 = .ok (.putfield 145, 3) := by decide +kernel
theorem dX1_idleOneTick_79 : decode cX1_idleOneTick 79 = .ok (.iload 4, 2) := by decide +kernel
theorem dX1_idleOneTick_81 : decode cX1_idleOneTick 81 = .ok (.ifCond .eq 27, 3) := by decide +kernel
theorem dX1_idleOneTick_84 : decode cX1_idleOneTick 84 = .ok (.aload_n 3, 1) := by decide +kernel
theorem dX1_idleOneTick_85 : decode cX1_idleOneTick 85 = .ok (.getfield 194, 3) := by decide +kernel
theorem dX1_idleOneTick_88 : decode cX1_idleOneTick 88 = .ok (.ifCond .eq 20, 3) := by decide +kernel
theorem dX1_idleOneTick_91 : decode cX1_idleOneTick 91 = .ok (.aload_n 3, 1) := by decide +kernel
