set_option maxRecDepth 20000 in
theorem ggX10_init_X4_init : GoodIn wsX10_init wsX4_init := goodIn_r _ [33, 34, 2, 3, 35, 36, 37, 100, 101] (by decide +kernel) (by decide +kernel)
set_option maxRecDepth 20000 in
theorem gX10_init_X4_init_n9 : GoodIn wsX10_init (wsX4_init) := ggX10_init_X4_init
set_option maxRecDepth 20000 in
theorem ggX10_init_X6_init : GoodIn wsX10_init wsX6_init := goodIn_r _ [39, 40, 2, 3, 41, 42, 43, 44, 45, 46, 47, 48, 49, 50, 51, 52, 53, 54, 55, 56, 57, 58, 59, 60, 61, 62, 63, 64, 65, 66, 67, 68, 69, 70, 71, 72, 73, 74, 114, 115, 116, 117, 118, 119, 120, 121] (by decide +kernel) (by decide +kernel)
set_option maxRecDepth 20000 in
theorem gX10_init_X6_init_n18 : GoodIn wsX10_init (wsX6_init) := ggX10_init_X6_init
set_option maxRecDepth 20000 in
theorem ggX10_init_X2_init : GoodIn wsX10_init wsX2_init := goodIn_r _ [76, 77, 2, 3, 21, 78, 79, 80, 81, 82, 83, 84, 85, 86, 122, 123, 124, 125, 126, 127, 128, 129, 130] (by decide +kernel) (by decide +kernel)
set_option maxRecDepth 20000 in
theorem gX10_init_X2_init_n25 : GoodIn wsX10_init (wsX2_init) := ggX10_init_X2_init
set_option maxRecDepth 20000 in
theorem ggX10_init_X8_init : GoodIn wsX10_init wsX8_init := goodIn_r _ [89, 90, 2, 3, 21, 91, 92, 93, 131, 132, 133] (by decide +kernel) (by decide +kernel)
set_option maxRecDepth 20000 in
theorem gX10_init_X8_init : GoodIn wsX10_init (wsX8_init) := ggX10_init_X8_init
set_option maxRecDepth 20000 in
theorem ggX10_init_X7_init : GoodIn wsX10_init wsX7_init := goodIn_r _ [95, 96, 2, 3, 97, 21, 98, 99, 134, 135] (by decide +kernel) (by decide +kernel)
set_option maxRecDepth 20000 in
theorem gX10_init_X7_init_n54 : GoodIn wsX10_init (wsX7_init) := ggX10_init_X7_init
theorem dX10_init_0 : decode cX10_init 0 = .ok (.aload_n 0, 1) := by decide +kernel
theorem dX10_init_1 : decode cX10_init 1 = .ok (.invokespecial 1, 3) := by decide +kernel
theorem dX10_init_4 : decode cX10_init 4 = .ok (.aload_n 0, 1) := by decide +kernel
theorem dX10_init_5 : decode cX10_init 5 = .ok (.new 7, 3) := by decide +kernel
theorem dX10_init_8 : decode cX10_init 8 = .ok (.dup, 1) := by decide +kernel
theorem dX10_init_9 : decode cX10_init 9 = .ok (.invokespecial 9, 3) := by decide +kernel
theorem dX10_init_12 : decode cX10_init 12 = .ok (.putfield 10, 3) := by decide +kernel
theorem dX10_init_15 : decode cX10_init 15 = .ok (.aload_n 0, 1) := by decide +kernel
theorem dX10_init_16 : decode cX10_init 16 = .ok (.new 16, 3) := by decide +kernel
theorem dX10_init_19 : decode cX10_init 19 = .ok (.dup, 1) := by decide +kernel
theorem dX10_init_20 : decode cX10_init 20 = .ok (.invokespecial 18, 3) := by decide +kernel
theorem dX10_init_23 : decode cX10_init 23 = .ok (.putfield 19, 3) := by decide +kernel
theorem dX10_init_26 : decode cX10_init 26 = .ok (.aload_n 0, 1) := by decide +kernel
theorem dX10_init_27 : decode cX10_init 27 = .ok (.new 23, 3) := by decide +kernel
theorem dX10_init_30 : decode cX10_init 30 = .ok (.dup, 1) := by decide +kernel
theorem dX10_init_31 : decode cX10_init 31 = .ok (.invokespecial 25, 3) := by decide +kernel
theorem dX10_init_34 : decode cX10_init 34 = .ok (.putfield 26, 3) := by decide +kernel
theorem dX10_init_37 : decode cX10_init 37 = .ok (.aload_n 0, 1) := by decide +kernel
theorem dX10_init_38 : decode cX10_init 38 = .ok (.new 23, 3) := by decide +kernel
theorem dX10_init_41 : decode cX10_init 41 = .ok (.dup, 1) := by decide +kernel
theorem dX10_init_42 : decode cX10_init 42 = .ok (.invokespecial 25, 3) := by decide +kernel
theorem dX10_init_45 : decode cX10_init 45 = .ok (.putfield 30, 3) := by decide +kernel
theorem dX10_init_48 : decode cX10_init 48 = .ok (.aload_n 0, 1) := by decide +kernel
theorem dX10_init_49 : decode cX10_init 49 = .ok (.new 33, 3) := by decide +kernel
theorem dX10_init_52 : decode cX10_init 52 = .ok (.dup, 1) := by decide +kernel
theorem dX10_init_53 : decode cX10_init 53 = .ok (.aload_n 0, 1) := by decide +kernel
theorem dX10_init_54 : decode cX10_init 54 = .ok (.getfield 19, 3) := by decide +kernel
theorem dX10_init_57 : decode cX10_init 57 = .ok (.invokespecial 35, 3) := by decide +kernel
theorem dX10_init_60 : decode cX10_init 60 = .ok (.putfield 38, 3) := by decide +kernel
theorem dX10_init_63 : decode cX10_init 63 = .ok (.aload_n 0, 1) := by decide +kernel
theorem dX10_init_64 : decode cX10_init 64 = .ok (.bipush 6, 2) := by decide +kernel
theorem dX10_init_66 : decode cX10_init 66 = .ok (.newarray .int, 2) := by decide +kernel
theorem dX10_init_68 : decode cX10_init 68 = .ok (.putfield 42, 3) := by decide +kernel
theorem dX10_init_71 : decode cX10_init 71 = .ok (.aload_n 0, 1) := by decide +kernel
theorem dX10_init_72 : decode cX10_init 72 = .ok (.bipush 6, 2) := by decide +kernel
theorem dX10_init_74 : decode cX10_init 74 = .ok (.newarray .int, 2) := by decide +kernel
theorem dX10_init_76 : decode cX10_init 76 = .ok (.putfield 46, 3) := by decide +kernel
theorem dX10_init_79 : decode cX10_init 79 = .ok (.aload_n 0, 1) := by decide +kernel
theorem dX10_init_80 : decode cX10_init 80 = .ok (.bipush 6, 2) := by decide +kernel
theorem dX10_init_82 : decode cX10_init 82 = .ok (.newarray .int, 2) := by decide +kernel
theorem dX10_init_84 : decode cX10_init 84 = .ok (.putfield 49, 3) := by decide +kernel
theorem dX10_init_87 : decode cX10_init 87 = .ok (.aload_n 0, 1) := by decide +kernel
theorem dX10_init_88 : decode cX10_init 88 = .ok (.new 52, 3) := by decide +kernel
theorem dX10_init_91 : decode cX10_init 91 = .ok (.dup, 1) := by decide +kernel
theorem dX10_init_92 : decode cX10_init 92 = .ok (.invokespecial 54, 3) := by decide +kernel
theorem dX10_init_95 : decode cX10_init 95 = .ok (.putfield 55, 3) := by decide +kernel
theorem dX10_init_98 : decode cX10_init 98 = .ok (.aload_n 0, 1) := by decide +kernel
theorem dX10_init_99 : decode cX10_init 99 = .ok (.iconst 0, 1) := by decide +kernel
theorem dX10_init_100 : decode cX10_init 100 = .ok (.putfield 59, 3) := by decide +kernel
theorem dX10_init_103 : decode cX10_init 103 = .ok (.aload_n 0, 1) := by decide +kernel
theorem dX10_init_104 : decode cX10_init 104 = .ok (.iconst 0, 1) := by decide +kernel
theorem dX10_init_105 : decode cX10_init 105 = .ok (.putfield 63, 3) := by decide +kernel
theorem dX10_init_108 : decode cX10_init 108 = .ok (.aload_n 0, 1) := by decide +kernel
theorem dX10_init_109 : decode cX10_init 109 = .ok (.iconst 0, 1) := by decide +kernel
theorem dX10_init_110 : decode cX10_init 110 = .ok (.putfield 67, 3) := by decide +kernel
theorem dX10_init_113 : decode cX10_init 113 = .ok (.return_, 1) := by decide +kernel
set_option maxRecDepth 20000 in
theorem ggX10_letter_X4_add : GoodIn wsX10_letter wsX4_add := goodIn_r _ [7, 8, 9, 22, 23] (by decide +kernel) (by decide +kernel)
set_option maxRecDepth 20000 in
theorem gX10_letter_X4_add : GoodIn wsX10_letter (wsV RX10 70 RX4 yX4_add wsX4_add) := goodIn_app (goodIn_of _ (by decide +kernel)) ggX10_letter_X4_add
theorem dX10_letter_0 : decode cX10_letter 0 = .ok (.iload_n 1, 1) := by decide +kernel
theorem dX10_letter_1 : decode cX10_letter 1 = .ok (.bipush 32, 2) := by decide +kernel
theorem dX10_letter_3 : decode cX10_letter 3 = .ok (.if_icmp .lt 9, 3) := by decide +kernel
theorem dX10_letter_6 : decode cX10_letter 6 = .ok (.iload_n 1, 1) := by decide +kernel
theorem dX10_letter_7 : decode cX10_letter 7 = .ok (.bipush 126, 2) := by decide +kernel
theorem dX10_letter_9 : decode cX10_letter 9 = .ok (.if_icmp .le 6, 3) := by decide +kernel
theorem dX10_letter_12 : decode cX10_letter 12 = .ok (.bipush (-102), 2) := by decide +kernel
theorem dX10_letter_14 : decode cX10_letter 14 = .ok (.ireturn, 1) := by decide +kernel
theorem dX10_letter_15 : decode cX10_letter 15 = .ok (.aload_n 0, 1) := by decide +kernel
theorem dX10_letter_16 : decode cX10_letter 16 = .ok (.getfield 10, 3) := by decide +kernel
theorem dX10_letter_19 : decode cX10_letter 19 = .ok (.iload_n 1, 1) := by decide +kernel
theorem dX10_letter_20 : decode cX10_letter 20 = .ok (.i2c, 1) := by decide +kernel
theorem dX10_letter_21 : decode cX10_letter 21 = .ok (.invokevirtual 70, 3) := by decide +kernel
theorem dX10_letter_24 : decode cX10_letter 24 = .ok (.ifCond .eq 13, 3) := by decide +kernel
theorem dX10_letter_27 : decode cX10_letter 27 = .ok (.aload_n 0, 1) := by decide +kernel
theorem dX10_letter_28 : decode cX10_letter 28 = .ok (.getfield 10, 3) := by decide +kernel
theorem dX10_letter_31 : decode cX10_letter 31 = .ok (.getfield 74, 3) := by decide +kernel
theorem dX10_letter_34 : decode cX10_letter 34 = .ok (.goto 5, 3) := by decide +kernel
theorem dX10_letter_37 : decode cX10_letter 37 = .ok (.bipush (-104), 2) := by decide +kernel
theorem dX10_letter_39 : decode cX10_letter 39 = .ok (.ireturn, 1) := by decide +kernel
theorem dX10_blank_0 : decode cX10_blank 0 = .ok (.aload_n 0, 1) := by decide +kernel
theorem dX10_blank_1 : decode cX10_blank 1 = .ok (.getfield 10, 3) := by decide +kernel
theorem dX10_blank_4 : decode cX10_blank 4 = .ok (.getfield 74, 3) := by decide +kernel
theorem dX10_blank_7 : decode cX10_blank 7 = .ok (.istore_n 1, 1) := by decide +kernel
theorem dX10_blank_8 : decode cX10_blank 8 = .ok (.aload_n 0, 1) := by decide +kernel
theorem dX10_blank_9 : decode cX10_blank 9 = .ok (.getfield 10, 3) := by decide +kernel
theorem dX10_blank_12 : decode cX10_blank 12 = .ok (.iconst 0, 1) := by decide +kernel
theorem dX10_blank_13 : decode cX10_blank 13 = .ok (.putfield 74, 3) := by decide +kernel
theorem dX10_blank_16 : decode cX10_blank 16 = .ok (.iload_n 1, 1) := by decide +kernel
theorem dX10_blank_17 : decode cX10_blank 17 = .ok (.ireturn, 1) := by decide +kernel
set_option maxRecDepth 20000 in
theorem ggX10_fault_X4_firstFault : GoodIn wsX10_fault wsX4_firstFault := goodIn_r _ [6, 7, 8, 9, 10, 5, 11, 12, 13, 14, 15, 16, 17, 18, 19, 20, 21, 22, 23, 24, 25, 26, 27, 28, 29, 30, 31, 32, 33, 34, 35, 36, 37, 38, 39, 40, 41, 42, 43, 44, 45, 46, 47, 48, 49, 50, 51, 52, 53, 54, 55, 56, 57, 58, 59, 60, 61, 62, 63, 64, 65, 66, 67, 68, 69, 70, 71, 72, 73, 74, 75, 76, 77, 78, 79, 80, 81, 82, 83, 84, 85, 86, 87, 88, 89, 90, 91, 92, 93, 94, 95, 96, 97, 98, 99, 100, 101, 102, 103, 116, 117] (by decide +kernel) (by decide +kernel)
set_option maxRecDepth 20000 in
theorem gX10_fault_X4_firstFault : GoodIn wsX10_fault (wsV RX10 77 RX4 yX4_firstFault wsX4_firstFault) := goodIn_app (goodIn_of _ (by decide +kernel)) ggX10_fault_X4_firstFault
theorem dX10_fault_0 : decode cX10_fault 0 = .ok (.aload_n 0, 1) := by decide +kernel
theorem dX10_fault_1 : decode cX10_fault 1 = .ok (.getfield 10, 3) := by decide +kernel
theorem dX10_fault_4 : decode cX10_fault 4 = .ok (.invokevirtual 77, 3) := by decide +kernel
theorem dX10_fault_7 : decode cX10_fault 7 = .ok (.ireturn, 1) := by decide +kernel
set_option maxRecDepth 20000 in
theorem ggX10_round_X4_isWhole : GoodIn wsX10_round wsX4_isWhole := goodIn_r _ [12, 13, 14, 15, 16, 17, 11, 18, 19, 20, 21, 22, 23, 24, 25, 26, 27, 28, 29, 30, 31, 32, 33, 34, 35, 36, 37, 38, 39, 40, 41, 42, 43, 44, 45, 46, 47, 48, 49, 50, 51, 52, 53, 54, 55, 56, 57, 58, 59, 60, 61, 62, 63, 64, 65, 66, 67, 68, 69, 70, 71, 72, 73, 74, 75, 76, 77, 78, 79, 80, 81, 82, 83, 84, 85, 86, 87, 88, 89, 90, 91, 92, 93, 94, 95, 96, 97, 98, 99, 100, 101, 102, 103, 104, 105, 106, 107, 108, 109, 110, 111, 112, 113, 179, 180] (by decide +kernel) (by decide +kernel)
set_option maxRecDepth 20000 in
theorem gX10_round_X4_isWhole : GoodIn wsX10_round (wsV RX10 81 RX4 yX4_isWhole wsX4_isWhole) := goodIn_app (goodIn_of _ (by decide +kernel)) ggX10_round_X4_isWhole
set_option maxRecDepth 20000 in
theorem ggX10_round_X6_settle : GoodIn wsX10_round wsX6_settle := goodIn_r _ [118, 119, 120, 121, 122, 123, 124, 11, 125, 13, 126, 127, 128, 129, 14, 130, 131, 132, 133, 134, 135, 136, 117, 137, 138, 139, 140, 141, 142, 171, 172, 173, 174, 175, 176, 177, 178, 179, 180] (by decide +kernel) (by decide +kernel)
set_option maxRecDepth 20000 in
theorem gX10_round_X6_settle : GoodIn wsX10_round (wsV RX10 85 RX6 yX6_settle wsX6_settle) := goodIn_app (goodIn_of _ (by decide +kernel)) ggX10_round_X6_settle
set_option maxRecDepth 20000 in
theorem ggX10_round_X2_begin : GoodIn wsX10_round wsX2_begin := goodIn_r _ [147, 148, 149, 150, 151, 152, 153, 154, 155, 156, 157, 11, 158, 14, 181, 182, 183, 184, 185, 186, 187, 188, 189, 179, 180] (by decide +kernel) (by decide +kernel)
set_option maxRecDepth 20000 in
theorem gX10_round_X2_begin : GoodIn wsX10_round (wsV RX10 90 RX2 yX2_begin wsX2_begin) := goodIn_app (goodIn_of _ (by decide +kernel)) ggX10_round_X2_begin
theorem dX10_round_0 : decode cX10_round 0 = .ok (.aload_n 0, 1) := by decide +kernel
theorem dX10_round_1 : decode cX10_round 1 = .ok (.getfield 10, 3) := by decide +kernel
theorem dX10_round_4 : decode cX10_round 4 = .ok (.invokevirtual 81, 3) := by decide +kernel
theorem dX10_round_7 : decode cX10_round 7 = .ok (.ifCond .ne 6, 3) := by decide +kernel
theorem dX10_round_10 : decode cX10_round 10 = .ok (.bipush (-103), 2) := by decide +kernel
theorem dX10_round_12 : decode cX10_round 12 = .ok (.ireturn, 1) := by decide +kernel
theorem dX10_round_13 : decode cX10_round 13 = .ok (.aload_n 0, 1) := by decide +kernel
theorem dX10_round_14 : decode cX10_round 14 = .ok (.getfield 19, 3) := by decide +kernel
theorem dX10_round_17 : decode cX10_round 17 = .ok (.aload_n 0, 1) := by decide +kernel
theorem dX10_round_18 : decode cX10_round 18 = .ok (.getfield 10, 3) := by decide +kernel
theorem dX10_round_21 : decode cX10_round 21 = .ok (.invokevirtual 85, 3) := by decide +kernel
theorem dX10_round_24 : decode cX10_round 24 = .ok (.aload_n 0, 1) := by decide +kernel
theorem dX10_round_25 : decode cX10_round 25 = .ok (.getfield 26, 3) := by decide +kernel
theorem dX10_round_28 : decode cX10_round 28 = .ok (.aload_n 0, 1) := by decide +kernel
theorem dX10_round_29 : decode cX10_round 29 = .ok (.getfield 10, 3) := by decide +kernel
theorem dX10_round_32 : decode cX10_round 32 = .ok (.aload_n 0, 1) := by decide +kernel
theorem dX10_round_33 : decode cX10_round 33 = .ok (.getfield 19, 3) := by decide +kernel
theorem dX10_round_36 : decode cX10_round 36 = .ok (.getfield 89, 3) := by decide +kernel
theorem dX10_round_39 : decode cX10_round 39 = .ok (.invokevirtual 90, 3) := by decide +kernel
theorem dX10_round_42 : decode cX10_round 42 = .ok (.aload_n 0, 1) := by decide +kernel
theorem dX10_round_43 : decode cX10_round 43 = .ok (.getfield 10, 3) := by decide +kernel
theorem dX10_round_46 : decode cX10_round 46 = .ok (.iconst 0, 1) := by decide +kernel
theorem dX10_round_47 : decode cX10_round 47 = .ok (.putfield 74, 3) := by decide +kernel
theorem dX10_round_50 : decode cX10_round 50 = .ok (.aload_n 0, 1) := by decide +kernel
theorem dX10_round_51 : decode cX10_round 51 = .ok (.iconst 0, 1) := by decide +kernel
theorem dX10_round_52 : decode cX10_round 52 = .ok (.putfield 59, 3) := by decide +kernel
theorem dX10_round_55 : decode cX10_round 55 = .ok (.aload_n 0, 1) := by decide +kernel
theorem dX10_round_56 : decode cX10_round 56 = .ok (.dup, 1) := by decide +kernel
theorem dX10_round_57 : decode cX10_round 57 = .ok (.getfield 63, 3) := by decide +kernel
theorem dX10_round_60 : decode cX10_round 60 = .ok (.iconst 1, 1) := by decide +kernel
theorem dX10_round_61 : decode cX10_round 61 = .ok (.iadd, 1) := by decide +kernel
theorem dX10_round_62 : decode cX10_round 62 = .ok (.putfield 63, 3) := by decide +kernel
theorem dX10_round_65 : decode cX10_round 65 = .ok (.aload_n 0, 1) := by decide +kernel
theorem dX10_round_66 : decode cX10_round 66 = .ok (.getfield 19, 3) := by decide +kernel
theorem dX10_round_69 : decode cX10_round 69 = .ok (.getfield 89, 3) := by decide +kernel
theorem dX10_round_72 : decode cX10_round 72 = .ok (.ireturn, 1) := by decide +kernel
set_option maxRecDepth 20000 in
theorem ggX10_about_X6_has : GoodIn wsX10_about wsX6_has := goodIn_r _ [6, 7, 170, 171, 172, 173, 174, 175, 176, 177] (by decide +kernel) (by decide +kernel)
set_option maxRecDepth 20000 in
theorem gX10_about_X6_has : GoodIn wsX10_about (wsV RX10 94 RX6 yX6_has wsX6_has) := goodIn_app (goodIn_of _ (by decide +kernel)) ggX10_about_X6_has
set_option maxRecDepth 20000 in
theorem ggX10_about_X10_toldOfHouse : GoodIn wsX10_about wsX10_toldOfHouse := goodIn_r _ [12, 1, 13, 14, 15, 16, 17, 18, 19, 20, 21, 11, 22, 23, 24, 25, 26, 27, 28, 29, 30, 31, 32, 33, 3, 4, 5, 6, 7, 34, 35, 36, 37, 38, 39, 40, 41, 42, 43, 44, 45, 46, 47, 48, 49, 50, 51, 52, 53, 54, 55, 56, 57, 58, 59, 60, 61, 62, 63, 64, 65, 66, 67, 68, 69, 70, 71, 72, 73, 74, 75, 76, 77, 78, 79, 80, 81, 82, 83, 84, 85, 86, 87, 88, 89, 90, 91, 92, 93, 94, 95, 96, 97, 98, 99, 100, 101, 102, 103, 104, 105, 106, 107, 108, 109, 110, 111, 112, 113, 114, 115, 116, 117, 118, 119, 120, 121, 122, 123, 124, 125, 126, 127, 128, 129, 130, 131, 132, 133, 134, 135, 136, 137, 138, 139, 140, 141, 142, 143, 144, 145, 146, 147, 148, 149, 150, 151, 152, 153, 154, 155, 156, 157, 158, 159, 160, 161, 162, 163, 164, 165, 166, 167, 168, 169, 170, 171, 172, 173, 174, 175, 176, 177, 178, 179, 180, 181, 182, 183, 184, 185, 186, 187, 188, 189] (by decide +kernel) (by decide +kernel)
set_option maxRecDepth 20000 in
theorem gX10_about_X10_toldOfHouse : GoodIn wsX10_about (wsV RX10 98 RX10 yX10_toldOfHouse wsX10_toldOfHouse) := goodIn_app (goodIn_of _ (by decide +kernel)) ggX10_about_X10_toldOfHouse
theorem dX10_about_0 : decode cX10_about 0 = .ok (.aload_n 0, 1) := by decide +kernel
theorem dX10_about_1 : decode cX10_about 1 = .ok (.getfield 19, 3) := by decide +kernel
theorem dX10_about_4 : decode cX10_about 4 = .ok (.iload_n 1, 1) := by decide +kernel
theorem dX10_about_5 : decode cX10_about 5 = .ok (.invokevirtual 94, 3) := by decide +kernel
theorem dX10_about_8 : decode cX10_about 8 = .ok (.ifCond .ne 6, 3) := by decide +kernel
theorem dX10_about_11 : decode cX10_about 11 = .ok (.bipush (-101), 2) := by decide +kernel
theorem dX10_about_13 : decode cX10_about 13 = .ok (.ireturn, 1) := by decide +kernel
theorem dX10_about_14 : decode cX10_about 14 = .ok (.iload_n 2, 1) := by decide +kernel
theorem dX10_about_15 : decode cX10_about 15 = .ok (.ifCond .lt 9, 3) := by decide +kernel
theorem dX10_about_18 : decode cX10_about 18 = .ok (.iload_n 2, 1) := by decide +kernel
theorem dX10_about_19 : decode cX10_about 19 = .ok (.bipush 8, 2) := by decide +kernel
theorem dX10_about_21 : decode cX10_about 21 = .ok (.if_icmp .le 6, 3) := by decide +kernel
theorem dX10_about_24 : decode cX10_about 24 = .ok (.bipush (-102), 2) := by decide +kernel
theorem dX10_about_26 : decode cX10_about 26 = .ok (.ireturn, 1) := by decide +kernel
theorem dX10_about_27 : decode cX10_about 27 = .ok (.aload_n 0, 1) := by decide +kernel
theorem dX10_about_28 : decode cX10_about 28 = .ok (.iload_n 1, 1) := by decide +kernel
theorem dX10_about_29 : decode cX10_about 29 = .ok (.iload_n 2, 1) := by decide +kernel
theorem dX10_about_30 : decode cX10_about 30 = .ok (.invokevirtual 98, 3) := by decide +kernel
theorem dX10_about_33 : decode cX10_about 33 = .ok (.ireturn, 1) := by decide +kernel
set_option maxRecDepth 20000 in
theorem ggX10_as_X6_has : GoodIn wsX10_as wsX6_has := goodIn_r _ [7, 8, 29, 30, 31, 32, 33, 34, 35, 36] (by decide +kernel) (by decide +kernel)
set_option maxRecDepth 20000 in
theorem gX10_as_X6_has : GoodIn wsX10_as (wsV RX10 94 RX6 yX6_has wsX6_has) := goodIn_app (goodIn_of _ (by decide +kernel)) ggX10_as_X6_has
set_option maxRecDepth 20000 in
theorem ggX10_as_X10_isOfKind : GoodIn wsX10_as wsX10_isOfKind := goodIn_r _ [12, 13, 14, 15, 16] (by decide +kernel) (by decide +kernel)
set_option maxRecDepth 20000 in
theorem gX10_as_X10_isOfKind : GoodIn wsX10_as (va_wsS RX10 106 yX10_isOfKind wsX10_isOfKind) := goodIn_app (goodIn_of _ (by decide +kernel)) ggX10_as_X10_isOfKind
theorem dX10_as_0 : decode cX10_as 0 = .ok (.aload_n 0, 1) := by decide +kernel
theorem dX10_as_1 : decode cX10_as 1 = .ok (.getfield 19, 3) := by decide +kernel
theorem dX10_as_4 : decode cX10_as 4 = .ok (.iload_n 1, 1) := by decide +kernel
theorem dX10_as_5 : decode cX10_as 5 = .ok (.invokevirtual 94, 3) := by decide +kernel
theorem dX10_as_8 : decode cX10_as 8 = .ok (.ifCond .ne 6, 3) := by decide +kernel
theorem dX10_as_11 : decode cX10_as 11 = .ok (.bipush (-101), 2) := by decide +kernel
theorem dX10_as_13 : decode cX10_as 13 = .ok (.ireturn, 1) := by decide +kernel
theorem dX10_as_14 : decode cX10_as 14 = .ok (.iload_n 2, 1) := by decide +kernel
theorem dX10_as_15 : decode cX10_as 15 = .ok (.ifCond .lt 8, 3) := by decide +kernel
theorem dX10_as_18 : decode cX10_as 18 = .ok (.iload_n 2, 1) := by decide +kernel
theorem dX10_as_19 : decode cX10_as 19 = .ok (.iconst 4, 1) := by decide +kernel
theorem dX10_as_20 : decode cX10_as 20 = .ok (.if_icmp .le 6, 3) := by decide +kernel
theorem dX10_as_23 : decode cX10_as 23 = .ok (.bipush (-102), 2) := by decide +kernel
theorem dX10_as_25 : decode cX10_as 25 = .ok (.ireturn, 1) := by decide +kernel
theorem dX10_as_26 : decode cX10_as 26 = .ok (.aload_n 0, 1) := by decide +kernel
theorem dX10_as_27 : decode cX10_as 27 = .ok (.getfield 19, 3) := by decide +kernel
theorem dX10_as_30 : decode cX10_as 30 = .ok (.getfield 102, 3) := by decide +kernel
theorem dX10_as_33 : decode cX10_as 33 = .ok (.iload_n 1, 1) := by decide +kernel
theorem dX10_as_34 : decode cX10_as 34 = .ok (.aaload, 1) := by decide +kernel
theorem dX10_as_35 : decode cX10_as 35 = .ok (.iload_n 2, 1) := by decide +kernel
theorem dX10_as_36 : decode cX10_as 36 = .ok (.invokestatic 106, 3) := by decide +kernel
theorem dX10_as_39 : decode cX10_as 39 = .ok (.ifCond .eq 7, 3) := by decide +kernel
theorem dX10_as_42 : decode cX10_as 42 = .ok (.iload_n 1, 1) := by decide +kernel
theorem dX10_as_43 : decode cX10_as 43 = .ok (.goto 4, 3) := by decide +kernel
theorem dX10_as_46 : decode cX10_as 46 = .ok (.iconst (-1), 1) := by decide +kernel
theorem dX10_as_47 : decode cX10_as 47 = .ok (.ireturn, 1) := by decide +kernel
set_option maxRecDepth 20000 in
theorem ggX10_letters_X6_has : GoodIn wsX10_letters wsX6_has := goodIn_r _ [8, 9, 31, 32, 33, 34, 35, 36, 37, 38] (by decide +kernel) (by decide +kernel)
set_option maxRecDepth 20000 in
theorem gX10_letters_X6_has : GoodIn wsX10_letters (wsV RX10 94 RX6 yX6_has wsX6_has) := goodIn_app (goodIn_of _ (by decide +kernel)) ggX10_letters_X6_has
theorem dX10_letters_0 : decode cX10_letters 0 = .ok (.aload_n 0, 1) := by decide +kernel
theorem dX10_letters_1 : decode cX10_letters 1 = .ok (.getfield 19, 3) := by decide +kernel
theorem dX10_letters_4 : decode cX10_letters 4 = .ok (.iload_n 1, 1) := by decide +kernel
theorem dX10_letters_5 : decode cX10_letters 5 = .ok (.invokevirtual 94, 3) := by decide +kernel
theorem dX10_letters_8 : decode cX10_letters 8 = .ok (.ifCond .ne 6, 3) := by decide +kernel
theorem dX10_letters_11 : decode cX10_letters 11 = .ok (.bipush (-101), 2) := by decide +kernel
theorem dX10_letters_13 : decode cX10_letters 13 = .ok (.ireturn, 1) := by decide +kernel
theorem dX10_letters_14 : decode cX10_letters 14 = .ok (.iload_n 2, 1) := by decide +kernel
theorem dX10_letters_15 : decode cX10_letters 15 = .ok (.ifCond .lt 9, 3) := by decide +kernel
theorem dX10_letters_18 : decode cX10_letters 18 = .ok (.iload_n 2, 1) := by decide +kernel
theorem dX10_letters_19 : decode cX10_letters 19 = .ok (.bipush 9, 2) := by decide +kernel
theorem dX10_letters_21 : decode cX10_letters 21 = .ok (.if_icmp .le 6, 3) := by decide +kernel
theorem dX10_letters_24 : decode cX10_letters 24 = .ok (.bipush (-102), 2) := by decide +kernel
theorem dX10_letters_26 : decode cX10_letters 26 = .ok (.ireturn, 1) := by decide +kernel
theorem dX10_letters_27 : decode cX10_letters 27 = .ok (.aload_n 0, 1) := by decide +kernel
theorem dX10_letters_28 : decode cX10_letters 28 = .ok (.getfield 26, 3) := by decide +kernel
theorem dX10_letters_31 : decode cX10_letters 31 = .ok (.getfield 110, 3) := by decide +kernel
theorem dX10_letters_34 : decode cX10_letters 34 = .ok (.iload_n 1, 1) := by decide +kernel
theorem dX10_letters_35 : decode cX10_letters 35 = .ok (.iaload, 1) := by decide +kernel
theorem dX10_letters_36 : decode cX10_letters 36 = .ok (.istore_n 3, 1) := by decide +kernel
theorem dX10_letters_37 : decode cX10_letters 37 = .ok (.aload_n 0, 1) := by decide +kernel
theorem dX10_letters_38 : decode cX10_letters 38 = .ok (.getfield 26, 3) := by decide +kernel
theorem dX10_letters_41 : decode cX10_letters 41 = .ok (.getfield 110, 3) := by decide +kernel
theorem dX10_letters_44 : decode cX10_letters 44 = .ok (.iload_n 1, 1) := by decide +kernel
theorem dX10_letters_45 : decode cX10_letters 45 = .ok (.iload_n 2, 1) := by decide +kernel
theorem dX10_letters_46 : decode cX10_letters 46 = .ok (.iastore, 1) := by decide +kernel
theorem dX10_letters_47 : decode cX10_letters 47 = .ok (.iload_n 3, 1) := by decide +kernel
theorem dX10_letters_48 : decode cX10_letters 48 = .ok (.ireturn, 1) := by decide +kernel
set_option maxRecDepth 20000 in
theorem ggX10_leave_X6_has : GoodIn wsX10_leave wsX6_has := goodIn_r _ [8, 9, 35, 36, 37, 38, 39, 40, 41, 42] (by decide +kernel) (by decide +kernel)
set_option maxRecDepth 20000 in
theorem gX10_leave_X6_has : GoodIn wsX10_leave (wsV RX10 94 RX6 yX6_has wsX6_has) := goodIn_app (goodIn_of _ (by decide +kernel)) ggX10_leave_X6_has
set_option maxRecDepth 20000 in
theorem ggX10_leave_X10_bitOf : GoodIn wsX10_leave wsX10_bitOf := goodIn_r _ [13] (by decide +kernel) (by decide +kernel)
set_option maxRecDepth 20000 in
theorem gX10_leave_X10_bitOf : GoodIn wsX10_leave (va_wsS RX10 116 yX10_bitOf wsX10_bitOf) := goodIn_app (goodIn_of _ (by decide +kernel)) ggX10_leave_X10_bitOf
theorem dX10_leave_0 : decode cX10_leave 0 = .ok (.aload_n 0, 1) := by decide +kernel
theorem dX10_leave_1 : decode cX10_leave 1 = .ok (.getfield 19, 3) := by decide +kernel
theorem dX10_leave_4 : decode cX10_leave 4 = .ok (.iload_n 1, 1) := by decide +kernel
theorem dX10_leave_5 : decode cX10_leave 5 = .ok (.invokevirtual 94, 3) := by decide +kernel
theorem dX10_leave_8 : decode cX10_leave 8 = .ok (.ifCond .ne 6, 3) := by decide +kernel
theorem dX10_leave_11 : decode cX10_leave 11 = .ok (.bipush (-101), 2) := by decide +kernel
theorem dX10_leave_13 : decode cX10_leave 13 = .ok (.ireturn, 1) := by decide +kernel
theorem dX10_leave_14 : decode cX10_leave 14 = .ok (.aload_n 0, 1) := by decide +kernel
theorem dX10_leave_15 : decode cX10_leave 15 = .ok (.getfield 26, 3) := by decide +kernel
theorem dX10_leave_18 : decode cX10_leave 18 = .ok (.getfield 113, 3) := by decide +kernel
theorem dX10_leave_21 : decode cX10_leave 21 = .ok (.iload_n 1, 1) := by decide +kernel
theorem dX10_leave_22 : decode cX10_leave 22 = .ok (.invokestatic 116, 3) := by decide +kernel
theorem dX10_leave_25 : decode cX10_leave 25 = .ok (.istore_n 3, 1) := by decide +kernel
theorem dX10_leave_26 : decode cX10_leave 26 = .ok (.aload_n 0, 1) := by decide +kernel
theorem dX10_leave_27 : decode cX10_leave 27 = .ok (.getfield 26, 3) := by decide +kernel
theorem dX10_leave_30 : decode cX10_leave 30 = .ok (.iload_n 2, 1) := by decide +kernel
theorem dX10_leave_31 : decode cX10_leave 31 = .ok (.ifCond .eq 17, 3) := by decide +kernel
theorem dX10_leave_34 : decode cX10_leave 34 = .ok (.aload_n 0, 1) := by decide +kernel
theorem dX10_leave_35 : decode cX10_leave 35 = .ok (.getfield 26, 3) := by decide +kernel
theorem dX10_leave_38 : decode cX10_leave 38 = .ok (.getfield 113, 3) := by decide +kernel
theorem dX10_leave_41 : decode cX10_leave 41 = .ok (.iconst 1, 1) := by decide +kernel
theorem dX10_leave_42 : decode cX10_leave 42 = .ok (.iload_n 1, 1) := by decide +kernel
theorem dX10_leave_43 : decode cX10_leave 43 = .ok (.ishl, 1) := by decide +kernel
theorem dX10_leave_44 : decode cX10_leave 44 = .ok (.ior, 1) := by decide +kernel
theorem dX10_leave_45 : decode cX10_leave 45 = .ok (.goto 16, 3) := by decide +kernel
theorem dX10_leave_48 : decode cX10_leave 48 = .ok (.aload_n 0, 1) := by decide +kernel
theorem dX10_leave_49 : decode cX10_leave 49 = .ok (.getfield 26, 3) := by decide +kernel
theorem dX10_leave_52 : decode cX10_leave 52 = .ok (.getfield 113, 3) := by decide +kernel
theorem dX10_leave_55 : decode cX10_leave 55 = .ok (.iconst 1, 1) := by decide +kernel
theorem dX10_leave_56 : decode cX10_leave 56 = .ok (.iload_n 1, 1) := by decide +kernel
theorem dX10_leave_57 : decode cX10_leave 57 = .ok (.ishl, 1) := by decide +kernel
theorem dX10_leave_58 : decode cX10_leave 58 = .ok (.iconst (-1), 1) := by decide +kernel
theorem dX10_leave_59 : decode cX10_leave 59 = .ok (.ixor, 1) := by decide +kernel
theorem dX10_leave_60 : decode cX10_leave 60 = .ok (.iand, 1) := by decide +kernel
theorem dX10_leave_61 : decode cX10_leave 61 = .ok (.putfield 113, 3) := by decide +kernel
theorem dX10_leave_64 : decode cX10_leave 64 = .ok (.iload_n 3, 1) := by decide +kernel
theorem dX10_leave_65 : decode cX10_leave 65 = .ok (.ireturn, 1) := by decide +kernel
set_option maxRecDepth 20000 in
theorem ggX10_swap_X6_has : GoodIn wsX10_swap wsX6_has := goodIn_r _ [8, 9, 41, 42, 43, 44, 45, 46, 47, 48] (by decide +kernel) (by decide +kernel)
set_option maxRecDepth 20000 in
theorem gX10_swap_X6_has : GoodIn wsX10_swap (wsV RX10 94 RX6 yX6_has wsX6_has) := goodIn_app (goodIn_of _ (by decide +kernel)) ggX10_swap_X6_has
set_option maxRecDepth 20000 in
theorem ggX10_swap_X2_placeOf : GoodIn wsX10_swap wsX2_placeOf := goodIn_r _ [14, 15, 32, 33, 34, 35, 36, 37, 38, 39, 40] (by decide +kernel) (by decide +kernel)
set_option maxRecDepth 20000 in
theorem gX10_swap_X2_placeOf : GoodIn wsX10_swap (wsV RX10 119 RX2 yX2_placeOf wsX2_placeOf) := goodIn_app (goodIn_of _ (by decide +kernel)) ggX10_swap_X2_placeOf
set_option maxRecDepth 20000 in
theorem ggX10_swap_X10_exchange : GoodIn wsX10_swap wsX10_exchange := goodIn_r _ [19] (by decide +kernel) (by decide +kernel)
set_option maxRecDepth 20000 in
theorem gX10_swap_X10_exchange : GoodIn wsX10_swap (va_wsS RX10 126 yX10_exchange wsX10_exchange) := goodIn_app (goodIn_of _ (by decide +kernel)) ggX10_swap_X10_exchange
theorem dX10_swap_0 : decode cX10_swap 0 = .ok (.aload_n 0, 1) := by decide +kernel
theorem dX10_swap_1 : decode cX10_swap 1 = .ok (.getfield 19, 3) := by decide +kernel
theorem dX10_swap_4 : decode cX10_swap 4 = .ok (.iload_n 1, 1) := by decide +kernel
theorem dX10_swap_5 : decode cX10_swap 5 = .ok (.invokevirtual 94, 3) := by decide +kernel
theorem dX10_swap_8 : decode cX10_swap 8 = .ok (.ifCond .eq 14, 3) := by decide +kernel
theorem dX10_swap_11 : decode cX10_swap 11 = .ok (.aload_n 0, 1) := by decide +kernel
theorem dX10_swap_12 : decode cX10_swap 12 = .ok (.getfield 19, 3) := by decide +kernel
theorem dX10_swap_15 : decode cX10_swap 15 = .ok (.iload_n 2, 1) := by decide +kernel
theorem dX10_swap_16 : decode cX10_swap 16 = .ok (.invokevirtual 94, 3) := by decide +kernel
theorem dX10_swap_19 : decode cX10_swap 19 = .ok (.ifCond .ne 6, 3) := by decide +kernel
theorem dX10_swap_22 : decode cX10_swap 22 = .ok (.bipush (-101), 2) := by decide +kernel
theorem dX10_swap_24 : decode cX10_swap 24 = .ok (.ireturn, 1) := by decide +kernel
theorem dX10_swap_25 : decode cX10_swap 25 = .ok (.aload_n 0, 1) := by decide +kernel
theorem dX10_swap_26 : decode cX10_swap 26 = .ok (.getfield 26, 3) := by decide +kernel
theorem dX10_swap_29 : decode cX10_swap 29 = .ok (.iload_n 1, 1) := by decide +kernel
theorem dX10_swap_30 : decode cX10_swap 30 = .ok (.invokevirtual 119, 3) := by decide +kernel
theorem dX10_swap_33 : decode cX10_swap 33 = .ok (.istore_n 3, 1) := by decide +kernel
theorem dX10_swap_34 : decode cX10_swap 34 = .ok (.aload_n 0, 1) := by decide +kernel
theorem dX10_swap_35 : decode cX10_swap 35 = .ok (.getfield 26, 3) := by decide +kernel
theorem dX10_swap_38 : decode cX10_swap 38 = .ok (.getfield 123, 3) := by decide +kernel
theorem dX10_swap_41 : decode cX10_swap 41 = .ok (.iload_n 3, 1) := by decide +kernel
theorem dX10_swap_42 : decode cX10_swap 42 = .ok (.aload_n 0, 1) := by decide +kernel
theorem dX10_swap_43 : decode cX10_swap 43 = .ok (.getfield 26, 3) := by decide +kernel
theorem dX10_swap_46 : decode cX10_swap 46 = .ok (.iload_n 2, 1) := by decide +kernel
theorem dX10_swap_47 : decode cX10_swap 47 = .ok (.invokevirtual 119, 3) := by decide +kernel
theorem dX10_swap_50 : decode cX10_swap 50 = .ok (.invokestatic 126, 3) := by decide +kernel
theorem dX10_swap_53 : decode cX10_swap 53 = .ok (.iload_n 3, 1) := by decide +kernel
theorem dX10_swap_54 : decode cX10_swap 54 = .ok (.ireturn, 1) := by decide +kernel
set_option maxRecDepth 20000 in
theorem ggX10_day_X10_hasNoRound : GoodIn wsX10_day wsX10_hasNoRound := goodIn_r _ [14, 6, 7, 131, 132, 133, 134, 135, 136, 137, 138, 139, 140, 141, 142, 152, 153, 154, 155, 156, 157, 158, 159] (by decide +kernel) (by decide +kernel)
set_option maxRecDepth 20000 in
theorem gX10_day_X10_hasNoRound : GoodIn wsX10_day (wsV RX10 130 RX10 yX10_hasNoRound wsX10_hasNoRound) := goodIn_app (goodIn_of _ (by decide +kernel)) ggX10_day_X10_hasNoRound
set_option maxRecDepth 20000 in
theorem ggX10_day_X10_walkAsItIs : GoodIn wsX10_day wsX10_walkAsItIs := goodIn_r _ [18, 1, 2, 8, 19, 20, 21, 22, 23, 24, 25, 26, 27, 28, 29, 30, 31, 32, 33, 34, 35, 36, 37, 38, 39, 40, 41, 42, 43, 44, 45, 46, 47, 48, 49, 50, 51, 52, 53, 54, 55, 56, 57, 58, 59, 60, 61, 62, 63, 64, 65, 66, 67, 68, 13, 69, 131, 132, 133, 134, 135, 136, 137, 138, 139, 140, 141, 142, 143, 144, 145, 146, 147, 148, 149, 150, 151, 160, 161, 162, 152, 153, 154, 155, 156, 157, 158, 159] (by decide +kernel) (by decide +kernel)
set_option maxRecDepth 20000 in
theorem gX10_day_X10_walkAsItIs : GoodIn wsX10_day (wsV RX10 133 RX10 yX10_walkAsItIs wsX10_walkAsItIs) := goodIn_app (goodIn_of _ (by decide +kernel)) ggX10_day_X10_walkAsItIs
set_option maxRecDepth 20000 in
theorem ggX10_day_X8_sourHouses : GoodIn wsX10_day wsX8_sourHouses := goodIn_r _ [73, 26, 27, 74, 75, 76, 24, 77, 28, 78, 79, 80, 81, 82, 83, 84, 46, 85, 86, 87, 88, 56, 89, 90, 91, 92, 160, 161, 162, 152, 153, 154, 155, 156, 157, 158, 159] (by decide +kernel) (by decide +kernel)
set_option maxRecDepth 20000 in
theorem gX10_day_X8_sourHouses : GoodIn wsX10_day (wsV RX10 136 RX8 yX8_sourHouses wsX8_sourHouses) := goodIn_app (goodIn_of _ (by decide +kernel)) ggX10_day_X8_sourHouses
set_option maxRecDepth 20000 in
theorem ggX10_day_X8_hearingHouses : GoodIn wsX10_day wsX8_hearingHouses := goodIn_r _ [96, 26, 27, 97, 98, 99, 24, 100, 78, 101, 102, 103, 104, 105, 46, 106, 107, 108, 109, 56, 110, 111, 112, 113, 114, 115, 116, 117, 28, 160, 161, 162, 152, 153, 154, 155, 156, 157, 158, 159] (by decide +kernel) (by decide +kernel)
set_option maxRecDepth 20000 in
theorem gX10_day_X8_hearingHouses : GoodIn wsX10_day (wsV RX10 139 RX8 yX8_hearingHouses wsX8_hearingHouses) := goodIn_app (goodIn_of _ (by decide +kernel)) ggX10_day_X8_hearingHouses
set_option maxRecDepth 20000 in
theorem ggX10_day_X3_lengthBehindDay : GoodIn wsX10_day wsX3_lengthBehindDay := goodIn_r _ [122] (by decide +kernel) (by decide +kernel)
set_option maxRecDepth 20000 in
theorem gX10_day_X3_lengthBehindDay_u151X0 : GoodIn wsX10_day (va_wsU RX10 151 RX0 "MilkRound$House" ⟨"MilkRound$House", "lengthBehindDay", "(I)I"⟩ yX3_lengthBehindDay wsX3_lengthBehindDay) := goodIn_app (goodIn_of _ (by decide +kernel)) ggX10_day_X3_lengthBehindDay
set_option maxRecDepth 20000 in
theorem ggX10_day_X1_lengthBehindDay : GoodIn wsX10_day wsX1_lengthBehindDay := goodIn_r _ [126] (by decide +kernel) (by decide +kernel)
set_option maxRecDepth 20000 in
theorem gX10_day_X1_lengthBehindDay_u151X1 : GoodIn wsX10_day (va_wsO RX10 151 RX1 "MilkRound$House" ⟨"MilkRound$House", "lengthBehindDay", "(I)I"⟩ yX1_lengthBehindDay wsX1_lengthBehindDay) := goodIn_app (goodIn_of _ (by decide +kernel)) ggX10_day_X1_lengthBehindDay
set_option maxRecDepth 20000 in
theorem gX10_day_X3_lengthBehindDay : GoodIn wsX10_day (wsV RX10 151 RX3 yX3_lengthBehindDay wsX3_lengthBehindDay) := goodIn_app (goodIn_of _ (by decide +kernel)) ggX10_day_X3_lengthBehindDay
set_option maxRecDepth 20000 in
theorem gX10_day_X3_lengthBehindDay_u151X5 : GoodIn wsX10_day (va_wsU RX10 151 RX5 "MilkRound$House" ⟨"MilkRound$House", "lengthBehindDay", "(I)I"⟩ yX3_lengthBehindDay wsX3_lengthBehindDay) := goodIn_app (goodIn_of _ (by decide +kernel)) ggX10_day_X3_lengthBehindDay
set_option maxRecDepth 20000 in
theorem gX10_day_X3_lengthBehindDay_u151X9 : GoodIn wsX10_day (va_wsU RX10 151 RX9 "MilkRound$House" ⟨"MilkRound$House", "lengthBehindDay", "(I)I"⟩ yX3_lengthBehindDay wsX3_lengthBehindDay) := goodIn_app (goodIn_of _ (by decide +kernel)) ggX10_day_X3_lengthBehindDay
theorem dX10_day_0 : decode cX10_day 0 = .ok (.aload_n 0, 1) := by decide +kernel
theorem dX10_day_1 : decode cX10_day 1 = .ok (.invokevirtual 130, 3) := by decide +kernel
theorem dX10_day_4 : decode cX10_day 4 = .ok (.ifCond .eq 6, 3) := by decide +kernel
theorem dX10_day_7 : decode cX10_day 7 = .ok (.bipush (-103), 2) := by decide +kernel
theorem dX10_day_9 : decode cX10_day 9 = .ok (.ireturn, 1) := by decide +kernel
theorem dX10_day_10 : decode cX10_day 10 = .ok (.aload_n 0, 1) := by decide +kernel
theorem dX10_day_11 : decode cX10_day 11 = .ok (.invokevirtual 133, 3) := by decide +kernel
theorem dX10_day_14 : decode cX10_day 14 = .ok (.aload_n 0, 1) := by decide +kernel
theorem dX10_day_15 : decode cX10_day 15 = .ok (.getfield 38, 3) := by decide +kernel
theorem dX10_day_18 : decode cX10_day 18 = .ok (.invokevirtual 136, 3) := by decide +kernel
theorem dX10_day_21 : decode cX10_day 21 = .ok (.istore_n 1, 1) := by decide +kernel
theorem dX10_day_22 : decode cX10_day 22 = .ok (.aload_n 0, 1) := by decide +kernel
theorem dX10_day_23 : decode cX10_day 23 = .ok (.getfield 38, 3) := by decide +kernel
theorem dX10_day_26 : decode cX10_day 26 = .ok (.invokevirtual 139, 3) := by decide +kernel
theorem dX10_day_29 : decode cX10_day 29 = .ok (.istore_n 2, 1) := by decide +kernel
theorem dX10_day_30 : decode cX10_day 30 = .ok (.aload_n 0, 1) := by decide +kernel
theorem dX10_day_31 : decode cX10_day 31 = .ok (.getfield 26, 3) := by decide +kernel
theorem dX10_day_34 : decode cX10_day 34 = .ok (.dup, 1) := by decide +kernel
theorem dX10_day_35 : decode cX10_day 35 = .ok (.getfield 142, 3) := by decide +kernel
theorem dX10_day_38 : decode cX10_day 38 = .ok (.iconst 1, 1) := by decide +kernel
theorem dX10_day_39 : decode cX10_day 39 = .ok (.iadd, 1) := by decide +kernel
theorem dX10_day_40 : decode cX10_day 40 = .ok (.putfield 142, 3) := by decide +kernel
theorem dX10_day_43 : decode cX10_day 43 = .ok (.aload_n 0, 1) := by decide +kernel
theorem dX10_day_44 : decode cX10_day 44 = .ok (.getfield 26, 3) := by decide +kernel
theorem dX10_day_47 : decode cX10_day 47 = .ok (.dup, 1) := by decide +kernel
theorem dX10_day_48 : decode cX10_day 48 = .ok (.getfield 145, 3) := by decide +kernel
theorem dX10_day_51 : decode cX10_day 51 = .ok (.iload_n 1, 1) := by decide +kernel
theorem dX10_day_52 : decode cX10_day 52 = .ok (.iadd, 1) := by decide +kernel
theorem dX10_day_53 : decode cX10_day 53 = .ok (.putfield 145, 3) := by decide +kernel
theorem dX10_day_56 : decode cX10_day 56 = .ok (.aload_n 0, 1) := by decide +kernel
theorem dX10_day_57 : decode cX10_day 57 = .ok (.getfield 26, 3) := by decide +kernel
theorem dX10_day_60 : decode cX10_day 60 = .ok (.dup, 1) := by decide +kernel
theorem dX10_day_61 : decode cX10_day 61 = .ok (.getfield 148, 3) := by decide +kernel
theorem dX10_day_64 : decode cX10_day 64 = .ok (.iload_n 2, 1) := by decide +kernel
theorem dX10_day_65 : decode cX10_day 65 = .ok (.iadd, 1) := by decide +kernel
theorem dX10_day_66 : decode cX10_day 66 = .ok (.putfield 148, 3) := by decide +kernel
theorem dX10_day_69 : decode cX10_day 69 = .ok (.iconst 0, 1) := by decide +kernel
theorem dX10_day_70 : decode cX10_day 70 = .ok (.istore_n 3, 1) := by decide +kernel
theorem dX10_day_71 : decode cX10_day 71 = .ok (.iload_n 3, 1) := by decide +kernel
theorem dX10_day_72 : decode cX10_day 72 = .ok (.aload_n 0, 1) := by decide +kernel
theorem dX10_day_73 : decode cX10_day 73 = .ok (.getfield 19, 3) := by decide +kernel
theorem dX10_day_76 : decode cX10_day 76 = .ok (.getfield 89, 3) := by decide +kernel
theorem dX10_day_79 : decode cX10_day 79 = .ok (.if_icmp .ge 39, 3) := by decide +kernel
theorem dX10_day_82 : decode cX10_day 82 = .ok (.aload_n 0, 1) := by decide +kernel
theorem dX10_day_83 : decode cX10_day 83 = .ok (.getfield 26, 3) := by decide +kernel
theorem dX10_day_86 : decode cX10_day 86 = .ok (.getfield 110, 3) := by decide +kernel
theorem dX10_day_89 : decode cX10_day 89 = .ok (.iload_n 3, 1) := by decide +kernel
theorem dX10_day_90 : decode cX10_day 90 = .ok (.aload_n 0, 1) := by decide +kernel
theorem dX10_day_91 : decode cX10_day 91 = .ok (.getfield 19, 3) := by decide +kernel
theorem dX10_day_94 : decode cX10_day 94 = .ok (.getfield 102, 3) := by decide +kernel
theorem dX10_day_97 : decode cX10_day 97 = .ok (.iload_n 3, 1) := by decide +kernel
theorem dX10_day_98 : decode cX10_day 98 = .ok (.aaload, 1) := by decide +kernel
theorem dX10_day_99 : decode cX10_day 99 = .ok (.aload_n 0, 1) := by decide +kernel
theorem dX10_day_100 : decode cX10_day 100 = .ok (.getfield 26, 3) := by decide +kernel
theorem dX10_day_103 : decode cX10_day 103 = .ok (.getfield 110, 3) := by decide +kernel
theorem dX10_day_106 : decode cX10_day 106 = .ok (.iload_n 3, 1) := by decide +kernel
theorem dX10_day_107 : decode cX10_day 107 = .ok (.iaload, 1) := by decide +kernel
theorem dX10_day_108 : decode cX10_day 108 = .ok (.invokevirtual 151, 3) := by decide +kernel
theorem dX10_day_111 : decode cX10_day 111 = .ok (.iastore, 1) := by decide +kernel
theorem dX10_day_112 : decode cX10_day 112 = .ok (.iinc 3 1, 3) := by decide +kernel
theorem dX10_day_115 : decode cX10_day 115 = .ok (.goto (-44), 3) := by decide +kernel
theorem dX10_day_118 : decode cX10_day 118 = .ok (.iload_n 1, 1) := by decide +kernel
theorem dX10_day_119 : decode cX10_day 119 = .ok (.iload_n 2, 1) := by decide +kernel
theorem dX10_day_120 : decode cX10_day 120 = .ok (.iadd, 1) := by decide +kernel
theorem dX10_day_121 : decode cX10_day 121 = .ok (.ireturn, 1) := by decide +kernel
set_option maxRecDepth 20000 in
theorem ggX10_best_X10_hasNoRound : GoodIn wsX10_best wsX10_hasNoRound := goodIn_r _ [9, 2, 3, 130, 131, 132, 133, 134, 135, 136, 137, 138, 139, 140, 141, 142, 143, 144, 145, 146, 147, 148, 149] (by decide +kernel) (by decide +kernel)
set_option maxRecDepth 20000 in
theorem gX10_best_X10_hasNoRound : GoodIn wsX10_best (wsV RX10 130 RX10 yX10_hasNoRound wsX10_hasNoRound) := goodIn_app (goodIn_of _ (by decide +kernel)) ggX10_best_X10_hasNoRound
set_option maxRecDepth 20000 in
theorem ggX10_best_X10_findBestOrder : GoodIn wsX10_best wsX10_findBestOrder := goodIn_r _ [13, 14, 15, 16, 17, 18, 4, 19, 20, 21, 22, 2, 3, 23, 24, 25, 26, 27, 28, 29, 30, 31, 32, 33, 34, 35, 36, 37, 38, 39, 40, 41, 42, 43, 44, 45, 46, 47, 48, 49, 50, 51, 52, 53, 54, 55, 56, 57, 58, 59, 60, 61, 62, 63, 64, 65, 66, 67, 68, 69, 70, 8, 71, 72, 73, 74, 75, 76, 77, 78, 79, 80, 81, 82, 83, 84, 85, 86, 87, 88, 89, 90, 91, 92, 93, 94, 95, 96, 97, 98, 99, 100, 101, 102, 103, 104, 105, 106, 107, 108, 109, 110, 111, 112, 113, 114, 115, 116, 117, 118, 119, 120, 121, 122, 123, 124, 125, 126, 127, 128, 129, 130, 131, 132, 133, 134, 135, 136, 137, 138, 139, 140, 141, 150, 151, 152, 153, 154, 155, 156, 157, 158, 142, 143, 144, 145, 146, 147, 148, 149, 159, 160, 161] (by decide +kernel) (by decide +kernel)
set_option maxRecDepth 20000 in
theorem gX10_best_X10_findBestOrder : GoodIn wsX10_best (wsV RX10 156 RX10 yX10_findBestOrder wsX10_findBestOrder) := goodIn_app (goodIn_of _ (by decide +kernel)) ggX10_best_X10_findBestOrder
theorem dX10_best_0 : decode cX10_best 0 = .ok (.bipush 15, 2) := by decide +kernel
theorem dX10_best_2 : decode cX10_best 2 = .ok (.istore_n 2, 1) := by decide +kernel
theorem dX10_best_3 : decode cX10_best 3 = .ok (.iload_n 1, 1) := by decide +kernel
theorem dX10_best_4 : decode cX10_best 4 = .ok (.ifCond .eq 17, 3) := by decide +kernel
theorem dX10_best_7 : decode cX10_best 7 = .ok (.iload_n 1, 1) := by decide +kernel
theorem dX10_best_8 : decode cX10_best 8 = .ok (.bipush 10, 2) := by decide +kernel
theorem dX10_best_10 : decode cX10_best 10 = .ok (.if_icmp .lt 8, 3) := by decide +kernel
theorem dX10_best_13 : decode cX10_best 13 = .ok (.iload_n 1, 1) := by decide +kernel
theorem dX10_best_14 : decode cX10_best 14 = .ok (.iload_n 2, 1) := by decide +kernel
theorem dX10_best_15 : decode cX10_best 15 = .ok (.if_icmp .le 6, 3) := by decide +kernel
theorem dX10_best_18 : decode cX10_best 18 = .ok (.bipush (-102), 2) := by decide +kernel
theorem dX10_best_20 : decode cX10_best 20 = .ok (.ireturn, 1) := by decide +kernel
theorem dX10_best_21 : decode cX10_best 21 = .ok (.aload_n 0, 1) := by decide +kernel
theorem dX10_best_22 : decode cX10_best 22 = .ok (.invokevirtual 130, 3) := by decide +kernel
theorem dX10_best_25 : decode cX10_best 25 = .ok (.ifCond .ne 12, 3) := by decide +kernel
theorem dX10_best_28 : decode cX10_best 28 = .ok (.aload_n 0, 1) := by decide +kernel
theorem dX10_best_29 : decode cX10_best 29 = .ok (.getfield 67, 3) := by decide +kernel
theorem dX10_best_32 : decode cX10_best 32 = .ok (.bipush 30, 2) := by decide +kernel
theorem dX10_best_34 : decode cX10_best 34 = .ok (.if_icmp .lt 6, 3) := by decide +kernel
theorem dX10_best_37 : decode cX10_best 37 = .ok (.bipush (-103), 2) := by decide +kernel
theorem dX10_best_39 : decode cX10_best 39 = .ok (.ireturn, 1) := by decide +kernel
theorem dX10_best_40 : decode cX10_best 40 = .ok (.aload_n 0, 1) := by decide +kernel
theorem dX10_best_41 : decode cX10_best 41 = .ok (.dup, 1) := by decide +kernel
theorem dX10_best_42 : decode cX10_best 42 = .ok (.getfield 67, 3) := by decide +kernel
theorem dX10_best_45 : decode cX10_best 45 = .ok (.iconst 1, 1) := by decide +kernel
theorem dX10_best_46 : decode cX10_best 46 = .ok (.iadd, 1) := by decide +kernel
theorem dX10_best_47 : decode cX10_best 47 = .ok (.putfield 67, 3) := by decide +kernel
theorem dX10_best_50 : decode cX10_best 50 = .ok (.aload_n 0, 1) := by decide +kernel
theorem dX10_best_51 : decode cX10_best 51 = .ok (.invokevirtual 156, 3) := by decide +kernel
theorem dX10_best_54 : decode cX10_best 54 = .ok (.istore_n 3, 1) := by decide +kernel
theorem dX10_best_55 : decode cX10_best 55 = .ok (.iload_n 1, 1) := by decide +kernel
theorem dX10_best_56 : decode cX10_best 56 = .ok (.ifCond .ne 5, 3) := by decide +kernel
theorem dX10_best_59 : decode cX10_best 59 = .ok (.iload_n 3, 1) := by decide +kernel
theorem dX10_best_60 : decode cX10_best 60 = .ok (.ireturn, 1) := by decide +kernel
theorem dX10_best_61 : decode cX10_best 61 = .ok (.iload_n 1, 1) := by decide +kernel
theorem dX10_best_62 : decode cX10_best 62 = .ok (.bipush 10, 2) := by decide +kernel
theorem dX10_best_64 : decode cX10_best 64 = .ok (.isub, 1) := by decide +kernel
theorem dX10_best_65 : decode cX10_best 65 = .ok (.istore 4, 2) := by decide +kernel
theorem dX10_best_67 : decode cX10_best 67 = .ok (.iload 4, 2) := by decide +kernel
theorem dX10_best_69 : decode cX10_best 69 = .ok (.aload_n 0, 1) := by decide +kernel
theorem dX10_best_70 : decode cX10_best 70 = .ok (.getfield 19, 3) := by decide +kernel
theorem dX10_best_73 : decode cX10_best 73 = .ok (.getfield 89, 3) := by decide +kernel
theorem dX10_best_76 : decode cX10_best 76 = .ok (.if_icmp .ge 13, 3) := by decide +kernel
theorem dX10_best_79 : decode cX10_best 79 = .ok (.aload_n 0, 1) := by decide +kernel
theorem dX10_best_80 : decode cX10_best 80 = .ok (.getfield 49, 3) := by decide +kernel
theorem dX10_best_83 : decode cX10_best 83 = .ok (.iload 4, 2) := by decide +kernel
theorem dX10_best_85 : decode cX10_best 85 = .ok (.iaload, 1) := by decide +kernel
theorem dX10_best_86 : decode cX10_best 86 = .ok (.goto 4, 3) := by decide +kernel
theorem dX10_best_89 : decode cX10_best 89 = .ok (.iconst (-1), 1) := by decide +kernel
theorem dX10_best_90 : decode cX10_best 90 = .ok (.ireturn, 1) := by decide +kernel
set_option maxRecDepth 20000 in
theorem ggX10_known_X6_has : GoodIn wsX10_known wsX6_has := goodIn_r _ [8, 9, 39, 40, 41, 42, 43, 44, 45, 46] (by decide +kernel) (by decide +kernel)
set_option maxRecDepth 20000 in
theorem gX10_known_X6_has : GoodIn wsX10_known (wsV RX10 94 RX6 yX6_has wsX6_has) := goodIn_app (goodIn_of _ (by decide +kernel)) ggX10_known_X6_has
set_option maxRecDepth 20000 in
theorem ggX10_known_X2_learn : GoodIn wsX10_known wsX2_learn := goodIn_r _ [14, 15, 16, 17, 30, 31, 32, 33, 34, 35, 36, 37, 38] (by decide +kernel) (by decide +kernel)
set_option maxRecDepth 20000 in
theorem gX10_known_X2_learn : GoodIn wsX10_known (wsV RX10 159 RX2 yX2_learn wsX2_learn) := goodIn_app (goodIn_of _ (by decide +kernel)) ggX10_known_X2_learn
theorem dX10_known_0 : decode cX10_known 0 = .ok (.aload_n 0, 1) := by decide +kernel
theorem dX10_known_1 : decode cX10_known 1 = .ok (.getfield 19, 3) := by decide +kernel
theorem dX10_known_4 : decode cX10_known 4 = .ok (.iload_n 1, 1) := by decide +kernel
theorem dX10_known_5 : decode cX10_known 5 = .ok (.invokevirtual 94, 3) := by decide +kernel
theorem dX10_known_8 : decode cX10_known 8 = .ok (.ifCond .ne 6, 3) := by decide +kernel
theorem dX10_known_11 : decode cX10_known 11 = .ok (.bipush (-101), 2) := by decide +kernel
theorem dX10_known_13 : decode cX10_known 13 = .ok (.ireturn, 1) := by decide +kernel
theorem dX10_known_14 : decode cX10_known 14 = .ok (.iload_n 2, 1) := by decide +kernel
theorem dX10_known_15 : decode cX10_known 15 = .ok (.iconst 1, 1) := by decide +kernel
theorem dX10_known_16 : decode cX10_known 16 = .ok (.if_icmp .lt 10, 3) := by decide +kernel
theorem dX10_known_19 : decode cX10_known 19 = .ok (.iload_n 2, 1) := by decide +kernel
theorem dX10_known_20 : decode cX10_known 20 = .ok (.sipush 150, 3) := by decide +kernel
theorem dX10_known_23 : decode cX10_known 23 = .ok (.if_icmp .le 6, 3) := by decide +kernel
theorem dX10_known_26 : decode cX10_known 26 = .ok (.bipush (-102), 2) := by decide +kernel
theorem dX10_known_28 : decode cX10_known 28 = .ok (.ireturn, 1) := by decide +kernel
theorem dX10_known_29 : decode cX10_known 29 = .ok (.aload_n 0, 1) := by decide +kernel
theorem dX10_known_30 : decode cX10_known 30 = .ok (.getfield 26, 3) := by decide +kernel
theorem dX10_known_33 : decode cX10_known 33 = .ok (.iload_n 1, 1) := by decide +kernel
theorem dX10_known_34 : decode cX10_known 34 = .ok (.iload_n 2, 1) := by decide +kernel
theorem dX10_known_35 : decode cX10_known 35 = .ok (.invokevirtual 159, 3) := by decide +kernel
theorem dX10_known_38 : decode cX10_known 38 = .ok (.ifCond .eq 13, 3) := by decide +kernel
theorem dX10_known_41 : decode cX10_known 41 = .ok (.aload_n 0, 1) := by decide +kernel
theorem dX10_known_42 : decode cX10_known 42 = .ok (.getfield 26, 3) := by decide +kernel
theorem dX10_known_45 : decode cX10_known 45 = .ok (.getfield 163, 3) := by decide +kernel
theorem dX10_known_48 : decode cX10_known 48 = .ok (.goto 5, 3) := by decide +kernel
theorem dX10_known_51 : decode cX10_known 51 = .ok (.bipush (-104), 2) := by decide +kernel
theorem dX10_known_53 : decode cX10_known 53 = .ok (.ireturn, 1) := by decide +kernel
theorem dX10_forget_0 : decode cX10_forget 0 = .ok (.aload_n 0, 1) := by decide +kernel
theorem dX10_forget_1 : decode cX10_forget 1 = .ok (.getfield 26, 3) := by decide +kernel
theorem dX10_forget_4 : decode cX10_forget 4 = .ok (.getfield 163, 3) := by decide +kernel
theorem dX10_forget_7 : decode cX10_forget 7 = .ok (.istore_n 1, 1) := by decide +kernel
theorem dX10_forget_8 : decode cX10_forget 8 = .ok (.aload_n 0, 1) := by decide +kernel
theorem dX10_forget_9 : decode cX10_forget 9 = .ok (.getfield 26, 3) := by decide +kernel
theorem dX10_forget_12 : decode cX10_forget 12 = .ok (.iconst 0, 1) := by decide +kernel
theorem dX10_forget_13 : decode cX10_forget 13 = .ok (.putfield 163, 3) := by decide +kernel
theorem dX10_forget_16 : decode cX10_forget 16 = .ok (.iload_n 1, 1) := by decide +kernel
theorem dX10_forget_17 : decode cX10_forget 17 = .ok (.ireturn, 1) := by decide +kernel
set_option maxRecDepth 20000 in
theorem ggX10_sets_X10_hasNoRound : GoodIn wsX10_sets wsX10_hasNoRound := goodIn_r _ [5, 6, 7, 78, 79, 80, 81, 82, 83, 84, 85, 86, 87, 88, 89, 90, 91, 92, 93, 94, 95, 96, 97] (by decide +kernel) (by decide +kernel)
set_option maxRecDepth 20000 in
theorem gX10_sets_X10_hasNoRound : GoodIn wsX10_sets (wsV RX10 130 RX10 yX10_hasNoRound wsX10_hasNoRound) := goodIn_app (goodIn_of _ (by decide +kernel)) ggX10_sets_X10_hasNoRound
set_option maxRecDepth 20000 in
theorem ggX10_sets_X10_howManySets : GoodIn wsX10_sets wsX10_howManySets := goodIn_r _ [11, 6, 7, 12, 13, 14, 4, 15, 16, 17, 18, 19, 20, 21, 22, 23, 24, 25, 26, 27, 28, 29, 30, 31, 32, 33, 34, 35, 36, 37, 38, 39, 40, 41, 42, 43, 44, 45, 46, 47, 48, 49, 50, 51, 52, 53, 54, 55, 56, 57, 58, 59, 60, 61, 62, 63, 64, 65, 66, 67, 68, 69, 70, 71, 72, 73, 78, 79, 80, 81, 82, 83, 84, 85, 86, 87, 88, 89, 90, 91, 92, 93, 94, 95, 96, 97, 98, 99, 100, 101, 102, 103, 104, 105, 106, 107, 108, 109] (by decide +kernel) (by decide +kernel)
set_option maxRecDepth 20000 in
theorem gX10_sets_X10_howManySets : GoodIn wsX10_sets (wsV RX10 166 RX10 yX10_howManySets wsX10_howManySets) := goodIn_app (goodIn_of _ (by decide +kernel)) ggX10_sets_X10_howManySets
set_option maxRecDepth 20000 in
theorem ggX10_sets_X10_leastSet : GoodIn wsX10_sets wsX10_leastSet := goodIn_r _ [77, 6, 7, 12, 13, 14, 4, 15, 16, 17, 18, 19, 20, 21, 22, 23, 24, 25, 26, 27, 28, 29, 30, 31, 32, 33, 34, 35, 36, 37, 38, 39, 40, 41, 42, 43, 44, 45, 46, 47, 48, 49, 50, 51, 52, 53, 54, 55, 56, 57, 58, 59, 60, 61, 62, 63, 64, 65, 66, 67, 68, 69, 70, 71, 72, 73, 78, 79, 80, 81, 82, 83, 84, 85, 86, 87, 88, 89, 90, 91, 92, 93, 94, 95, 96, 97, 98, 99, 100, 101, 102, 103, 104, 105, 106, 107, 108, 109] (by decide +kernel) (by decide +kernel)
set_option maxRecDepth 20000 in
theorem gX10_sets_X10_leastSet : GoodIn wsX10_sets (wsV RX10 169 RX10 yX10_leastSet wsX10_leastSet) := goodIn_app (goodIn_of _ (by decide +kernel)) ggX10_sets_X10_leastSet
theorem dX10_sets_0 : decode cX10_sets 0 = .ok (.iload_n 1, 1) := by decide +kernel
theorem dX10_sets_1 : decode cX10_sets 1 = .ok (.ifCond .lt 8, 3) := by decide +kernel
theorem dX10_sets_4 : decode cX10_sets 4 = .ok (.iload_n 1, 1) := by decide +kernel
theorem dX10_sets_5 : decode cX10_sets 5 = .ok (.iconst 1, 1) := by decide +kernel
theorem dX10_sets_6 : decode cX10_sets 6 = .ok (.if_icmp .le 6, 3) := by decide +kernel
theorem dX10_sets_9 : decode cX10_sets 9 = .ok (.bipush (-102), 2) := by decide +kernel
theorem dX10_sets_11 : decode cX10_sets 11 = .ok (.ireturn, 1) := by decide +kernel
theorem dX10_sets_12 : decode cX10_sets 12 = .ok (.aload_n 0, 1) := by decide +kernel
theorem dX10_sets_13 : decode cX10_sets 13 = .ok (.invokevirtual 130, 3) := by decide +kernel
theorem dX10_sets_16 : decode cX10_sets 16 = .ok (.ifCond .eq 6, 3) := by decide +kernel
theorem dX10_sets_19 : decode cX10_sets 19 = .ok (.bipush (-103), 2) := by decide +kernel
theorem dX10_sets_21 : decode cX10_sets 21 = .ok (.ireturn, 1) := by decide +kernel
theorem dX10_sets_22 : decode cX10_sets 22 = .ok (.iload_n 1, 1) := by decide +kernel
theorem dX10_sets_23 : decode cX10_sets 23 = .ok (.ifCond .ne 10, 3) := by decide +kernel
theorem dX10_sets_26 : decode cX10_sets 26 = .ok (.aload_n 0, 1) := by decide +kernel
theorem dX10_sets_27 : decode cX10_sets 27 = .ok (.invokevirtual 166, 3) := by decide +kernel
theorem dX10_sets_30 : decode cX10_sets 30 = .ok (.goto 7, 3) := by decide +kernel
theorem dX10_sets_33 : decode cX10_sets 33 = .ok (.aload_n 0, 1) := by decide +kernel
theorem dX10_sets_34 : decode cX10_sets 34 = .ok (.invokevirtual 169, 3) := by decide +kernel
theorem dX10_sets_37 : decode cX10_sets 37 = .ok (.ireturn, 1) := by decide +kernel
set_option maxRecDepth 20000 in
theorem ggX10_ask_X10_hasNoRound : GoodIn wsX10_ask wsX10_hasNoRound := goodIn_r _ [5, 6, 7, 94, 95, 96, 97, 98, 99, 100, 101, 102, 103, 104, 105, 106, 107, 108, 109, 110, 111, 112, 113] (by decide +kernel) (by decide +kernel)
set_option maxRecDepth 20000 in
theorem gX10_ask_X10_hasNoRound : GoodIn wsX10_ask (wsV RX10 130 RX10 yX10_hasNoRound wsX10_hasNoRound) := goodIn_app (goodIn_of _ (by decide +kernel)) ggX10_ask_X10_hasNoRound
set_option maxRecDepth 20000 in
theorem ggX10_ask_X10_houseToAsk : GoodIn wsX10_ask wsX10_houseToAsk := goodIn_r _ [11, 12, 6, 7, 13, 14, 15, 16, 17, 18, 19, 20, 21, 22, 23, 24, 4, 25, 26, 27, 28, 29, 30, 31, 32, 33, 34, 35, 36, 37, 38, 39, 40, 41, 42, 43, 44, 45, 46, 47, 48, 49, 50, 51, 52, 53, 54, 55, 56, 57, 58, 59, 60, 61, 62, 63, 64, 65, 66, 67, 68, 69, 70, 71, 72, 73, 74, 75, 76, 77, 78, 79, 80, 81, 82, 83, 84, 85, 86, 87, 88, 89, 90, 91, 92, 93, 94, 95, 96, 97, 98, 99, 100, 101, 102, 103, 104, 105, 106, 107, 108, 109, 110, 111, 112, 113, 114, 115, 116, 117, 118, 119, 120, 121, 122, 123, 124, 125, 126, 127] (by decide +kernel) (by decide +kernel)
set_option maxRecDepth 20000 in
theorem gX10_ask_X10_houseToAsk : GoodIn wsX10_ask (wsV RX10 172 RX10 yX10_houseToAsk wsX10_houseToAsk) := goodIn_app (goodIn_of _ (by decide +kernel)) ggX10_ask_X10_houseToAsk
theorem dX10_ask_0 : decode cX10_ask 0 = .ok (.aload_n 0, 1) := by decide +kernel
theorem dX10_ask_1 : decode cX10_ask 1 = .ok (.invokevirtual 130, 3) := by decide +kernel
theorem dX10_ask_4 : decode cX10_ask 4 = .ok (.ifCond .eq 8, 3) := by decide +kernel
theorem dX10_ask_7 : decode cX10_ask 7 = .ok (.bipush (-103), 2) := by decide +kernel
theorem dX10_ask_9 : decode cX10_ask 9 = .ok (.goto 7, 3) := by decide +kernel
theorem dX10_ask_12 : decode cX10_ask 12 = .ok (.aload_n 0, 1) := by decide +kernel
theorem dX10_ask_13 : decode cX10_ask 13 = .ok (.invokevirtual 172, 3) := by decide +kernel
theorem dX10_ask_16 : decode cX10_ask 16 = .ok (.ireturn, 1) := by decide +kernel
set_option maxRecDepth 20000 in
theorem ggX10_weeks_X10_hasNoRound : GoodIn wsX10_weeks wsX10_hasNoRound := goodIn_r _ [10, 11, 12, 119, 120, 121, 122, 123, 124, 125, 126, 127, 128, 129, 130, 140, 141, 142, 143, 144, 145, 146, 147] (by decide +kernel) (by decide +kernel)
set_option maxRecDepth 20000 in
theorem gX10_weeks_X10_hasNoRound : GoodIn wsX10_weeks (wsV RX10 130 RX10 yX10_hasNoRound wsX10_hasNoRound) := goodIn_app (goodIn_of _ (by decide +kernel)) ggX10_weeks_X10_hasNoRound
set_option maxRecDepth 20000 in
theorem ggX10_weeks_X10_drawTrialLengths : GoodIn wsX10_weeks wsX10_drawTrialLengths := goodIn_r _ [16, 11, 12, 17, 18, 19, 2, 20, 21, 119, 120, 121, 122, 123, 124, 125, 126, 127, 128, 129, 130, 140, 141, 142, 143, 144, 145, 146, 147] (by decide +kernel) (by decide +kernel)
set_option maxRecDepth 20000 in
theorem gX10_weeks_X10_drawTrialLengths : GoodIn wsX10_weeks (wsV RX10 175 RX10 yX10_drawTrialLengths wsX10_drawTrialLengths) := goodIn_app (goodIn_of _ (by decide +kernel)) ggX10_weeks_X10_drawTrialLengths
set_option maxRecDepth 20000 in
theorem ggX10_weeks_X8_go : GoodIn wsX10_weeks wsX8_go := goodIn_r _ [26, 27, 28, 29, 30, 31, 32, 33, 34, 35, 36, 37, 38, 39, 40, 41, 42, 43, 44, 45, 46, 47, 48, 49, 50, 51, 52, 53, 54, 55, 56, 57, 58, 59, 60, 61, 62, 63, 64, 65, 66, 67, 68, 69, 9, 70, 148, 149, 150, 140, 141, 142, 143, 144, 145, 146, 147] (by decide +kernel) (by decide +kernel)
set_option maxRecDepth 20000 in
theorem gX10_weeks_X8_go : GoodIn wsX10_weeks (wsV RX10 178 RX8 yX8_go wsX8_go) := goodIn_app (goodIn_of _ (by decide +kernel)) ggX10_weeks_X8_go
set_option maxRecDepth 20000 in
theorem ggX10_weeks_X8_sourHouses : GoodIn wsX10_weeks wsX8_sourHouses := goodIn_r _ [74, 27, 28, 75, 76, 77, 25, 78, 29, 79, 80, 81, 82, 83, 84, 85, 47, 86, 87, 88, 89, 57, 90, 91, 92, 93, 148, 149, 150, 140, 141, 142, 143, 144, 145, 146, 147] (by decide +kernel) (by decide +kernel)
set_option maxRecDepth 20000 in
theorem gX10_weeks_X8_sourHouses : GoodIn wsX10_weeks (wsV RX10 136 RX8 yX8_sourHouses wsX8_sourHouses) := goodIn_app (goodIn_of _ (by decide +kernel)) ggX10_weeks_X8_sourHouses
set_option maxRecDepth 20000 in
theorem ggX10_weeks_X8_hearingHouses : GoodIn wsX10_weeks wsX8_hearingHouses := goodIn_r _ [97, 27, 28, 98, 99, 100, 25, 101, 79, 102, 103, 104, 105, 106, 47, 107, 108, 109, 110, 57, 111, 112, 113, 114, 115, 116, 117, 118, 29, 148, 149, 150, 140, 141, 142, 143, 144, 145, 146, 147] (by decide +kernel) (by decide +kernel)
set_option maxRecDepth 20000 in
theorem gX10_weeks_X8_hearingHouses : GoodIn wsX10_weeks (wsV RX10 139 RX8 yX8_hearingHouses wsX8_hearingHouses) := goodIn_app (goodIn_of _ (by decide +kernel)) ggX10_weeks_X8_hearingHouses
theorem dX10_weeks_0 : decode cX10_weeks 0 = .ok (.iload_n 1, 1) := by decide +kernel
theorem dX10_weeks_1 : decode cX10_weeks 1 = .ok (.iconst 1, 1) := by decide +kernel
theorem dX10_weeks_2 : decode cX10_weeks 2 = .ok (.if_icmp .lt 22, 3) := by decide +kernel
theorem dX10_weeks_5 : decode cX10_weeks 5 = .ok (.iload_n 1, 1) := by decide +kernel
theorem dX10_weeks_6 : decode cX10_weeks 6 = .ok (.bipush 60, 2) := by decide +kernel
theorem dX10_weeks_8 : decode cX10_weeks 8 = .ok (.if_icmp .gt 16, 3) := by decide +kernel
theorem dX10_weeks_11 : decode cX10_weeks 11 = .ok (.iload_n 2, 1) := by decide +kernel
theorem dX10_weeks_12 : decode cX10_weeks 12 = .ok (.ifCond .lt 12, 3) := by decide +kernel
theorem dX10_weeks_15 : decode cX10_weeks 15 = .ok (.iload_n 3, 1) := by decide +kernel
theorem dX10_weeks_16 : decode cX10_weeks 16 = .ok (.ifCond .lt 8, 3) := by decide +kernel
theorem dX10_weeks_19 : decode cX10_weeks 19 = .ok (.iload_n 3, 1) := by decide +kernel
theorem dX10_weeks_20 : decode cX10_weeks 20 = .ok (.iconst 2, 1) := by decide +kernel
theorem dX10_weeks_21 : decode cX10_weeks 21 = .ok (.if_icmp .le 6, 3) := by decide +kernel
theorem dX10_weeks_24 : decode cX10_weeks 24 = .ok (.bipush (-102), 2) := by decide +kernel
theorem dX10_weeks_26 : decode cX10_weeks 26 = .ok (.ireturn, 1) := by decide +kernel
theorem dX10_weeks_27 : decode cX10_weeks 27 = .ok (.aload_n 0, 1) := by decide +kernel
theorem dX10_weeks_28 : decode cX10_weeks 28 = .ok (.invokevirtual 130, 3) := by decide +kernel
theorem dX10_weeks_31 : decode cX10_weeks 31 = .ok (.ifCond .eq 6, 3) := by decide +kernel
theorem dX10_weeks_34 : decode cX10_weeks 34 = .ok (.bipush (-103), 2) := by decide +kernel
theorem dX10_weeks_36 : decode cX10_weeks 36 = .ok (.ireturn, 1) := by decide +kernel
theorem dX10_weeks_37 : decode cX10_weeks 37 = .ok (.iload_n 2, 1) := by decide +kernel
theorem dX10_weeks_38 : decode cX10_weeks 38 = .ok (.istore 4, 2) := by decide +kernel
theorem dX10_weeks_40 : decode cX10_weeks 40 = .ok (.iconst 0, 1) := by decide +kernel
theorem dX10_weeks_41 : decode cX10_weeks 41 = .ok (.istore 5, 2) := by decide +kernel
theorem dX10_weeks_43 : decode cX10_weeks 43 = .ok (.iconst 0, 1) := by decide +kernel
theorem dX10_weeks_44 : decode cX10_weeks 44 = .ok (.istore 6, 2) := by decide +kernel
theorem dX10_weeks_46 : decode cX10_weeks 46 = .ok (.iconst 0, 1) := by decide +kernel
theorem dX10_weeks_47 : decode cX10_weeks 47 = .ok (.istore 7, 2) := by decide +kernel
theorem dX10_weeks_49 : decode cX10_weeks 49 = .ok (.iload 7, 2) := by decide +kernel
theorem dX10_weeks_51 : decode cX10_weeks 51 = .ok (.iload_n 1, 1) := by decide +kernel
theorem dX10_weeks_52 : decode cX10_weeks 52 = .ok (.if_icmp .ge 66, 3) := by decide +kernel
theorem dX10_weeks_55 : decode cX10_weeks 55 = .ok (.aload_n 0, 1) := by decide +kernel
theorem dX10_weeks_56 : decode cX10_weeks 56 = .ok (.iload 4, 2) := by decide +kernel
theorem dX10_weeks_58 : decode cX10_weeks 58 = .ok (.invokevirtual 175, 3) := by decide +kernel
theorem dX10_weeks_61 : decode cX10_weeks 61 = .ok (.istore 4, 2) := by decide +kernel
theorem dX10_weeks_63 : decode cX10_weeks 63 = .ok (.aload_n 0, 1) := by decide +kernel
theorem dX10_weeks_64 : decode cX10_weeks 64 = .ok (.getfield 38, 3) := by decide +kernel
theorem dX10_weeks_67 : decode cX10_weeks 67 = .ok (.aload_n 0, 1) := by decide +kernel
theorem dX10_weeks_68 : decode cX10_weeks 68 = .ok (.getfield 42, 3) := by decide +kernel
theorem dX10_weeks_71 : decode cX10_weeks 71 = .ok (.aload_n 0, 1) := by decide +kernel
theorem dX10_weeks_72 : decode cX10_weeks 72 = .ok (.getfield 26, 3) := by decide +kernel
theorem dX10_weeks_75 : decode cX10_weeks 75 = .ok (.getfield 123, 3) := by decide +kernel
theorem dX10_weeks_78 : decode cX10_weeks 78 = .ok (.aload_n 0, 1) := by decide +kernel
theorem dX10_weeks_79 : decode cX10_weeks 79 = .ok (.getfield 26, 3) := by decide +kernel
theorem dX10_weeks_82 : decode cX10_weeks 82 = .ok (.getfield 113, 3) := by decide +kernel
theorem dX10_weeks_85 : decode cX10_weeks 85 = .ok (.invokevirtual 178, 3) := by decide +kernel
theorem dX10_weeks_88 : decode cX10_weeks 88 = .ok (.iload 5, 2) := by decide +kernel
theorem dX10_weeks_90 : decode cX10_weeks 90 = .ok (.aload_n 0, 1) := by decide +kernel
theorem dX10_weeks_91 : decode cX10_weeks 91 = .ok (.getfield 38, 3) := by decide +kernel
theorem dX10_weeks_94 : decode cX10_weeks 94 = .ok (.invokevirtual 136, 3) := by decide +kernel
theorem dX10_weeks_97 : decode cX10_weeks 97 = .ok (.iadd, 1) := by decide +kernel
theorem dX10_weeks_98 : decode cX10_weeks 98 = .ok (.istore 5, 2) := by decide +kernel
theorem dX10_weeks_100 : decode cX10_weeks 100 = .ok (.iload 6, 2) := by decide +kernel
theorem dX10_weeks_102 : decode cX10_weeks 102 = .ok (.aload_n 0, 1) := by decide +kernel
theorem dX10_weeks_103 : decode cX10_weeks 103 = .ok (.getfield 38, 3) := by decide +kernel
theorem dX10_weeks_106 : decode cX10_weeks 106 = .ok (.invokevirtual 139, 3) := by decide +kernel
theorem dX10_weeks_109 : decode cX10_weeks 109 = .ok (.iadd, 1) := by decide +kernel
theorem dX10_weeks_110 : decode cX10_weeks 110 = .ok (.istore 6, 2) := by decide +kernel
theorem dX10_weeks_112 : decode cX10_weeks 112 = .ok (.iinc 7 1, 3) := by decide +kernel
theorem dX10_weeks_115 : decode cX10_weeks 115 = .ok (.goto (-66), 3) := by decide +kernel
theorem dX10_weeks_118 : decode cX10_weeks 118 = .ok (.iload_n 3, 1) := by decide +kernel
theorem dX10_weeks_119 : decode cX10_weeks 119 = .ok (.iconst 2, 1) := by decide +kernel
theorem dX10_weeks_120 : decode cX10_weeks 120 = .ok (.if_icmp .ne 6, 3) := by decide +kernel
theorem dX10_weeks_123 : decode cX10_weeks 123 = .ok (.iload 4, 2) := by decide +kernel
theorem dX10_weeks_125 : decode cX10_weeks 125 = .ok (.ireturn, 1) := by decide +kernel
theorem dX10_weeks_126 : decode cX10_weeks 126 = .ok (.iload_n 3, 1) := by decide +kernel
theorem dX10_weeks_127 : decode cX10_weeks 127 = .ok (.ifCond .ne 8, 3) := by decide +kernel
theorem dX10_weeks_130 : decode cX10_weeks 130 = .ok (.iload 5, 2) := by decide +kernel
theorem dX10_weeks_132 : decode cX10_weeks 132 = .ok (.goto 5, 3) := by decide +kernel
theorem dX10_weeks_135 : decode cX10_weeks 135 = .ok (.iload 6, 2) := by decide +kernel
theorem dX10_weeks_137 : decode cX10_weeks 137 = .ok (.ireturn, 1) := by decide +kernel
set_option maxRecDepth 20000 in
theorem ggX10_image_X10_hasNoRound : GoodIn wsX10_image wsX10_hasNoRound := goodIn_r _ [9, 10, 11, 30, 31, 32, 33, 34, 35, 36, 37, 38, 39, 40, 41, 51, 52, 53, 54, 55, 56, 57, 58] (by decide +kernel) (by decide +kernel)
set_option maxRecDepth 20000 in
theorem gX10_image_X10_hasNoRound : GoodIn wsX10_image (wsV RX10 130 RX10 yX10_hasNoRound wsX10_hasNoRound) := goodIn_app (goodIn_of _ (by decide +kernel)) ggX10_image_X10_hasNoRound
set_option maxRecDepth 20000 in
theorem ggX10_image_X2_copyFrom : GoodIn wsX10_image wsX2_copyFrom := goodIn_r _ [16, 17, 18, 19, 20, 21, 22, 23, 24, 25, 26, 27, 28, 29, 42, 43, 44, 45, 46, 47, 48, 49, 50] (by decide +kernel) (by decide +kernel)
set_option maxRecDepth 20000 in
theorem gX10_image_X2_copyFrom : GoodIn wsX10_image (wsV RX10 182 RX2 yX2_copyFrom wsX2_copyFrom) := goodIn_app (goodIn_of _ (by decide +kernel)) ggX10_image_X2_copyFrom
theorem dX10_image_0 : decode cX10_image 0 = .ok (.aload_n 0, 1) := by decide +kernel
theorem dX10_image_1 : decode cX10_image 1 = .ok (.invokevirtual 130, 3) := by decide +kernel
theorem dX10_image_4 : decode cX10_image 4 = .ok (.ifCond .eq 6, 3) := by decide +kernel
theorem dX10_image_7 : decode cX10_image 7 = .ok (.bipush (-103), 2) := by decide +kernel
theorem dX10_image_9 : decode cX10_image 9 = .ok (.ireturn, 1) := by decide +kernel
theorem dX10_image_10 : decode cX10_image 10 = .ok (.aload_n 0, 1) := by decide +kernel
theorem dX10_image_11 : decode cX10_image 11 = .ok (.getfield 30, 3) := by decide +kernel
theorem dX10_image_14 : decode cX10_image 14 = .ok (.aload_n 0, 1) := by decide +kernel
theorem dX10_image_15 : decode cX10_image 15 = .ok (.getfield 26, 3) := by decide +kernel
theorem dX10_image_18 : decode cX10_image 18 = .ok (.invokevirtual 182, 3) := by decide +kernel
theorem dX10_image_21 : decode cX10_image 21 = .ok (.aload_n 0, 1) := by decide +kernel
theorem dX10_image_22 : decode cX10_image 22 = .ok (.iconst 1, 1) := by decide +kernel
theorem dX10_image_23 : decode cX10_image 23 = .ok (.putfield 59, 3) := by decide +kernel
theorem dX10_image_26 : decode cX10_image 26 = .ok (.aload_n 0, 1) := by decide +kernel
theorem dX10_image_27 : decode cX10_image 27 = .ok (.getfield 30, 3) := by decide +kernel
theorem dX10_image_30 : decode cX10_image 30 = .ok (.getfield 142, 3) := by decide +kernel
theorem dX10_image_33 : decode cX10_image 33 = .ok (.ireturn, 1) := by decide +kernel
set_option maxRecDepth 20000 in
theorem ggX10_restore_X2_copyFrom : GoodIn wsX10_restore wsX2_copyFrom := goodIn_r _ [9, 10, 11, 12, 13, 14, 15, 16, 17, 18, 19, 20, 21, 22, 35, 36, 37, 38, 39, 40, 41, 42, 43] (by decide +kernel) (by decide +kernel)
set_option maxRecDepth 20000 in
theorem gX10_restore_X2_copyFrom : GoodIn wsX10_restore (wsV RX10 182 RX2 yX2_copyFrom wsX2_copyFrom) := goodIn_app (goodIn_of _ (by decide +kernel)) ggX10_restore_X2_copyFrom
theorem dX10_restore_0 : decode cX10_restore 0 = .ok (.aload_n 0, 1) := by decide +kernel
theorem dX10_restore_1 : decode cX10_restore 1 = .ok (.getfield 59, 3) := by decide +kernel
theorem dX10_restore_4 : decode cX10_restore 4 = .ok (.ifCond .ne 6, 3) := by decide +kernel
theorem dX10_restore_7 : decode cX10_restore 7 = .ok (.bipush (-103), 2) := by decide +kernel
theorem dX10_restore_9 : decode cX10_restore 9 = .ok (.ireturn, 1) := by decide +kernel
theorem dX10_restore_10 : decode cX10_restore 10 = .ok (.aload_n 0, 1) := by decide +kernel
theorem dX10_restore_11 : decode cX10_restore 11 = .ok (.getfield 26, 3) := by decide +kernel
theorem dX10_restore_14 : decode cX10_restore 14 = .ok (.aload_n 0, 1) := by decide +kernel
theorem dX10_restore_15 : decode cX10_restore 15 = .ok (.getfield 30, 3) := by decide +kernel
theorem dX10_restore_18 : decode cX10_restore 18 = .ok (.invokevirtual 182, 3) := by decide +kernel
theorem dX10_restore_21 : decode cX10_restore 21 = .ok (.aload_n 0, 1) := by decide +kernel
theorem dX10_restore_22 : decode cX10_restore 22 = .ok (.getfield 26, 3) := by decide +kernel
theorem dX10_restore_25 : decode cX10_restore 25 = .ok (.getfield 142, 3) := by decide +kernel
theorem dX10_restore_28 : decode cX10_restore 28 = .ok (.ireturn, 1) := by decide +kernel
set_option maxRecDepth 20000 in
theorem ggX10_count_X10_toldOfAll : GoodIn wsX10_count wsX10_toldOfAll := goodIn_r _ [5, 6, 7, 8, 9, 10, 11, 12, 13, 14, 15, 16, 17, 18, 19, 20, 21, 22, 4, 23, 24, 25, 26, 27, 28, 29, 30, 31, 32, 33, 34, 35, 36, 37, 38, 39, 40, 41, 42, 43, 44, 45, 46, 47, 48, 49, 50, 51, 52, 53, 54, 55, 56, 57, 58, 59, 60, 61, 62, 63, 64, 65, 66, 67, 68, 69, 70, 71, 72, 73, 74, 75, 76, 77, 78, 79, 80, 81, 82, 83, 84, 85, 86, 87, 88, 89, 90, 91, 92, 93, 94, 95, 96, 97, 98, 99, 100, 101, 102, 103, 104, 105, 106, 107, 108, 109, 110, 111, 112, 113, 114, 115, 116, 117, 118, 119, 120, 121, 122, 123, 124, 125, 126, 127, 128, 129, 130, 131, 132, 133, 134, 135, 136, 137, 138, 139, 140, 141, 142, 143, 144, 145, 146, 147, 148, 149, 150, 151, 152, 153, 154, 155, 156, 157] (by decide +kernel) (by decide +kernel)
set_option maxRecDepth 20000 in
theorem gX10_count_X10_toldOfAll : GoodIn wsX10_count (wsV RX10 186 RX10 yX10_toldOfAll wsX10_toldOfAll) := goodIn_app (goodIn_of _ (by decide +kernel)) ggX10_count_X10_toldOfAll
theorem dX10_count_0 : decode cX10_count 0 = .ok (.iload_n 1, 1) := by decide +kernel
theorem dX10_count_1 : decode cX10_count 1 = .ok (.ifCond .lt 9, 3) := by decide +kernel
theorem dX10_count_4 : decode cX10_count 4 = .ok (.iload_n 1, 1) := by decide +kernel
theorem dX10_count_5 : decode cX10_count 5 = .ok (.bipush 11, 2) := by decide +kernel
theorem dX10_count_7 : decode cX10_count 7 = .ok (.if_icmp .le 6, 3) := by decide +kernel
theorem dX10_count_10 : decode cX10_count 10 = .ok (.bipush (-102), 2) := by decide +kernel
theorem dX10_count_12 : decode cX10_count 12 = .ok (.ireturn, 1) := by decide +kernel
theorem dX10_count_13 : decode cX10_count 13 = .ok (.aload_n 0, 1) := by decide +kernel
theorem dX10_count_14 : decode cX10_count 14 = .ok (.iload_n 1, 1) := by decide +kernel
theorem dX10_count_15 : decode cX10_count 15 = .ok (.invokevirtual 186, 3) := by decide +kernel
theorem dX10_count_18 : decode cX10_count 18 = .ok (.ireturn, 1) := by decide +kernel
set_option maxRecDepth 20000 in
theorem ggX10_digest_X10_toldOfHouse : GoodIn wsX10_digest wsX10_toldOfHouse := goodIn_r _ [12, 2, 13, 14, 15, 16, 17, 18, 19, 20, 21, 11, 22, 23, 24, 25, 26, 27, 28, 29, 30, 31, 32, 33, 34, 35, 36, 37, 38, 39, 40, 41, 42, 43, 44, 45, 46, 47, 48, 49, 50, 51, 52, 53, 54, 55, 56, 57, 58, 59, 60, 61, 62, 63, 64, 65, 66, 67, 68, 69, 70, 71, 72, 73, 74, 75, 76, 77, 78, 79, 80, 81, 82, 83, 84, 85, 86, 87, 88, 89, 90, 91, 92, 93, 94, 95, 96, 97, 98, 99, 100, 101, 102, 103, 104, 105, 106, 107, 108, 109, 110, 111, 112, 113, 114, 115, 116, 117, 118, 119, 120, 121, 122, 123, 124, 125, 126, 127, 128, 129, 130, 131, 132, 133, 134, 135, 136, 137, 138, 139, 140, 141, 142, 143, 144, 145, 146, 147, 148, 149, 150, 151, 152, 153, 154, 155, 156, 157, 158, 159, 160, 161, 162, 220, 221, 222, 223, 224, 225, 226, 227, 228, 229, 230, 231, 232, 233, 234, 235, 236, 237, 238, 239, 242, 243, 244, 245, 246, 247, 248, 249, 250, 251, 252, 253] (by decide +kernel) (by decide +kernel)
set_option maxRecDepth 20000 in
theorem gX10_digest_X10_toldOfHouse : GoodIn wsX10_digest (wsV RX10 98 RX10 yX10_toldOfHouse wsX10_toldOfHouse) := goodIn_app (goodIn_of _ (by decide +kernel)) ggX10_digest_X10_toldOfHouse
set_option maxRecDepth 20000 in
theorem ggX10_digest_X10_hasNoRound : GoodIn wsX10_digest wsX10_hasNoRound := goodIn_r _ [166, 2, 3, 220, 221, 222, 223, 224, 225, 226, 227, 228, 229, 230, 231, 232, 233, 234, 235, 236, 237, 238, 239] (by decide +kernel) (by decide +kernel)
set_option maxRecDepth 20000 in
theorem gX10_digest_X10_hasNoRound : GoodIn wsX10_digest (wsV RX10 130 RX10 yX10_hasNoRound wsX10_hasNoRound) := goodIn_app (goodIn_of _ (by decide +kernel)) ggX10_digest_X10_hasNoRound
set_option maxRecDepth 20000 in
theorem ggX10_digest_X10_howManySets : GoodIn wsX10_digest wsX10_howManySets := goodIn_r _ [170, 2, 3, 171, 172, 173, 11, 174, 17, 14, 15, 23, 175, 176, 18, 177, 24, 25, 26, 27, 28, 29, 30, 31, 32, 33, 34, 35, 36, 37, 38, 39, 40, 41, 42, 43, 44, 45, 46, 47, 48, 49, 50, 51, 52, 53, 54, 55, 56, 57, 58, 59, 60, 61, 62, 63, 64, 65, 66, 67, 68, 69, 70, 71, 72, 178, 220, 221, 222, 223, 224, 225, 226, 227, 228, 229, 230, 231, 232, 233, 234, 235, 236, 237, 238, 239, 242, 243, 244, 245, 246, 247, 248, 249, 250, 251, 252, 253] (by decide +kernel) (by decide +kernel)
set_option maxRecDepth 20000 in
theorem gX10_digest_X10_howManySets : GoodIn wsX10_digest (wsV RX10 166 RX10 yX10_howManySets wsX10_howManySets) := goodIn_app (goodIn_of _ (by decide +kernel)) ggX10_digest_X10_howManySets
set_option maxRecDepth 20000 in
theorem ggX10_digest_X10_leastSet : GoodIn wsX10_digest wsX10_leastSet := goodIn_r _ [182, 2, 3, 171, 172, 173, 11, 174, 17, 14, 15, 23, 175, 176, 18, 177, 24, 25, 26, 27, 28, 29, 30, 31, 32, 33, 34, 35, 36, 37, 38, 39, 40, 41, 42, 43, 44, 45, 46, 47, 48, 49, 50, 51, 52, 53, 54, 55, 56, 57, 58, 59, 60, 61, 62, 63, 64, 65, 66, 67, 68, 69, 70, 71, 72, 178, 220, 221, 222, 223, 224, 225, 226, 227, 228, 229, 230, 231, 232, 233, 234, 235, 236, 237, 238, 239, 242, 243, 244, 245, 246, 247, 248, 249, 250, 251, 252, 253] (by decide +kernel) (by decide +kernel)
set_option maxRecDepth 20000 in
theorem gX10_digest_X10_leastSet : GoodIn wsX10_digest (wsV RX10 169 RX10 yX10_leastSet wsX10_leastSet) := goodIn_app (goodIn_of _ (by decide +kernel)) ggX10_digest_X10_leastSet
set_option maxRecDepth 20000 in
theorem ggX10_digest_X10_houseToAsk : GoodIn wsX10_digest wsX10_houseToAsk := goodIn_r _ [186, 187, 2, 3, 17, 18, 188, 189, 190, 191, 192, 193, 194, 171, 172, 173, 11, 174, 14, 15, 23, 175, 176, 177, 24, 25, 26, 27, 28, 29, 30, 31, 32, 33, 34, 35, 36, 37, 38, 39, 40, 41, 42, 43, 44, 45, 46, 47, 48, 49, 50, 51, 52, 53, 54, 55, 56, 57, 58, 59, 60, 61, 62, 63, 64, 65, 66, 67, 68, 69, 70, 71, 72, 178, 195, 196, 197, 198, 199, 200, 201, 202, 203, 204, 205, 206, 220, 221, 222, 223, 224, 225, 226, 227, 228, 229, 230, 231, 232, 233, 234, 235, 236, 237, 238, 239, 251, 252, 253, 254, 255, 242, 243, 244, 245, 246, 247, 248, 249, 250] (by decide +kernel) (by decide +kernel)
set_option maxRecDepth 20000 in
theorem gX10_digest_X10_houseToAsk : GoodIn wsX10_digest (wsV RX10 172 RX10 yX10_houseToAsk wsX10_houseToAsk) := goodIn_app (goodIn_of _ (by decide +kernel)) ggX10_digest_X10_houseToAsk
set_option maxRecDepth 20000 in
theorem ggX10_digest_X10_toldOfAll : GoodIn wsX10_digest wsX10_toldOfAll := goodIn_r _ [210, 2, 3, 211, 14, 212, 213, 214, 17, 215, 175, 5, 6, 216, 217, 19, 20, 21, 11, 22, 15, 23, 16, 24, 25, 26, 27, 28, 29, 30, 31, 32, 33, 34, 35, 36, 37, 38, 39, 40, 41, 42, 43, 44, 45, 46, 47, 48, 49, 50, 51, 52, 53, 54, 55, 56, 57, 58, 59, 60, 61, 62, 63, 64, 65, 66, 67, 68, 69, 70, 71, 72, 218, 154, 155, 156, 157, 101, 102, 103, 104, 105, 106, 107, 108, 109, 110, 111, 112, 113, 114, 115, 116, 117, 118, 219, 159, 160, 161, 162, 120, 121, 122, 123, 124, 125, 126, 127, 128, 129, 130, 131, 132, 133, 134, 135, 136, 137, 138, 139, 220, 221, 222, 223, 224, 225, 226, 227, 228, 229, 230, 231, 232, 233, 234, 235, 236, 237, 238, 239, 242, 243, 244, 245, 246, 247, 248, 249, 250, 251, 252, 253, 240, 241] (by decide +kernel) (by decide +kernel)
set_option maxRecDepth 20000 in
theorem gX10_digest_X10_toldOfAll : GoodIn wsX10_digest (wsV RX10 186 RX10 yX10_toldOfAll wsX10_toldOfAll) := goodIn_app (goodIn_of _ (by decide +kernel)) ggX10_digest_X10_toldOfAll
theorem dX10_digest_0 : decode cX10_digest 0 = .ok (.ldc2_w 189, 3) := by decide +kernel
theorem dX10_digest_3 : decode cX10_digest 3 = .ok (.lstore_n 1, 1) := by decide +kernel
theorem dX10_digest_4 : decode cX10_digest 4 = .ok (.iconst 0, 1) := by decide +kernel
theorem dX10_digest_5 : decode cX10_digest 5 = .ok (.istore_n 3, 1) := by decide +kernel
theorem dX10_digest_6 : decode cX10_digest 6 = .ok (.iload_n 3, 1) := by decide +kernel
theorem dX10_digest_7 : decode cX10_digest 7 = .ok (.aload_n 0, 1) := by decide +kernel
theorem dX10_digest_8 : decode cX10_digest 8 = .ok (.getfield 19, 3) := by decide +kernel
theorem dX10_digest_11 : decode cX10_digest 11 = .ok (.getfield 89, 3) := by decide +kernel
theorem dX10_digest_14 : decode cX10_digest 14 = .ok (.if_icmp .ge 40, 3) := by decide +kernel
theorem dX10_digest_17 : decode cX10_digest 17 = .ok (.iconst 0, 1) := by decide +kernel
theorem dX10_digest_18 : decode cX10_digest 18 = .ok (.istore 4, 2) := by decide +kernel
theorem dX10_digest_20 : decode cX10_digest 20 = .ok (.iload 4, 2) := by decide +kernel
theorem dX10_digest_22 : decode cX10_digest 22 = .ok (.bipush 8, 2) := by decide +kernel
theorem dX10_digest_24 : decode cX10_digest 24 = .ok (.if_icmp .gt 24, 3) := by decide +kernel
theorem dX10_digest_27 : decode cX10_digest 27 = .ok (.ldc2_w 191, 3) := by decide +kernel
theorem dX10_digest_30 : decode cX10_digest 30 = .ok (.lload_n 1, 1) := by decide +kernel
theorem dX10_digest_31 : decode cX10_digest 31 = .ok (.lmul, 1) := by decide +kernel
theorem dX10_digest_32 : decode cX10_digest 32 = .ok (.aload_n 0, 1) := by decide +kernel
theorem dX10_digest_33 : decode cX10_digest 33 = .ok (.iload_n 3, 1) := by decide +kernel
theorem dX10_digest_34 : decode cX10_digest 34 = .ok (.iload 4, 2) := by decide +kernel
theorem dX10_digest_36 : decode cX10_digest 36 = .ok (.invokevirtual 98, 3) := by decide +kernel
theorem dX10_digest_39 : decode cX10_digest 39 = .ok (.i2l, 1) := by decide +kernel
theorem dX10_digest_40 : decode cX10_digest 40 = .ok (.ladd, 1) := by decide +kernel
theorem dX10_digest_41 : decode cX10_digest 41 = .ok (.lstore_n 1, 1) := by decide +kernel
theorem dX10_digest_42 : decode cX10_digest 42 = .ok (.iinc 4 1, 3) := by decide +kernel
theorem dX10_digest_45 : decode cX10_digest 45 = .ok (.goto (-25), 3) := by decide +kernel
theorem dX10_digest_48 : decode cX10_digest 48 = .ok (.iinc 3 1, 3) := by decide +kernel
theorem dX10_digest_51 : decode cX10_digest 51 = .ok (.goto (-45), 3) := by decide +kernel
theorem dX10_digest_54 : decode cX10_digest 54 = .ok (.aload_n 0, 1) := by decide +kernel
theorem dX10_digest_55 : decode cX10_digest 55 = .ok (.invokevirtual 130, 3) := by decide +kernel
theorem dX10_digest_58 : decode cX10_digest 58 = .ok (.ifCond .ne 39, 3) := by decide +kernel
theorem dX10_digest_61 : decode cX10_digest 61 = .ok (.ldc2_w 191, 3) := by decide +kernel
theorem dX10_digest_64 : decode cX10_digest 64 = .ok (.lload_n 1, 1) := by decide +kernel
theorem dX10_digest_65 : decode cX10_digest 65 = .ok (.lmul, 1) := by decide +kernel
theorem dX10_digest_66 : decode cX10_digest 66 = .ok (.aload_n 0, 1) := by decide +kernel
theorem dX10_digest_67 : decode cX10_digest 67 = .ok (.invokevirtual 166, 3) := by decide +kernel
theorem dX10_digest_70 : decode cX10_digest 70 = .ok (.i2l, 1) := by decide +kernel
theorem dX10_digest_71 : decode cX10_digest 71 = .ok (.ladd, 1) := by decide +kernel
theorem dX10_digest_72 : decode cX10_digest 72 = .ok (.lstore_n 1, 1) := by decide +kernel
theorem dX10_digest_73 : decode cX10_digest 73 = .ok (.ldc2_w 191, 3) := by decide +kernel
theorem dX10_digest_76 : decode cX10_digest 76 = .ok (.lload_n 1, 1) := by decide +kernel
theorem dX10_digest_77 : decode cX10_digest 77 = .ok (.lmul, 1) := by decide +kernel
theorem dX10_digest_78 : decode cX10_digest 78 = .ok (.aload_n 0, 1) := by decide +kernel
theorem dX10_digest_79 : decode cX10_digest 79 = .ok (.invokevirtual 169, 3) := by decide +kernel
theorem dX10_digest_82 : decode cX10_digest 82 = .ok (.i2l, 1) := by decide +kernel
theorem dX10_digest_83 : decode cX10_digest 83 = .ok (.ladd, 1) := by decide +kernel
theorem dX10_digest_84 : decode cX10_digest 84 = .ok (.lstore_n 1, 1) := by decide +kernel
theorem dX10_digest_85 : decode cX10_digest 85 = .ok (.ldc2_w 191, 3) := by decide +kernel
theorem dX10_digest_88 : decode cX10_digest 88 = .ok (.lload_n 1, 1) := by decide +kernel
theorem dX10_digest_89 : decode cX10_digest 89 = .ok (.lmul, 1) := by decide +kernel
theorem dX10_digest_90 : decode cX10_digest 90 = .ok (.aload_n 0, 1) := by decide +kernel
theorem dX10_digest_91 : decode cX10_digest 91 = .ok (.invokevirtual 172, 3) := by decide +kernel
theorem dX10_digest_94 : decode cX10_digest 94 = .ok (.i2l, 1) := by decide +kernel
theorem dX10_digest_95 : decode cX10_digest 95 = .ok (.ladd, 1) := by decide +kernel
theorem dX10_digest_96 : decode cX10_digest 96 = .ok (.lstore_n 1, 1) := by decide +kernel
theorem dX10_digest_97 : decode cX10_digest 97 = .ok (.iconst 0, 1) := by decide +kernel
theorem dX10_digest_98 : decode cX10_digest 98 = .ok (.istore_n 3, 1) := by decide +kernel
theorem dX10_digest_99 : decode cX10_digest 99 = .ok (.iload_n 3, 1) := by decide +kernel
theorem dX10_digest_100 : decode cX10_digest 100 = .ok (.aload_n 0, 1) := by decide +kernel
theorem dX10_digest_101 : decode cX10_digest 101 = .ok (.getfield 10, 3) := by decide +kernel
theorem dX10_digest_104 : decode cX10_digest 104 = .ok (.getfield 74, 3) := by decide +kernel
theorem dX10_digest_107 : decode cX10_digest 107 = .ok (.if_icmp .ge 26, 3) := by decide +kernel
theorem dX10_digest_110 : decode cX10_digest 110 = .ok (.ldc2_w 191, 3) := by decide +kernel
theorem dX10_digest_113 : decode cX10_digest 113 = .ok (.lload_n 1, 1) := by decide +kernel
theorem dX10_digest_114 : decode cX10_digest 114 = .ok (.lmul, 1) := by decide +kernel
theorem dX10_digest_115 : decode cX10_digest 115 = .ok (.aload_n 0, 1) := by decide +kernel
theorem dX10_digest_116 : decode cX10_digest 116 = .ok (.getfield 10, 3) := by decide +kernel
theorem dX10_digest_119 : decode cX10_digest 119 = .ok (.getfield 193, 3) := by decide +kernel
theorem dX10_digest_122 : decode cX10_digest 122 = .ok (.iload_n 3, 1) := by decide +kernel
theorem dX10_digest_123 : decode cX10_digest 123 = .ok (.caload, 1) := by decide +kernel
theorem dX10_digest_124 : decode cX10_digest 124 = .ok (.i2l, 1) := by decide +kernel
theorem dX10_digest_125 : decode cX10_digest 125 = .ok (.ladd, 1) := by decide +kernel
theorem dX10_digest_126 : decode cX10_digest 126 = .ok (.lstore_n 1, 1) := by decide +kernel
theorem dX10_digest_127 : decode cX10_digest 127 = .ok (.iinc 3 1, 3) := by decide +kernel
theorem dX10_digest_130 : decode cX10_digest 130 = .ok (.goto (-31), 3) := by decide +kernel
theorem dX10_digest_133 : decode cX10_digest 133 = .ok (.iconst 0, 1) := by decide +kernel
theorem dX10_digest_134 : decode cX10_digest 134 = .ok (.istore_n 3, 1) := by decide +kernel
theorem dX10_digest_135 : decode cX10_digest 135 = .ok (.iload_n 3, 1) := by decide +kernel
theorem dX10_digest_136 : decode cX10_digest 136 = .ok (.bipush 11, 2) := by decide +kernel
theorem dX10_digest_138 : decode cX10_digest 138 = .ok (.if_icmp .gt 22, 3) := by decide +kernel
theorem dX10_digest_141 : decode cX10_digest 141 = .ok (.ldc2_w 191, 3) := by decide +kernel
theorem dX10_digest_144 : decode cX10_digest 144 = .ok (.lload_n 1, 1) := by decide +kernel
theorem dX10_digest_145 : decode cX10_digest 145 = .ok (.lmul, 1) := by decide +kernel
theorem dX10_digest_146 : decode cX10_digest 146 = .ok (.aload_n 0, 1) := by decide +kernel
theorem dX10_digest_147 : decode cX10_digest 147 = .ok (.iload_n 3, 1) := by decide +kernel
theorem dX10_digest_148 : decode cX10_digest 148 = .ok (.invokevirtual 186, 3) := by decide +kernel
theorem dX10_digest_151 : decode cX10_digest 151 = .ok (.i2l, 1) := by decide +kernel
theorem dX10_digest_152 : decode cX10_digest 152 = .ok (.ladd, 1) := by decide +kernel
theorem dX10_digest_153 : decode cX10_digest 153 = .ok (.lstore_n 1, 1) := by decide +kernel
theorem dX10_digest_154 : decode cX10_digest 154 = .ok (.iinc 3 1, 3) := by decide +kernel
theorem dX10_digest_157 : decode cX10_digest 157 = .ok (.goto (-22), 3) := by decide +kernel
theorem dX10_digest_160 : decode cX10_digest 160 = .ok (.lload_n 1, 1) := by decide +kernel
theorem dX10_digest_161 : decode cX10_digest 161 = .ok (.lreturn, 1) := by decide +kernel
theorem dX10_hasNoRound_0 : decode cX10_hasNoRound 0 = .ok (.aload_n 0, 1) := by decide +kernel
theorem dX10_hasNoRound_1 : decode cX10_hasNoRound 1 = .ok (.getfield 19, 3) := by decide +kernel
theorem dX10_hasNoRound_4 : decode cX10_hasNoRound 4 = .ok (.getfield 89, 3) := by decide +kernel
theorem dX10_hasNoRound_7 : decode cX10_hasNoRound 7 = .ok (.ifCond .ne 7, 3) := by decide +kernel
theorem dX10_hasNoRound_10 : decode cX10_hasNoRound 10 = .ok (.iconst 1, 1) := by decide +kernel
theorem dX10_hasNoRound_11 : decode cX10_hasNoRound 11 = .ok (.goto 4, 3) := by decide +kernel
theorem dX10_hasNoRound_14 : decode cX10_hasNoRound 14 = .ok (.iconst 0, 1) := by decide +kernel
theorem dX10_hasNoRound_15 : decode cX10_hasNoRound 15 = .ok (.ireturn, 1) := by decide +kernel
set_option maxRecDepth 20000 in
theorem ggX10_walkAsItIs_X8_go : GoodIn wsX10_walkAsItIs wsX8_go := goodIn_r _ [10, 11, 12, 13, 14, 15, 16, 17, 18, 19, 20, 21, 22, 23, 24, 25, 26, 27, 28, 29, 30, 31, 32, 33, 34, 35, 36, 37, 38, 39, 40, 41, 42, 43, 44, 45, 46, 47, 48, 49, 50, 51, 52, 53, 54, 55, 77, 78, 79, 80, 81, 82, 83, 84, 85, 86, 87] (by decide +kernel) (by decide +kernel)
set_option maxRecDepth 20000 in
theorem gX10_walkAsItIs_X8_go : GoodIn wsX10_walkAsItIs (wsV RX10 178 RX8 yX8_go wsX8_go) := goodIn_app (goodIn_of _ (by decide +kernel)) ggX10_walkAsItIs_X8_go
theorem dX10_walkAsItIs_0 : decode cX10_walkAsItIs 0 = .ok (.aload_n 0, 1) := by decide +kernel
theorem dX10_walkAsItIs_1 : decode cX10_walkAsItIs 1 = .ok (.getfield 38, 3) := by decide +kernel
theorem dX10_walkAsItIs_4 : decode cX10_walkAsItIs 4 = .ok (.aload_n 0, 1) := by decide +kernel
theorem dX10_walkAsItIs_5 : decode cX10_walkAsItIs 5 = .ok (.getfield 26, 3) := by decide +kernel
theorem dX10_walkAsItIs_8 : decode cX10_walkAsItIs 8 = .ok (.getfield 110, 3) := by decide +kernel
theorem dX10_walkAsItIs_11 : decode cX10_walkAsItIs 11 = .ok (.aload_n 0, 1) := by decide +kernel
theorem dX10_walkAsItIs_12 : decode cX10_walkAsItIs 12 = .ok (.getfield 26, 3) := by decide +kernel
theorem dX10_walkAsItIs_15 : decode cX10_walkAsItIs 15 = .ok (.getfield 123, 3) := by decide +kernel
theorem dX10_walkAsItIs_18 : decode cX10_walkAsItIs 18 = .ok (.aload_n 0, 1) := by decide +kernel
theorem dX10_walkAsItIs_19 : decode cX10_walkAsItIs 19 = .ok (.getfield 26, 3) := by decide +kernel
theorem dX10_walkAsItIs_22 : decode cX10_walkAsItIs 22 = .ok (.getfield 113, 3) := by decide +kernel
theorem dX10_walkAsItIs_25 : decode cX10_walkAsItIs 25 = .ok (.invokevirtual 178, 3) := by decide +kernel
theorem dX10_walkAsItIs_28 : decode cX10_walkAsItIs 28 = .ok (.return_, 1) := by decide +kernel
set_option maxRecDepth 20000 in
theorem ggX10_toldOfHouse_X10_walkAsItIs : GoodIn wsX10_toldOfHouse wsX10_walkAsItIs := goodIn_r _ [12, 6, 3, 4, 13, 5, 14, 15, 16, 17, 18, 19, 20, 21, 22, 23, 24, 25, 26, 27, 28, 29, 30, 31, 32, 33, 34, 35, 36, 37, 38, 39, 40, 41, 42, 43, 44, 45, 46, 47, 48, 49, 50, 51, 52, 53, 54, 55, 56, 57, 58, 59, 60, 61, 11, 62, 153, 154, 155, 156, 157, 158, 159, 160, 161, 162, 163, 164, 173, 174, 175, 176, 177, 178, 179, 180, 181, 182, 183, 184, 165, 166, 167, 168, 169, 170, 171, 172] (by decide +kernel) (by decide +kernel)
set_option maxRecDepth 20000 in
theorem gX10_toldOfHouse_X10_walkAsItIs : GoodIn wsX10_toldOfHouse (wsV RX10 133 RX10 yX10_walkAsItIs wsX10_walkAsItIs) := goodIn_app (goodIn_of _ (by decide +kernel)) ggX10_toldOfHouse_X10_walkAsItIs
set_option maxRecDepth 20000 in
theorem ggX10_toldOfHouse_X0_kind : GoodIn wsX10_toldOfHouse wsX0_kind := goodIn_r _ [68] (by decide +kernel) (by decide +kernel)
set_option maxRecDepth 20000 in
theorem gX10_toldOfHouse_X0_kind_u197X0 : GoodIn wsX10_toldOfHouse (va_wsO RX10 197 RX0 "MilkRound$House" ⟨"MilkRound$House", "kind", "()I"⟩ yX0_kind wsX0_kind) := goodIn_app (goodIn_of _ (by decide +kernel)) ggX10_toldOfHouse_X0_kind
set_option maxRecDepth 20000 in
theorem ggX10_toldOfHouse_X1_kind : GoodIn wsX10_toldOfHouse wsX1_kind := goodIn_r _ [72] (by decide +kernel) (by decide +kernel)
set_option maxRecDepth 20000 in
theorem gX10_toldOfHouse_X1_kind_u197X1 : GoodIn wsX10_toldOfHouse (va_wsO RX10 197 RX1 "MilkRound$House" ⟨"MilkRound$House", "kind", "()I"⟩ yX1_kind wsX1_kind) := goodIn_app (goodIn_of _ (by decide +kernel)) ggX10_toldOfHouse_X1_kind
set_option maxRecDepth 20000 in
theorem ggX10_toldOfHouse_X3_kind : GoodIn wsX10_toldOfHouse wsX3_kind := goodIn_r _ [69] (by decide +kernel) (by decide +kernel)
set_option maxRecDepth 20000 in
theorem gX10_toldOfHouse_X3_kind : GoodIn wsX10_toldOfHouse (wsV RX10 197 RX3 yX3_kind wsX3_kind) := goodIn_app (goodIn_of _ (by decide +kernel)) ggX10_toldOfHouse_X3_kind
set_option maxRecDepth 20000 in
theorem ggX10_toldOfHouse_X5_kind : GoodIn wsX10_toldOfHouse wsX5_kind := goodIn_r _ [78] (by decide +kernel) (by decide +kernel)
set_option maxRecDepth 20000 in
theorem gX10_toldOfHouse_X5_kind_u197X5 : GoodIn wsX10_toldOfHouse (va_wsO RX10 197 RX5 "MilkRound$House" ⟨"MilkRound$House", "kind", "()I"⟩ yX5_kind wsX5_kind) := goodIn_app (goodIn_of _ (by decide +kernel)) ggX10_toldOfHouse_X5_kind
set_option maxRecDepth 20000 in
theorem ggX10_toldOfHouse_X9_kind : GoodIn wsX10_toldOfHouse wsX9_kind := goodIn_r _ [81] (by decide +kernel) (by decide +kernel)
set_option maxRecDepth 20000 in
theorem gX10_toldOfHouse_X9_kind_u197X9 : GoodIn wsX10_toldOfHouse (va_wsO RX10 197 RX9 "MilkRound$House" ⟨"MilkRound$House", "kind", "()I"⟩ yX9_kind wsX9_kind) := goodIn_app (goodIn_of _ (by decide +kernel)) ggX10_toldOfHouse_X9_kind
set_option maxRecDepth 20000 in
theorem ggX10_toldOfHouse_X10_bitOf : GoodIn wsX10_toldOfHouse wsX10_bitOf := goodIn_r _ [62] (by decide +kernel) (by decide +kernel)
set_option maxRecDepth 20000 in
theorem gX10_toldOfHouse_X10_bitOf : GoodIn wsX10_toldOfHouse (va_wsS RX10 116 yX10_bitOf wsX10_bitOf) := goodIn_app (goodIn_of _ (by decide +kernel)) ggX10_toldOfHouse_X10_bitOf
set_option maxRecDepth 20000 in
theorem ggX10_toldOfHouse_X6_reading : GoodIn wsX10_toldOfHouse wsX6_reading := goodIn_r _ [32, 33, 34, 35, 36, 37, 38, 39, 40, 41, 42, 43, 44, 45, 46, 47, 48, 49, 50, 51, 52, 53, 54, 55, 56, 57, 58, 59, 60, 61, 11, 62, 165, 166, 167, 168, 169, 170, 171, 172] (by decide +kernel) (by decide +kernel)
set_option maxRecDepth 20000 in
theorem gX10_toldOfHouse_X6_reading : GoodIn wsX10_toldOfHouse (wsV RX10 200 RX6 yX6_reading wsX6_reading) := goodIn_app (goodIn_of _ (by decide +kernel)) ggX10_toldOfHouse_X6_reading
set_option maxRecDepth 20000 in
theorem ggX10_toldOfHouse_X2_placeOf : GoodIn wsX10_toldOfHouse wsX2_placeOf := goodIn_r _ [88, 89, 173, 174, 175, 176, 177, 178, 179, 180, 181] (by decide +kernel) (by decide +kernel)
set_option maxRecDepth 20000 in
theorem gX10_toldOfHouse_X2_placeOf : GoodIn wsX10_toldOfHouse (wsV RX10 119 RX2 yX2_placeOf wsX2_placeOf) := goodIn_app (goodIn_of _ (by decide +kernel)) ggX10_toldOfHouse_X2_placeOf
set_option maxRecDepth 20000 in
theorem ggX10_toldOfHouse_X8_isSour : GoodIn wsX10_toldOfHouse wsX8_isSour := goodIn_r _ [93, 21, 19, 94, 95, 96, 97, 98, 99, 100, 39, 101, 102, 103, 104, 49, 105, 106, 107, 108, 182, 183, 184, 165, 166, 167, 168, 169, 170, 171, 172] (by decide +kernel) (by decide +kernel)
set_option maxRecDepth 20000 in
theorem gX10_toldOfHouse_X8_isSour : GoodIn wsX10_toldOfHouse (wsV RX10 207 RX8 yX8_isSour wsX8_isSour) := goodIn_app (goodIn_of _ (by decide +kernel)) ggX10_toldOfHouse_X8_isSour
set_option maxRecDepth 20000 in
theorem ggX10_toldOfHouse_X8_hears : GoodIn wsX10_toldOfHouse wsX8_hears := goodIn_r _ [112, 19, 94, 113, 114, 115, 116, 117, 39, 118, 119, 120, 121, 49, 122, 123, 124, 125, 126, 127, 128, 17, 129, 20, 21, 182, 183, 184, 165, 166, 167, 168, 169, 170, 171, 172] (by decide +kernel) (by decide +kernel)
set_option maxRecDepth 20000 in
theorem gX10_toldOfHouse_X8_hears : GoodIn wsX10_toldOfHouse (wsV RX10 210 RX8 yX8_hears wsX8_hears) := goodIn_app (goodIn_of _ (by decide +kernel)) ggX10_toldOfHouse_X8_hears
set_option maxRecDepth 20000 in
theorem ggX10_toldOfHouse_X10_longestHarmless : GoodIn wsX10_toldOfHouse wsX10_longestHarmless := goodIn_r _ [133, 3, 4, 134, 135, 136, 137, 138, 6, 13, 5, 14, 15, 16, 17, 18, 19, 20, 21, 22, 23, 24, 25, 26, 27, 28, 29, 30, 31, 32, 33, 34, 35, 36, 37, 38, 39, 40, 41, 42, 43, 44, 45, 46, 47, 48, 49, 50, 51, 52, 53, 54, 55, 56, 57, 58, 59, 60, 61, 11, 62, 139, 140, 141, 142, 143, 144, 145, 146, 147, 91, 92, 93, 94, 95, 96, 97, 98, 99, 100, 101, 102, 103, 104, 105, 106, 107, 108, 148, 149, 150, 151, 152, 110, 111, 112, 113, 114, 115, 116, 117, 118, 119, 120, 121, 122, 123, 124, 125, 126, 127, 128, 129, 153, 154, 155, 156, 157, 158, 159, 160, 161, 162, 163, 164, 173, 174, 175, 176, 177, 178, 179, 180, 181, 182, 183, 184, 165, 166, 167, 168, 169, 170, 171, 172] (by decide +kernel) (by decide +kernel)
set_option maxRecDepth 20000 in
theorem gX10_toldOfHouse_X10_longestHarmless : GoodIn wsX10_toldOfHouse (wsV RX10 213 RX10 yX10_longestHarmless wsX10_longestHarmless) := goodIn_app (goodIn_of _ (by decide +kernel)) ggX10_toldOfHouse_X10_longestHarmless
theorem dX10_toldOfHouse_0 : decode cX10_toldOfHouse 0 = .ok (.aload_n 0, 1) := by decide +kernel
theorem dX10_toldOfHouse_1 : decode cX10_toldOfHouse 1 = .ok (.invokevirtual 133, 3) := by decide +kernel
theorem dX10_toldOfHouse_4 : decode cX10_toldOfHouse 4 = .ok (.iload_n 2, 1) := by decide +kernel
theorem dX10_toldOfHouse_5 : decode cX10_toldOfHouse 5 = .ok (.tableswitch 160 0 7 #[47, 60, 70, 82, 107, 116, 126, 143], 47) := by decide +kernel
theorem dX10_toldOfHouse_52 : decode cX10_toldOfHouse 52 = .ok (.aload_n 0, 1) := by decide +kernel
theorem dX10_toldOfHouse_53 : decode cX10_toldOfHouse 53 = .ok (.getfield 19, 3) := by decide +kernel
theorem dX10_toldOfHouse_56 : decode cX10_toldOfHouse 56 = .ok (.getfield 102, 3) := by decide +kernel
theorem dX10_toldOfHouse_59 : decode cX10_toldOfHouse 59 = .ok (.iload_n 1, 1) := by decide +kernel
theorem dX10_toldOfHouse_60 : decode cX10_toldOfHouse 60 = .ok (.aaload, 1) := by decide +kernel
theorem dX10_toldOfHouse_61 : decode cX10_toldOfHouse 61 = .ok (.invokevirtual 197, 3) := by decide +kernel
theorem dX10_toldOfHouse_64 : decode cX10_toldOfHouse 64 = .ok (.ireturn, 1) := by decide +kernel
theorem dX10_toldOfHouse_65 : decode cX10_toldOfHouse 65 = .ok (.aload_n 0, 1) := by decide +kernel
theorem dX10_toldOfHouse_66 : decode cX10_toldOfHouse 66 = .ok (.getfield 26, 3) := by decide +kernel
theorem dX10_toldOfHouse_69 : decode cX10_toldOfHouse 69 = .ok (.getfield 110, 3) := by decide +kernel
theorem dX10_toldOfHouse_72 : decode cX10_toldOfHouse 72 = .ok (.iload_n 1, 1) := by decide +kernel
theorem dX10_toldOfHouse_73 : decode cX10_toldOfHouse 73 = .ok (.iaload, 1) := by decide +kernel
theorem dX10_toldOfHouse_74 : decode cX10_toldOfHouse 74 = .ok (.ireturn, 1) := by decide +kernel
theorem dX10_toldOfHouse_75 : decode cX10_toldOfHouse 75 = .ok (.aload_n 0, 1) := by decide +kernel
theorem dX10_toldOfHouse_76 : decode cX10_toldOfHouse 76 = .ok (.getfield 26, 3) := by decide +kernel
theorem dX10_toldOfHouse_79 : decode cX10_toldOfHouse 79 = .ok (.getfield 113, 3) := by decide +kernel
theorem dX10_toldOfHouse_82 : decode cX10_toldOfHouse 82 = .ok (.iload_n 1, 1) := by decide +kernel
theorem dX10_toldOfHouse_83 : decode cX10_toldOfHouse 83 = .ok (.invokestatic 116, 3) := by decide +kernel
theorem dX10_toldOfHouse_86 : decode cX10_toldOfHouse 86 = .ok (.ireturn, 1) := by decide +kernel
theorem dX10_toldOfHouse_87 : decode cX10_toldOfHouse 87 = .ok (.aload_n 0, 1) := by decide +kernel
theorem dX10_toldOfHouse_88 : decode cX10_toldOfHouse 88 = .ok (.getfield 19, 3) := by decide +kernel
theorem dX10_toldOfHouse_91 : decode cX10_toldOfHouse 91 = .ok (.iload_n 1, 1) := by decide +kernel
theorem dX10_toldOfHouse_92 : decode cX10_toldOfHouse 92 = .ok (.aload_n 0, 1) := by decide +kernel
theorem dX10_toldOfHouse_93 : decode cX10_toldOfHouse 93 = .ok (.getfield 26, 3) := by decide +kernel
theorem dX10_toldOfHouse_96 : decode cX10_toldOfHouse 96 = .ok (.getfield 110, 3) := by decide +kernel
theorem dX10_toldOfHouse_99 : decode cX10_toldOfHouse 99 = .ok (.iload_n 1, 1) := by decide +kernel
theorem dX10_toldOfHouse_100 : decode cX10_toldOfHouse 100 = .ok (.iaload, 1) := by decide +kernel
theorem dX10_toldOfHouse_101 : decode cX10_toldOfHouse 101 = .ok (.aload_n 0, 1) := by decide +kernel
theorem dX10_toldOfHouse_102 : decode cX10_toldOfHouse 102 = .ok (.getfield 26, 3) := by decide +kernel
theorem dX10_toldOfHouse_105 : decode cX10_toldOfHouse 105 = .ok (.getfield 113, 3) := by decide +kernel
theorem dX10_toldOfHouse_108 : decode cX10_toldOfHouse 108 = .ok (.invokevirtual 200, 3) := by decide +kernel
theorem dX10_toldOfHouse_111 : decode cX10_toldOfHouse 111 = .ok (.ireturn, 1) := by decide +kernel
theorem dX10_toldOfHouse_112 : decode cX10_toldOfHouse 112 = .ok (.aload_n 0, 1) := by decide +kernel
theorem dX10_toldOfHouse_113 : decode cX10_toldOfHouse 113 = .ok (.getfield 26, 3) := by decide +kernel
theorem dX10_toldOfHouse_116 : decode cX10_toldOfHouse 116 = .ok (.iload_n 1, 1) := by decide +kernel
theorem dX10_toldOfHouse_117 : decode cX10_toldOfHouse 117 = .ok (.invokevirtual 119, 3) := by decide +kernel
theorem dX10_toldOfHouse_120 : decode cX10_toldOfHouse 120 = .ok (.ireturn, 1) := by decide +kernel
theorem dX10_toldOfHouse_121 : decode cX10_toldOfHouse 121 = .ok (.aload_n 0, 1) := by decide +kernel
theorem dX10_toldOfHouse_122 : decode cX10_toldOfHouse 122 = .ok (.getfield 38, 3) := by decide +kernel
theorem dX10_toldOfHouse_125 : decode cX10_toldOfHouse 125 = .ok (.getfield 204, 3) := by decide +kernel
theorem dX10_toldOfHouse_128 : decode cX10_toldOfHouse 128 = .ok (.iload_n 1, 1) := by decide +kernel
theorem dX10_toldOfHouse_129 : decode cX10_toldOfHouse 129 = .ok (.iaload, 1) := by decide +kernel
theorem dX10_toldOfHouse_130 : decode cX10_toldOfHouse 130 = .ok (.ireturn, 1) := by decide +kernel
theorem dX10_toldOfHouse_131 : decode cX10_toldOfHouse 131 = .ok (.aload_n 0, 1) := by decide +kernel
theorem dX10_toldOfHouse_132 : decode cX10_toldOfHouse 132 = .ok (.getfield 38, 3) := by decide +kernel
theorem dX10_toldOfHouse_135 : decode cX10_toldOfHouse 135 = .ok (.iload_n 1, 1) := by decide +kernel
theorem dX10_toldOfHouse_136 : decode cX10_toldOfHouse 136 = .ok (.invokevirtual 207, 3) := by decide +kernel
theorem dX10_toldOfHouse_139 : decode cX10_toldOfHouse 139 = .ok (.ifCond .eq 7, 3) := by decide +kernel
theorem dX10_toldOfHouse_142 : decode cX10_toldOfHouse 142 = .ok (.iconst 1, 1) := by decide +kernel
theorem dX10_toldOfHouse_143 : decode cX10_toldOfHouse 143 = .ok (.goto 4, 3) := by decide +kernel
theorem dX10_toldOfHouse_146 : decode cX10_toldOfHouse 146 = .ok (.iconst 0, 1) := by decide +kernel
theorem dX10_toldOfHouse_147 : decode cX10_toldOfHouse 147 = .ok (.ireturn, 1) := by decide +kernel
theorem dX10_toldOfHouse_148 : decode cX10_toldOfHouse 148 = .ok (.aload_n 0, 1) := by decide +kernel
theorem dX10_toldOfHouse_149 : decode cX10_toldOfHouse 149 = .ok (.getfield 38, 3) := by decide +kernel
theorem dX10_toldOfHouse_152 : decode cX10_toldOfHouse 152 = .ok (.iload_n 1, 1) := by decide +kernel
theorem dX10_toldOfHouse_153 : decode cX10_toldOfHouse 153 = .ok (.invokevirtual 210, 3) := by decide +kernel
theorem dX10_toldOfHouse_156 : decode cX10_toldOfHouse 156 = .ok (.ifCond .eq 7, 3) := by decide +kernel
theorem dX10_toldOfHouse_159 : decode cX10_toldOfHouse 159 = .ok (.iconst 1, 1) := by decide +kernel
theorem dX10_toldOfHouse_160 : decode cX10_toldOfHouse 160 = .ok (.goto 4, 3) := by decide +kernel
theorem dX10_toldOfHouse_163 : decode cX10_toldOfHouse 163 = .ok (.iconst 0, 1) := by decide +kernel
theorem dX10_toldOfHouse_164 : decode cX10_toldOfHouse 164 = .ok (.ireturn, 1) := by decide +kernel
theorem dX10_toldOfHouse_165 : decode cX10_toldOfHouse 165 = .ok (.aload_n 0, 1) := by decide +kernel
theorem dX10_toldOfHouse_166 : decode cX10_toldOfHouse 166 = .ok (.iload_n 1, 1) := by decide +kernel
theorem dX10_toldOfHouse_167 : decode cX10_toldOfHouse 167 = .ok (.invokevirtual 213, 3) := by decide +kernel
theorem dX10_toldOfHouse_170 : decode cX10_toldOfHouse 170 = .ok (.ireturn, 1) := by decide +kernel
set_option maxRecDepth 20000 in
theorem ggX10_toldOfAll_X10_walkAsItIs : GoodIn wsX10_toldOfAll wsX10_walkAsItIs := goodIn_r _ [19, 8, 4, 20, 21, 22, 23, 24, 25, 26, 27, 28, 29, 30, 31, 32, 33, 34, 35, 36, 37, 38, 39, 40, 41, 42, 43, 44, 45, 46, 47, 48, 49, 50, 51, 52, 53, 54, 55, 56, 57, 58, 59, 60, 61, 62, 63, 64, 65, 66, 67, 68, 69, 70, 18, 71, 120, 121, 122, 123, 124, 125, 126, 127, 128, 129, 130, 131, 140, 141, 142, 143, 144, 145, 146, 147, 148, 149, 150, 151, 132, 133, 134, 135, 136, 137, 138, 139] (by decide +kernel) (by decide +kernel)
set_option maxRecDepth 20000 in
theorem gX10_toldOfAll_X10_walkAsItIs : GoodIn wsX10_toldOfAll (wsV RX10 133 RX10 yX10_walkAsItIs wsX10_walkAsItIs) := goodIn_app (goodIn_of _ (by decide +kernel)) ggX10_toldOfAll_X10_walkAsItIs
set_option maxRecDepth 20000 in
theorem ggX10_toldOfAll_X8_sourHouses : GoodIn wsX10_toldOfAll wsX8_sourHouses := goodIn_r _ [75, 28, 29, 76, 77, 78, 26, 79, 30, 80, 81, 82, 83, 84, 85, 86, 48, 87, 88, 89, 90, 58, 91, 92, 93, 94, 149, 150, 151, 132, 133, 134, 135, 136, 137, 138, 139] (by decide +kernel) (by decide +kernel)
set_option maxRecDepth 20000 in
theorem gX10_toldOfAll_X8_sourHouses : GoodIn wsX10_toldOfAll (wsV RX10 136 RX8 yX8_sourHouses wsX8_sourHouses) := goodIn_app (goodIn_of _ (by decide +kernel)) ggX10_toldOfAll_X8_sourHouses
set_option maxRecDepth 20000 in
theorem ggX10_toldOfAll_X8_hearingHouses : GoodIn wsX10_toldOfAll wsX8_hearingHouses := goodIn_r _ [98, 28, 29, 99, 100, 101, 26, 102, 80, 103, 104, 105, 106, 107, 48, 108, 109, 110, 111, 58, 112, 113, 114, 115, 116, 117, 118, 119, 30, 149, 150, 151, 132, 133, 134, 135, 136, 137, 138, 139] (by decide +kernel) (by decide +kernel)
set_option maxRecDepth 20000 in
theorem gX10_toldOfAll_X8_hearingHouses : GoodIn wsX10_toldOfAll (wsV RX10 139 RX8 yX8_hearingHouses wsX8_hearingHouses) := goodIn_app (goodIn_of _ (by decide +kernel)) ggX10_toldOfAll_X8_hearingHouses
theorem dX10_toldOfAll_0 : decode cX10_toldOfAll 0 = .ok (.aload_n 0, 1) := by decide +kernel
theorem dX10_toldOfAll_1 : decode cX10_toldOfAll 1 = .ok (.invokevirtual 133, 3) := by decide +kernel
theorem dX10_toldOfAll_4 : decode cX10_toldOfAll 4 = .ok (.iload_n 1, 1) := by decide +kernel
theorem dX10_toldOfAll_5 : decode cX10_toldOfAll 5 = .ok (.tableswitch 144 0 10 #[59, 67, 75, 83, 91, 99, 107, 115, 123, 131, 139], 59) := by decide +kernel
theorem dX10_toldOfAll_64 : decode cX10_toldOfAll 64 = .ok (.aload_n 0, 1) := by decide +kernel
theorem dX10_toldOfAll_65 : decode cX10_toldOfAll 65 = .ok (.getfield 19, 3) := by decide +kernel
theorem dX10_toldOfAll_68 : decode cX10_toldOfAll 68 = .ok (.getfield 89, 3) := by decide +kernel
theorem dX10_toldOfAll_71 : decode cX10_toldOfAll 71 = .ok (.ireturn, 1) := by decide +kernel
theorem dX10_toldOfAll_72 : decode cX10_toldOfAll 72 = .ok (.aload_n 0, 1) := by decide +kernel
theorem dX10_toldOfAll_73 : decode cX10_toldOfAll 73 = .ok (.getfield 19, 3) := by decide +kernel
theorem dX10_toldOfAll_76 : decode cX10_toldOfAll 76 = .ok (.getfield 216, 3) := by decide +kernel
theorem dX10_toldOfAll_79 : decode cX10_toldOfAll 79 = .ok (.ireturn, 1) := by decide +kernel
theorem dX10_toldOfAll_80 : decode cX10_toldOfAll 80 = .ok (.aload_n 0, 1) := by decide +kernel
theorem dX10_toldOfAll_81 : decode cX10_toldOfAll 81 = .ok (.getfield 26, 3) := by decide +kernel
theorem dX10_toldOfAll_84 : decode cX10_toldOfAll 84 = .ok (.getfield 142, 3) := by decide +kernel
theorem dX10_toldOfAll_87 : decode cX10_toldOfAll 87 = .ok (.ireturn, 1) := by decide +kernel
theorem dX10_toldOfAll_88 : decode cX10_toldOfAll 88 = .ok (.aload_n 0, 1) := by decide +kernel
theorem dX10_toldOfAll_89 : decode cX10_toldOfAll 89 = .ok (.getfield 26, 3) := by decide +kernel
theorem dX10_toldOfAll_92 : decode cX10_toldOfAll 92 = .ok (.getfield 145, 3) := by decide +kernel
theorem dX10_toldOfAll_95 : decode cX10_toldOfAll 95 = .ok (.ireturn, 1) := by decide +kernel
theorem dX10_toldOfAll_96 : decode cX10_toldOfAll 96 = .ok (.aload_n 0, 1) := by decide +kernel
theorem dX10_toldOfAll_97 : decode cX10_toldOfAll 97 = .ok (.getfield 26, 3) := by decide +kernel
theorem dX10_toldOfAll_100 : decode cX10_toldOfAll 100 = .ok (.getfield 148, 3) := by decide +kernel
theorem dX10_toldOfAll_103 : decode cX10_toldOfAll 103 = .ok (.ireturn, 1) := by decide +kernel
theorem dX10_toldOfAll_104 : decode cX10_toldOfAll 104 = .ok (.aload_n 0, 1) := by decide +kernel
theorem dX10_toldOfAll_105 : decode cX10_toldOfAll 105 = .ok (.getfield 38, 3) := by decide +kernel
theorem dX10_toldOfAll_108 : decode cX10_toldOfAll 108 = .ok (.invokevirtual 136, 3) := by decide +kernel
theorem dX10_toldOfAll_111 : decode cX10_toldOfAll 111 = .ok (.ireturn, 1) := by decide +kernel
theorem dX10_toldOfAll_112 : decode cX10_toldOfAll 112 = .ok (.aload_n 0, 1) := by decide +kernel
theorem dX10_toldOfAll_113 : decode cX10_toldOfAll 113 = .ok (.getfield 38, 3) := by decide +kernel
theorem dX10_toldOfAll_116 : decode cX10_toldOfAll 116 = .ok (.invokevirtual 139, 3) := by decide +kernel
theorem dX10_toldOfAll_119 : decode cX10_toldOfAll 119 = .ok (.ireturn, 1) := by decide +kernel
theorem dX10_toldOfAll_120 : decode cX10_toldOfAll 120 = .ok (.aload_n 0, 1) := by decide +kernel
theorem dX10_toldOfAll_121 : decode cX10_toldOfAll 121 = .ok (.getfield 38, 3) := by decide +kernel
theorem dX10_toldOfAll_124 : decode cX10_toldOfAll 124 = .ok (.getfield 219, 3) := by decide +kernel
theorem dX10_toldOfAll_127 : decode cX10_toldOfAll 127 = .ok (.ireturn, 1) := by decide +kernel
theorem dX10_toldOfAll_128 : decode cX10_toldOfAll 128 = .ok (.aload_n 0, 1) := by decide +kernel
theorem dX10_toldOfAll_129 : decode cX10_toldOfAll 129 = .ok (.getfield 26, 3) := by decide +kernel
theorem dX10_toldOfAll_132 : decode cX10_toldOfAll 132 = .ok (.getfield 163, 3) := by decide +kernel
theorem dX10_toldOfAll_135 : decode cX10_toldOfAll 135 = .ok (.ireturn, 1) := by decide +kernel
theorem dX10_toldOfAll_136 : decode cX10_toldOfAll 136 = .ok (.aload_n 0, 1) := by decide +kernel
theorem dX10_toldOfAll_137 : decode cX10_toldOfAll 137 = .ok (.getfield 10, 3) := by decide +kernel
theorem dX10_toldOfAll_140 : decode cX10_toldOfAll 140 = .ok (.getfield 74, 3) := by decide +kernel
theorem dX10_toldOfAll_143 : decode cX10_toldOfAll 143 = .ok (.ireturn, 1) := by decide +kernel
theorem dX10_toldOfAll_144 : decode cX10_toldOfAll 144 = .ok (.aload_n 0, 1) := by decide +kernel
theorem dX10_toldOfAll_145 : decode cX10_toldOfAll 145 = .ok (.getfield 63, 3) := by decide +kernel
theorem dX10_toldOfAll_148 : decode cX10_toldOfAll 148 = .ok (.ireturn, 1) := by decide +kernel
theorem dX10_toldOfAll_149 : decode cX10_toldOfAll 149 = .ok (.aload_n 0, 1) := by decide +kernel
theorem dX10_toldOfAll_150 : decode cX10_toldOfAll 150 = .ok (.getfield 67, 3) := by decide +kernel
theorem dX10_toldOfAll_153 : decode cX10_toldOfAll 153 = .ok (.ireturn, 1) := by decide +kernel
theorem dX10_isOfKind_0 : decode cX10_isOfKind 0 = .ok (.iload_n 1, 1) := by decide +kernel
theorem dX10_isOfKind_1 : decode cX10_isOfKind 1 = .ok (.tableswitch 48 0 3 #[31, 33, 38, 43], 31) := by decide +kernel
theorem dX10_isOfKind_32 : decode cX10_isOfKind 32 = .ok (.iconst 1, 1) := by decide +kernel
theorem dX10_isOfKind_33 : decode cX10_isOfKind 33 = .ok (.ireturn, 1) := by decide +kernel
theorem dX10_isOfKind_34 : decode cX10_isOfKind 34 = .ok (.aload_n 0, 1) := by decide +kernel
theorem dX10_isOfKind_35 : decode cX10_isOfKind 35 = .ok (.instanceof 222, 3) := by decide +kernel
theorem dX10_isOfKind_38 : decode cX10_isOfKind 38 = .ok (.ireturn, 1) := by decide +kernel
theorem dX10_isOfKind_39 : decode cX10_isOfKind 39 = .ok (.aload_n 0, 1) := by decide +kernel
theorem dX10_isOfKind_40 : decode cX10_isOfKind 40 = .ok (.instanceof 224, 3) := by decide +kernel
theorem dX10_isOfKind_43 : decode cX10_isOfKind 43 = .ok (.ireturn, 1) := by decide +kernel
theorem dX10_isOfKind_44 : decode cX10_isOfKind 44 = .ok (.aload_n 0, 1) := by decide +kernel
theorem dX10_isOfKind_45 : decode cX10_isOfKind 45 = .ok (.instanceof 226, 3) := by decide +kernel
theorem dX10_isOfKind_48 : decode cX10_isOfKind 48 = .ok (.ireturn, 1) := by decide +kernel
theorem dX10_isOfKind_49 : decode cX10_isOfKind 49 = .ok (.aload_n 0, 1) := by decide +kernel
theorem dX10_isOfKind_50 : decode cX10_isOfKind 50 = .ok (.instanceof 228, 3) := by decide +kernel
theorem dX10_isOfKind_53 : decode cX10_isOfKind 53 = .ok (.ireturn, 1) := by decide +kernel
set_option maxRecDepth 20000 in
theorem ggX10_longestHarmless_X8_go : GoodIn wsX10_longestHarmless wsX8_go := goodIn_r _ [15, 16, 17, 18, 19, 20, 21, 22, 23, 24, 25, 26, 27, 28, 29, 30, 31, 32, 33, 34, 35, 36, 37, 38, 39, 40, 41, 42, 43, 44, 45, 46, 47, 48, 49, 50, 51, 52, 53, 54, 55, 56, 57, 58, 59, 60, 134, 135, 136, 137, 138, 139, 140, 141, 142, 143, 144] (by decide +kernel) (by decide +kernel)
set_option maxRecDepth 20000 in
theorem gX10_longestHarmless_X8_go : GoodIn wsX10_longestHarmless (wsV RX10 178 RX8 yX8_go wsX8_go) := goodIn_app (goodIn_of _ (by decide +kernel)) ggX10_longestHarmless_X8_go
set_option maxRecDepth 20000 in
theorem ggX10_longestHarmless_X8_wrongs : GoodIn wsX10_longestHarmless wsX8_wrongs := goodIn_r _ [64, 65, 66, 67, 14, 68, 16, 17, 69, 70, 71, 72, 18, 73, 74, 75, 76, 77, 78, 79, 36, 80, 81, 82, 83, 46, 84, 85, 86, 87, 88, 89, 90, 91, 92, 93, 94, 95, 96, 97, 98, 99, 100, 101, 102, 103, 104, 105, 106, 107, 108, 109, 110, 111, 112, 134, 135, 136, 137, 138, 139, 140, 141, 142, 143, 144] (by decide +kernel) (by decide +kernel)
set_option maxRecDepth 20000 in
theorem gX10_longestHarmless_X8_wrongs : GoodIn wsX10_longestHarmless (wsV RX10 236 RX8 yX8_wrongs wsX8_wrongs) := goodIn_app (goodIn_of _ (by decide +kernel)) ggX10_longestHarmless_X8_wrongs
theorem dX10_longestHarmless_0 : decode cX10_longestHarmless 0 = .ok (.aload_n 0, 1) := by decide +kernel
theorem dX10_longestHarmless_1 : decode cX10_longestHarmless 1 = .ok (.getfield 26, 3) := by decide +kernel
theorem dX10_longestHarmless_4 : decode cX10_longestHarmless 4 = .ok (.getfield 110, 3) := by decide +kernel
theorem dX10_longestHarmless_7 : decode cX10_longestHarmless 7 = .ok (.iconst 0, 1) := by decide +kernel
theorem dX10_longestHarmless_8 : decode cX10_longestHarmless 8 = .ok (.aload_n 0, 1) := by decide +kernel
theorem dX10_longestHarmless_9 : decode cX10_longestHarmless 9 = .ok (.getfield 42, 3) := by decide +kernel
theorem dX10_longestHarmless_12 : decode cX10_longestHarmless 12 = .ok (.iconst 0, 1) := by decide +kernel
theorem dX10_longestHarmless_13 : decode cX10_longestHarmless 13 = .ok (.bipush 6, 2) := by decide +kernel
theorem dX10_longestHarmless_15 : decode cX10_longestHarmless 15 = .ok (.invokestatic 230, 3) := by decide +kernel
theorem dX10_longestHarmless_18 : decode cX10_longestHarmless 18 = .ok (.aload_n 0, 1) := by decide +kernel
theorem dX10_longestHarmless_19 : decode cX10_longestHarmless 19 = .ok (.getfield 42, 3) := by decide +kernel
theorem dX10_longestHarmless_22 : decode cX10_longestHarmless 22 = .ok (.iload_n 1, 1) := by decide +kernel
theorem dX10_longestHarmless_23 : decode cX10_longestHarmless 23 = .ok (.iconst 0, 1) := by decide +kernel
theorem dX10_longestHarmless_24 : decode cX10_longestHarmless 24 = .ok (.iastore, 1) := by decide +kernel
theorem dX10_longestHarmless_25 : decode cX10_longestHarmless 25 = .ok (.aload_n 0, 1) := by decide +kernel
theorem dX10_longestHarmless_26 : decode cX10_longestHarmless 26 = .ok (.getfield 38, 3) := by decide +kernel
theorem dX10_longestHarmless_29 : decode cX10_longestHarmless 29 = .ok (.aload_n 0, 1) := by decide +kernel
theorem dX10_longestHarmless_30 : decode cX10_longestHarmless 30 = .ok (.getfield 42, 3) := by decide +kernel
theorem dX10_longestHarmless_33 : decode cX10_longestHarmless 33 = .ok (.aload_n 0, 1) := by decide +kernel
theorem dX10_longestHarmless_34 : decode cX10_longestHarmless 34 = .ok (.getfield 26, 3) := by decide +kernel
theorem dX10_longestHarmless_37 : decode cX10_longestHarmless 37 = .ok (.getfield 123, 3) := by decide +kernel
theorem dX10_longestHarmless_40 : decode cX10_longestHarmless 40 = .ok (.aload_n 0, 1) := by decide +kernel
theorem dX10_longestHarmless_41 : decode cX10_longestHarmless 41 = .ok (.getfield 26, 3) := by decide +kernel
theorem dX10_longestHarmless_44 : decode cX10_longestHarmless 44 = .ok (.getfield 113, 3) := by decide +kernel
theorem dX10_longestHarmless_47 : decode cX10_longestHarmless 47 = .ok (.invokevirtual 178, 3) := by decide +kernel
theorem dX10_longestHarmless_50 : decode cX10_longestHarmless 50 = .ok (.aload_n 0, 1) := by decide +kernel
theorem dX10_longestHarmless_51 : decode cX10_longestHarmless 51 = .ok (.getfield 38, 3) := by decide +kernel
theorem dX10_longestHarmless_54 : decode cX10_longestHarmless 54 = .ok (.invokevirtual 236, 3) := by decide +kernel
theorem dX10_longestHarmless_57 : decode cX10_longestHarmless 57 = .ok (.istore_n 2, 1) := by decide +kernel
theorem dX10_longestHarmless_58 : decode cX10_longestHarmless 58 = .ok (.bipush 9, 2) := by decide +kernel
theorem dX10_longestHarmless_60 : decode cX10_longestHarmless 60 = .ok (.istore_n 3, 1) := by decide +kernel
theorem dX10_longestHarmless_61 : decode cX10_longestHarmless 61 = .ok (.iload_n 3, 1) := by decide +kernel
theorem dX10_longestHarmless_62 : decode cX10_longestHarmless 62 = .ok (.ifCond .le 54, 3) := by decide +kernel
theorem dX10_longestHarmless_65 : decode cX10_longestHarmless 65 = .ok (.aload_n 0, 1) := by decide +kernel
theorem dX10_longestHarmless_66 : decode cX10_longestHarmless 66 = .ok (.getfield 42, 3) := by decide +kernel
theorem dX10_longestHarmless_69 : decode cX10_longestHarmless 69 = .ok (.iload_n 1, 1) := by decide +kernel
theorem dX10_longestHarmless_70 : decode cX10_longestHarmless 70 = .ok (.iload_n 3, 1) := by decide +kernel
theorem dX10_longestHarmless_71 : decode cX10_longestHarmless 71 = .ok (.iastore, 1) := by decide +kernel
theorem dX10_longestHarmless_72 : decode cX10_longestHarmless 72 = .ok (.aload_n 0, 1) := by decide +kernel
theorem dX10_longestHarmless_73 : decode cX10_longestHarmless 73 = .ok (.getfield 38, 3) := by decide +kernel
theorem dX10_longestHarmless_76 : decode cX10_longestHarmless 76 = .ok (.aload_n 0, 1) := by decide +kernel
theorem dX10_longestHarmless_77 : decode cX10_longestHarmless 77 = .ok (.getfield 42, 3) := by decide +kernel
theorem dX10_longestHarmless_80 : decode cX10_longestHarmless 80 = .ok (.aload_n 0, 1) := by decide +kernel
theorem dX10_longestHarmless_81 : decode cX10_longestHarmless 81 = .ok (.getfield 26, 3) := by decide +kernel
theorem dX10_longestHarmless_84 : decode cX10_longestHarmless 84 = .ok (.getfield 123, 3) := by decide +kernel
theorem dX10_longestHarmless_87 : decode cX10_longestHarmless 87 = .ok (.aload_n 0, 1) := by decide +kernel
theorem dX10_longestHarmless_88 : decode cX10_longestHarmless 88 = .ok (.getfield 26, 3) := by decide +kernel
theorem dX10_longestHarmless_91 : decode cX10_longestHarmless 91 = .ok (.getfield 113, 3) := by decide +kernel
theorem dX10_longestHarmless_94 : decode cX10_longestHarmless 94 = .ok (.invokevirtual 178, 3) := by decide +kernel
theorem dX10_longestHarmless_97 : decode cX10_longestHarmless 97 = .ok (.aload_n 0, 1) := by decide +kernel
theorem dX10_longestHarmless_98 : decode cX10_longestHarmless 98 = .ok (.getfield 38, 3) := by decide +kernel
theorem dX10_longestHarmless_101 : decode cX10_longestHarmless 101 = .ok (.invokevirtual 236, 3) := by decide +kernel
theorem dX10_longestHarmless_104 : decode cX10_longestHarmless 104 = .ok (.iload_n 2, 1) := by decide +kernel
theorem dX10_longestHarmless_105 : decode cX10_longestHarmless 105 = .ok (.if_icmp .gt 5, 3) := by decide +kernel
theorem dX10_longestHarmless_108 : decode cX10_longestHarmless 108 = .ok (.iload_n 3, 1) := by decide +kernel
theorem dX10_longestHarmless_109 : decode cX10_longestHarmless 109 = .ok (.ireturn, 1) := by decide +kernel
theorem dX10_longestHarmless_110 : decode cX10_longestHarmless 110 = .ok (.iinc 3 (-1), 3) := by decide +kernel
theorem dX10_longestHarmless_113 : decode cX10_longestHarmless 113 = .ok (.goto (-52), 3) := by decide +kernel
theorem dX10_longestHarmless_116 : decode cX10_longestHarmless 116 = .ok (.iconst 0, 1) := by decide +kernel
theorem dX10_longestHarmless_117 : decode cX10_longestHarmless 117 = .ok (.ireturn, 1) := by decide +kernel
set_option maxRecDepth 20000 in
theorem ggX10_findBestOrder_X8_go : GoodIn wsX10_findBestOrder wsX8_go := goodIn_r _ [17, 18, 19, 20, 21, 22, 23, 24, 25, 26, 27, 28, 29, 30, 31, 32, 33, 34, 35, 36, 37, 38, 39, 40, 41, 42, 43, 44, 45, 46, 47, 48, 49, 50, 51, 52, 53, 54, 55, 56, 57, 58, 59, 60, 61, 62, 150, 151, 152, 142, 143, 144, 145, 146, 147, 148, 149] (by decide +kernel) (by decide +kernel)
set_option maxRecDepth 20000 in
theorem gX10_findBestOrder_X8_go : GoodIn wsX10_findBestOrder (wsV RX10 178 RX8 yX8_go wsX8_go) := goodIn_app (goodIn_of _ (by decide +kernel)) ggX10_findBestOrder_X8_go
set_option maxRecDepth 20000 in
theorem ggX10_findBestOrder_X8_wrongs : GoodIn wsX10_findBestOrder wsX8_wrongs := goodIn_r _ [66, 67, 68, 69, 16, 70, 18, 19, 71, 72, 73, 74, 20, 75, 76, 77, 78, 79, 80, 81, 38, 82, 83, 84, 85, 48, 86, 87, 88, 89, 90, 91, 92, 93, 94, 95, 96, 97, 98, 99, 100, 101, 102, 103, 104, 105, 106, 107, 108, 109, 110, 111, 112, 113, 114, 150, 151, 152, 142, 143, 144, 145, 146, 147, 148, 149] (by decide +kernel) (by decide +kernel)
set_option maxRecDepth 20000 in
theorem gX10_findBestOrder_X8_wrongs : GoodIn wsX10_findBestOrder (wsV RX10 236 RX8 yX8_wrongs wsX8_wrongs) := goodIn_app (goodIn_of _ (by decide +kernel)) ggX10_findBestOrder_X8_wrongs
set_option maxRecDepth 20000 in
theorem ggX10_findBestOrder_X10_advance : GoodIn wsX10_findBestOrder wsX10_advance := goodIn_r _ [117, 118, 119, 61, 120] (by decide +kernel) (by decide +kernel)
set_option maxRecDepth 20000 in
theorem gX10_findBestOrder_X10_advance : GoodIn wsX10_findBestOrder (va_wsS RX10 239 yX10_advance wsX10_advance) := goodIn_app (goodIn_of _ (by decide +kernel)) ggX10_findBestOrder_X10_advance
theorem dX10_findBestOrder_0 : decode cX10_findBestOrder 0 = .ok (.iconst 0, 1) := by decide +kernel
theorem dX10_findBestOrder_1 : decode cX10_findBestOrder 1 = .ok (.istore_n 1, 1) := by decide +kernel
theorem dX10_findBestOrder_2 : decode cX10_findBestOrder 2 = .ok (.iload_n 1, 1) := by decide +kernel
theorem dX10_findBestOrder_3 : decode cX10_findBestOrder 3 = .ok (.bipush 6, 2) := by decide +kernel
theorem dX10_findBestOrder_5 : decode cX10_findBestOrder 5 = .ok (.if_icmp .ge 16, 3) := by decide +kernel
theorem dX10_findBestOrder_8 : decode cX10_findBestOrder 8 = .ok (.aload_n 0, 1) := by decide +kernel
theorem dX10_findBestOrder_9 : decode cX10_findBestOrder 9 = .ok (.getfield 46, 3) := by decide +kernel
theorem dX10_findBestOrder_12 : decode cX10_findBestOrder 12 = .ok (.iload_n 1, 1) := by decide +kernel
theorem dX10_findBestOrder_13 : decode cX10_findBestOrder 13 = .ok (.iload_n 1, 1) := by decide +kernel
theorem dX10_findBestOrder_14 : decode cX10_findBestOrder 14 = .ok (.iastore, 1) := by decide +kernel
theorem dX10_findBestOrder_15 : decode cX10_findBestOrder 15 = .ok (.iinc 1 1, 3) := by decide +kernel
theorem dX10_findBestOrder_18 : decode cX10_findBestOrder 18 = .ok (.goto (-16), 3) := by decide +kernel
theorem dX10_findBestOrder_21 : decode cX10_findBestOrder 21 = .ok (.bipush 13, 2) := by decide +kernel
theorem dX10_findBestOrder_23 : decode cX10_findBestOrder 23 = .ok (.istore_n 1, 1) := by decide +kernel
theorem dX10_findBestOrder_24 : decode cX10_findBestOrder 24 = .ok (.iconst 1, 1) := by decide +kernel
theorem dX10_findBestOrder_25 : decode cX10_findBestOrder 25 = .ok (.istore_n 2, 1) := by decide +kernel
theorem dX10_findBestOrder_26 : decode cX10_findBestOrder 26 = .ok (.iconst 0, 1) := by decide +kernel
theorem dX10_findBestOrder_27 : decode cX10_findBestOrder 27 = .ok (.istore_n 3, 1) := by decide +kernel
theorem dX10_findBestOrder_28 : decode cX10_findBestOrder 28 = .ok (.iload_n 2, 1) := by decide +kernel
theorem dX10_findBestOrder_29 : decode cX10_findBestOrder 29 = .ok (.ifCond .eq 89, 3) := by decide +kernel
theorem dX10_findBestOrder_32 : decode cX10_findBestOrder 32 = .ok (.iload_n 3, 1) := by decide +kernel
theorem dX10_findBestOrder_33 : decode cX10_findBestOrder 33 = .ok (.sipush 720, 3) := by decide +kernel
theorem dX10_findBestOrder_36 : decode cX10_findBestOrder 36 = .ok (.if_icmp .ge 82, 3) := by decide +kernel
theorem dX10_findBestOrder_39 : decode cX10_findBestOrder 39 = .ok (.aload_n 0, 1) := by decide +kernel
theorem dX10_findBestOrder_40 : decode cX10_findBestOrder 40 = .ok (.getfield 38, 3) := by decide +kernel
theorem dX10_findBestOrder_43 : decode cX10_findBestOrder 43 = .ok (.aload_n 0, 1) := by decide +kernel
theorem dX10_findBestOrder_44 : decode cX10_findBestOrder 44 = .ok (.getfield 26, 3) := by decide +kernel
theorem dX10_findBestOrder_47 : decode cX10_findBestOrder 47 = .ok (.getfield 110, 3) := by decide +kernel
theorem dX10_findBestOrder_50 : decode cX10_findBestOrder 50 = .ok (.aload_n 0, 1) := by decide +kernel
theorem dX10_findBestOrder_51 : decode cX10_findBestOrder 51 = .ok (.getfield 46, 3) := by decide +kernel
theorem dX10_findBestOrder_54 : decode cX10_findBestOrder 54 = .ok (.aload_n 0, 1) := by decide +kernel
theorem dX10_findBestOrder_55 : decode cX10_findBestOrder 55 = .ok (.getfield 26, 3) := by decide +kernel
theorem dX10_findBestOrder_58 : decode cX10_findBestOrder 58 = .ok (.getfield 113, 3) := by decide +kernel
theorem dX10_findBestOrder_61 : decode cX10_findBestOrder 61 = .ok (.invokevirtual 178, 3) := by decide +kernel
theorem dX10_findBestOrder_64 : decode cX10_findBestOrder 64 = .ok (.aload_n 0, 1) := by decide +kernel
theorem dX10_findBestOrder_65 : decode cX10_findBestOrder 65 = .ok (.getfield 38, 3) := by decide +kernel
theorem dX10_findBestOrder_68 : decode cX10_findBestOrder 68 = .ok (.invokevirtual 236, 3) := by decide +kernel
theorem dX10_findBestOrder_71 : decode cX10_findBestOrder 71 = .ok (.istore 4, 2) := by decide +kernel
theorem dX10_findBestOrder_73 : decode cX10_findBestOrder 73 = .ok (.iload 4, 2) := by decide +kernel
theorem dX10_findBestOrder_75 : decode cX10_findBestOrder 75 = .ok (.iload_n 1, 1) := by decide +kernel
theorem dX10_findBestOrder_76 : decode cX10_findBestOrder 76 = .ok (.if_icmp .ge 21, 3) := by decide +kernel
theorem dX10_findBestOrder_79 : decode cX10_findBestOrder 79 = .ok (.iload 4, 2) := by decide +kernel
theorem dX10_findBestOrder_81 : decode cX10_findBestOrder 81 = .ok (.istore_n 1, 1) := by decide +kernel
theorem dX10_findBestOrder_82 : decode cX10_findBestOrder 82 = .ok (.aload_n 0, 1) := by decide +kernel
theorem dX10_findBestOrder_83 : decode cX10_findBestOrder 83 = .ok (.getfield 46, 3) := by decide +kernel
theorem dX10_findBestOrder_86 : decode cX10_findBestOrder 86 = .ok (.iconst 0, 1) := by decide +kernel
theorem dX10_findBestOrder_87 : decode cX10_findBestOrder 87 = .ok (.aload_n 0, 1) := by decide +kernel
theorem dX10_findBestOrder_88 : decode cX10_findBestOrder 88 = .ok (.getfield 49, 3) := by decide +kernel
theorem dX10_findBestOrder_91 : decode cX10_findBestOrder 91 = .ok (.iconst 0, 1) := by decide +kernel
theorem dX10_findBestOrder_92 : decode cX10_findBestOrder 92 = .ok (.bipush 6, 2) := by decide +kernel
theorem dX10_findBestOrder_94 : decode cX10_findBestOrder 94 = .ok (.invokestatic 230, 3) := by decide +kernel
theorem dX10_findBestOrder_97 : decode cX10_findBestOrder 97 = .ok (.aload_n 0, 1) := by decide +kernel
theorem dX10_findBestOrder_98 : decode cX10_findBestOrder 98 = .ok (.getfield 46, 3) := by decide +kernel
theorem dX10_findBestOrder_101 : decode cX10_findBestOrder 101 = .ok (.aload_n 0, 1) := by decide +kernel
theorem dX10_findBestOrder_102 : decode cX10_findBestOrder 102 = .ok (.getfield 19, 3) := by decide +kernel
theorem dX10_findBestOrder_105 : decode cX10_findBestOrder 105 = .ok (.getfield 89, 3) := by decide +kernel
theorem dX10_findBestOrder_108 : decode cX10_findBestOrder 108 = .ok (.invokestatic 239, 3) := by decide +kernel
theorem dX10_findBestOrder_111 : decode cX10_findBestOrder 111 = .ok (.istore_n 2, 1) := by decide +kernel
theorem dX10_findBestOrder_112 : decode cX10_findBestOrder 112 = .ok (.iinc 3 1, 3) := by decide +kernel
theorem dX10_findBestOrder_115 : decode cX10_findBestOrder 115 = .ok (.goto (-87), 3) := by decide +kernel
theorem dX10_findBestOrder_118 : decode cX10_findBestOrder 118 = .ok (.iload_n 1, 1) := by decide +kernel
theorem dX10_findBestOrder_119 : decode cX10_findBestOrder 119 = .ok (.ireturn, 1) := by decide +kernel
set_option maxRecDepth 20000 in
theorem ggX10_advance_X10_exchange : GoodIn wsX10_advance wsX10_exchange := goodIn_r _ [4] (by decide +kernel) (by decide +kernel)
set_option maxRecDepth 20000 in
theorem gX10_advance_X10_exchange : GoodIn wsX10_advance (va_wsS RX10 126 yX10_exchange wsX10_exchange) := goodIn_app (goodIn_of _ (by decide +kernel)) ggX10_advance_X10_exchange
theorem dX10_advance_0 : decode cX10_advance 0 = .ok (.iload_n 1, 1) := by decide +kernel
theorem dX10_advance_1 : decode cX10_advance 1 = .ok (.iconst 2, 1) := by decide +kernel
theorem dX10_advance_2 : decode cX10_advance 2 = .ok (.isub, 1) := by decide +kernel
theorem dX10_advance_3 : decode cX10_advance 3 = .ok (.istore_n 2, 1) := by decide +kernel
theorem dX10_advance_4 : decode cX10_advance 4 = .ok (.iload_n 2, 1) := by decide +kernel
theorem dX10_advance_5 : decode cX10_advance 5 = .ok (.ifCond .lt 20, 3) := by decide +kernel
theorem dX10_advance_8 : decode cX10_advance 8 = .ok (.aload_n 0, 1) := by decide +kernel
theorem dX10_advance_9 : decode cX10_advance 9 = .ok (.iload_n 2, 1) := by decide +kernel
theorem dX10_advance_10 : decode cX10_advance 10 = .ok (.iaload, 1) := by decide +kernel
theorem dX10_advance_11 : decode cX10_advance 11 = .ok (.aload_n 0, 1) := by decide +kernel
theorem dX10_advance_12 : decode cX10_advance 12 = .ok (.iload_n 2, 1) := by decide +kernel
theorem dX10_advance_13 : decode cX10_advance 13 = .ok (.iconst 1, 1) := by decide +kernel
theorem dX10_advance_14 : decode cX10_advance 14 = .ok (.iadd, 1) := by decide +kernel
theorem dX10_advance_15 : decode cX10_advance 15 = .ok (.iaload, 1) := by decide +kernel
theorem dX10_advance_16 : decode cX10_advance 16 = .ok (.if_icmp .le 9, 3) := by decide +kernel
theorem dX10_advance_19 : decode cX10_advance 19 = .ok (.iinc 2 (-1), 3) := by decide +kernel
theorem dX10_advance_22 : decode cX10_advance 22 = .ok (.goto (-18), 3) := by decide +kernel
theorem dX10_advance_25 : decode cX10_advance 25 = .ok (.iload_n 2, 1) := by decide +kernel
theorem dX10_advance_26 : decode cX10_advance 26 = .ok (.ifCond .ge 5, 3) := by decide +kernel
theorem dX10_advance_29 : decode cX10_advance 29 = .ok (.iconst 0, 1) := by decide +kernel
theorem dX10_advance_30 : decode cX10_advance 30 = .ok (.ireturn, 1) := by decide +kernel
theorem dX10_advance_31 : decode cX10_advance 31 = .ok (.iload_n 1, 1) := by decide +kernel
theorem dX10_advance_32 : decode cX10_advance 32 = .ok (.iconst 1, 1) := by decide +kernel
theorem dX10_advance_33 : decode cX10_advance 33 = .ok (.isub, 1) := by decide +kernel
theorem dX10_advance_34 : decode cX10_advance 34 = .ok (.istore_n 3, 1) := by decide +kernel
theorem dX10_advance_35 : decode cX10_advance 35 = .ok (.iload_n 3, 1) := by decide +kernel
theorem dX10_advance_36 : decode cX10_advance 36 = .ok (.iload_n 2, 1) := by decide +kernel
theorem dX10_advance_37 : decode cX10_advance 37 = .ok (.iconst 1, 1) := by decide +kernel
theorem dX10_advance_38 : decode cX10_advance 38 = .ok (.iadd, 1) := by decide +kernel
theorem dX10_advance_39 : decode cX10_advance 39 = .ok (.if_icmp .le 18, 3) := by decide +kernel
theorem dX10_advance_42 : decode cX10_advance 42 = .ok (.aload_n 0, 1) := by decide +kernel
theorem dX10_advance_43 : decode cX10_advance 43 = .ok (.iload_n 3, 1) := by decide +kernel
theorem dX10_advance_44 : decode cX10_advance 44 = .ok (.iaload, 1) := by decide +kernel
theorem dX10_advance_45 : decode cX10_advance 45 = .ok (.aload_n 0, 1) := by decide +kernel
theorem dX10_advance_46 : decode cX10_advance 46 = .ok (.iload_n 2, 1) := by decide +kernel
theorem dX10_advance_47 : decode cX10_advance 47 = .ok (.iaload, 1) := by decide +kernel
theorem dX10_advance_48 : decode cX10_advance 48 = .ok (.if_icmp .ge 9, 3) := by decide +kernel
theorem dX10_advance_51 : decode cX10_advance 51 = .ok (.iinc 3 (-1), 3) := by decide +kernel
theorem dX10_advance_54 : decode cX10_advance 54 = .ok (.goto (-19), 3) := by decide +kernel
theorem dX10_advance_57 : decode cX10_advance 57 = .ok (.aload_n 0, 1) := by decide +kernel
theorem dX10_advance_58 : decode cX10_advance 58 = .ok (.iload_n 2, 1) := by decide +kernel
theorem dX10_advance_59 : decode cX10_advance 59 = .ok (.iload_n 3, 1) := by decide +kernel
theorem dX10_advance_60 : decode cX10_advance 60 = .ok (.invokestatic 126, 3) := by decide +kernel
theorem dX10_advance_63 : decode cX10_advance 63 = .ok (.iload_n 1, 1) := by decide +kernel
theorem dX10_advance_64 : decode cX10_advance 64 = .ok (.iconst 1, 1) := by decide +kernel
theorem dX10_advance_65 : decode cX10_advance 65 = .ok (.isub, 1) := by decide +kernel
theorem dX10_advance_66 : decode cX10_advance 66 = .ok (.istore 4, 2) := by decide +kernel
theorem dX10_advance_68 : decode cX10_advance 68 = .ok (.iload_n 2, 1) := by decide +kernel
theorem dX10_advance_69 : decode cX10_advance 69 = .ok (.iconst 1, 1) := by decide +kernel
theorem dX10_advance_70 : decode cX10_advance 70 = .ok (.iadd, 1) := by decide +kernel
theorem dX10_advance_71 : decode cX10_advance 71 = .ok (.istore 5, 2) := by decide +kernel
theorem dX10_advance_73 : decode cX10_advance 73 = .ok (.iload 5, 2) := by decide +kernel
theorem dX10_advance_75 : decode cX10_advance 75 = .ok (.iload 4, 2) := by decide +kernel
theorem dX10_advance_77 : decode cX10_advance 77 = .ok (.if_icmp .ge 20, 3) := by decide +kernel
theorem dX10_advance_80 : decode cX10_advance 80 = .ok (.aload_n 0, 1) := by decide +kernel
theorem dX10_advance_81 : decode cX10_advance 81 = .ok (.iload 5, 2) := by decide +kernel
theorem dX10_advance_83 : decode cX10_advance 83 = .ok (.iload 4, 2) := by decide +kernel
theorem dX10_advance_85 : decode cX10_advance 85 = .ok (.invokestatic 126, 3) := by decide +kernel
theorem dX10_advance_88 : decode cX10_advance 88 = .ok (.iinc 4 (-1), 3) := by decide +kernel
theorem dX10_advance_91 : decode cX10_advance 91 = .ok (.iinc 5 1, 3) := by decide +kernel
theorem dX10_advance_94 : decode cX10_advance 94 = .ok (.goto (-21), 3) := by decide +kernel
theorem dX10_advance_97 : decode cX10_advance 97 = .ok (.iconst 1, 1) := by decide +kernel
theorem dX10_advance_98 : decode cX10_advance 98 = .ok (.ireturn, 1) := by decide +kernel
theorem dX10_exchange_0 : decode cX10_exchange 0 = .ok (.aload_n 0, 1) := by decide +kernel
theorem dX10_exchange_1 : decode cX10_exchange 1 = .ok (.iload_n 1, 1) := by decide +kernel
theorem dX10_exchange_2 : decode cX10_exchange 2 = .ok (.iaload, 1) := by decide +kernel
theorem dX10_exchange_3 : decode cX10_exchange 3 = .ok (.istore_n 3, 1) := by decide +kernel
theorem dX10_exchange_4 : decode cX10_exchange 4 = .ok (.aload_n 0, 1) := by decide +kernel
theorem dX10_exchange_5 : decode cX10_exchange 5 = .ok (.iload_n 1, 1) := by decide +kernel
theorem dX10_exchange_6 : decode cX10_exchange 6 = .ok (.aload_n 0, 1) := by decide +kernel
theorem dX10_exchange_7 : decode cX10_exchange 7 = .ok (.iload_n 2, 1) := by decide +kernel
theorem dX10_exchange_8 : decode cX10_exchange 8 = .ok (.iaload, 1) := by decide +kernel
theorem dX10_exchange_9 : decode cX10_exchange 9 = .ok (.iastore, 1) := by decide +kernel
theorem dX10_exchange_10 : decode cX10_exchange 10 = .ok (.aload_n 0, 1) := by decide +kernel
theorem dX10_exchange_11 : decode cX10_exchange 11 = .ok (.iload_n 2, 1) := by decide +kernel
theorem dX10_exchange_12 : decode cX10_exchange 12 = .ok (.iload_n 3, 1) := by decide +kernel
theorem dX10_exchange_13 : decode cX10_exchange 13 = .ok (.iastore, 1) := by decide +kernel
theorem dX10_exchange_14 : decode cX10_exchange 14 = .ok (.return_, 1) := by decide +kernel
theorem dX10_bitOf_0 : decode cX10_bitOf 0 = .ok (.iload_n 0, 1) := by decide +kernel
theorem dX10_bitOf_1 : decode cX10_bitOf 1 = .ok (.iload_n 1, 1) := by decide +kernel
theorem dX10_bitOf_2 : decode cX10_bitOf 2 = .ok (.ishr, 1) := by decide +kernel
theorem dX10_bitOf_3 : decode cX10_bitOf 3 = .ok (.iconst 1, 1) := by decide +kernel
theorem dX10_bitOf_4 : decode cX10_bitOf 4 = .ok (.iand, 1) := by decide +kernel
theorem dX10_bitOf_5 : decode cX10_bitOf 5 = .ok (.ireturn, 1) := by decide +kernel
set_option maxRecDepth 20000 in
theorem ggX10_canHaveBeen_X8_go : GoodIn wsX10_canHaveBeen wsX8_go := goodIn_r _ [14, 15, 16, 17, 18, 19, 20, 21, 22, 23, 24, 25, 26, 27, 28, 29, 30, 31, 32, 33, 34, 35, 36, 37, 38, 39, 40, 41, 42, 43, 44, 45, 46, 47, 48, 49, 50, 51, 52, 53, 54, 55, 56, 57, 58, 59, 82, 83, 84, 85, 86, 87, 88, 89, 90, 91, 92] (by decide +kernel) (by decide +kernel)
set_option maxRecDepth 20000 in
theorem gX10_canHaveBeen_X8_go : GoodIn wsX10_canHaveBeen (wsV RX10 178 RX8 yX8_go wsX8_go) := goodIn_app (goodIn_of _ (by decide +kernel)) ggX10_canHaveBeen_X8_go
set_option maxRecDepth 20000 in
theorem ggX10_canHaveBeen_X6_has : GoodIn wsX10_canHaveBeen wsX6_has := goodIn_r _ [23, 24, 85, 86, 87, 88, 89, 90, 91, 92] (by decide +kernel) (by decide +kernel)
set_option maxRecDepth 20000 in
theorem gX10_canHaveBeen_X6_has : GoodIn wsX10_canHaveBeen (wsV RX10 94 RX6 yX6_has wsX6_has) := goodIn_app (goodIn_of _ (by decide +kernel)) ggX10_canHaveBeen_X6_has
theorem dX10_canHaveBeen_0 : decode cX10_canHaveBeen 0 = .ok (.aload_n 0, 1) := by decide +kernel
theorem dX10_canHaveBeen_1 : decode cX10_canHaveBeen 1 = .ok (.getfield 38, 3) := by decide +kernel
theorem dX10_canHaveBeen_4 : decode cX10_canHaveBeen 4 = .ok (.aload_n 0, 1) := by decide +kernel
theorem dX10_canHaveBeen_5 : decode cX10_canHaveBeen 5 = .ok (.getfield 26, 3) := by decide +kernel
theorem dX10_canHaveBeen_8 : decode cX10_canHaveBeen 8 = .ok (.getfield 110, 3) := by decide +kernel
theorem dX10_canHaveBeen_11 : decode cX10_canHaveBeen 11 = .ok (.aload_n 0, 1) := by decide +kernel
theorem dX10_canHaveBeen_12 : decode cX10_canHaveBeen 12 = .ok (.getfield 26, 3) := by decide +kernel
theorem dX10_canHaveBeen_15 : decode cX10_canHaveBeen 15 = .ok (.getfield 123, 3) := by decide +kernel
theorem dX10_canHaveBeen_18 : decode cX10_canHaveBeen 18 = .ok (.iload_n 1, 1) := by decide +kernel
theorem dX10_canHaveBeen_19 : decode cX10_canHaveBeen 19 = .ok (.invokevirtual 178, 3) := by decide +kernel
theorem dX10_canHaveBeen_22 : decode cX10_canHaveBeen 22 = .ok (.iconst 0, 1) := by decide +kernel
theorem dX10_canHaveBeen_23 : decode cX10_canHaveBeen 23 = .ok (.istore_n 2, 1) := by decide +kernel
theorem dX10_canHaveBeen_24 : decode cX10_canHaveBeen 24 = .ok (.iload_n 2, 1) := by decide +kernel
theorem dX10_canHaveBeen_25 : decode cX10_canHaveBeen 25 = .ok (.aload_n 0, 1) := by decide +kernel
theorem dX10_canHaveBeen_26 : decode cX10_canHaveBeen 26 = .ok (.getfield 26, 3) := by decide +kernel
theorem dX10_canHaveBeen_29 : decode cX10_canHaveBeen 29 = .ok (.getfield 163, 3) := by decide +kernel
theorem dX10_canHaveBeen_32 : decode cX10_canHaveBeen 32 = .ok (.if_icmp .ge 53, 3) := by decide +kernel
theorem dX10_canHaveBeen_35 : decode cX10_canHaveBeen 35 = .ok (.aload_n 0, 1) := by decide +kernel
theorem dX10_canHaveBeen_36 : decode cX10_canHaveBeen 36 = .ok (.getfield 26, 3) := by decide +kernel
theorem dX10_canHaveBeen_39 : decode cX10_canHaveBeen 39 = .ok (.getfield 243, 3) := by decide +kernel
theorem dX10_canHaveBeen_42 : decode cX10_canHaveBeen 42 = .ok (.iload_n 2, 1) := by decide +kernel
theorem dX10_canHaveBeen_43 : decode cX10_canHaveBeen 43 = .ok (.iaload, 1) := by decide +kernel
theorem dX10_canHaveBeen_44 : decode cX10_canHaveBeen 44 = .ok (.istore_n 3, 1) := by decide +kernel
theorem dX10_canHaveBeen_45 : decode cX10_canHaveBeen 45 = .ok (.aload_n 0, 1) := by decide +kernel
theorem dX10_canHaveBeen_46 : decode cX10_canHaveBeen 46 = .ok (.getfield 19, 3) := by decide +kernel
theorem dX10_canHaveBeen_49 : decode cX10_canHaveBeen 49 = .ok (.iload_n 3, 1) := by decide +kernel
theorem dX10_canHaveBeen_50 : decode cX10_canHaveBeen 50 = .ok (.invokevirtual 94, 3) := by decide +kernel
theorem dX10_canHaveBeen_53 : decode cX10_canHaveBeen 53 = .ok (.ifCond .eq 24, 3) := by decide +kernel
theorem dX10_canHaveBeen_56 : decode cX10_canHaveBeen 56 = .ok (.aload_n 0, 1) := by decide +kernel
theorem dX10_canHaveBeen_57 : decode cX10_canHaveBeen 57 = .ok (.getfield 38, 3) := by decide +kernel
theorem dX10_canHaveBeen_60 : decode cX10_canHaveBeen 60 = .ok (.getfield 204, 3) := by decide +kernel
theorem dX10_canHaveBeen_63 : decode cX10_canHaveBeen 63 = .ok (.iload_n 3, 1) := by decide +kernel
theorem dX10_canHaveBeen_64 : decode cX10_canHaveBeen 64 = .ok (.iaload, 1) := by decide +kernel
theorem dX10_canHaveBeen_65 : decode cX10_canHaveBeen 65 = .ok (.aload_n 0, 1) := by decide +kernel
theorem dX10_canHaveBeen_66 : decode cX10_canHaveBeen 66 = .ok (.getfield 26, 3) := by decide +kernel
theorem dX10_canHaveBeen_69 : decode cX10_canHaveBeen 69 = .ok (.getfield 246, 3) := by decide +kernel
theorem dX10_canHaveBeen_72 : decode cX10_canHaveBeen 72 = .ok (.iload_n 2, 1) := by decide +kernel
theorem dX10_canHaveBeen_73 : decode cX10_canHaveBeen 73 = .ok (.iaload, 1) := by decide +kernel
theorem dX10_canHaveBeen_74 : decode cX10_canHaveBeen 74 = .ok (.if_icmp .eq 5, 3) := by decide +kernel
theorem dX10_canHaveBeen_77 : decode cX10_canHaveBeen 77 = .ok (.iconst 0, 1) := by decide +kernel
theorem dX10_canHaveBeen_78 : decode cX10_canHaveBeen 78 = .ok (.ireturn, 1) := by decide +kernel
theorem dX10_canHaveBeen_79 : decode cX10_canHaveBeen 79 = .ok (.iinc 2 1, 3) := by decide +kernel
theorem dX10_canHaveBeen_82 : decode cX10_canHaveBeen 82 = .ok (.goto (-58), 3) := by decide +kernel
theorem dX10_canHaveBeen_85 : decode cX10_canHaveBeen 85 = .ok (.iconst 1, 1) := by decide +kernel
theorem dX10_canHaveBeen_86 : decode cX10_canHaveBeen 86 = .ok (.ireturn, 1) := by decide +kernel
set_option maxRecDepth 20000 in
theorem ggX10_howManySets_X10_canHaveBeen : GoodIn wsX10_howManySets wsX10_canHaveBeen := goodIn_r _ [7, 8, 9, 10, 11, 12, 13, 1, 14, 15, 16, 17, 18, 19, 20, 21, 22, 23, 24, 25, 26, 27, 28, 29, 30, 31, 32, 33, 34, 35, 36, 37, 38, 39, 40, 41, 42, 43, 44, 45, 46, 47, 48, 49, 50, 51, 52, 53, 54, 55, 56, 57, 58, 59, 60, 61, 62, 63, 6, 64, 65, 66, 67, 68, 69, 70, 71, 72, 73, 74, 75, 76, 77, 86, 87, 88, 89, 90, 91, 92, 93, 94, 95, 96, 97, 78, 79, 80, 81, 82, 83, 84, 85] (by decide +kernel) (by decide +kernel)
set_option maxRecDepth 20000 in
theorem gX10_howManySets_X10_canHaveBeen : GoodIn wsX10_howManySets (wsV RX10 249 RX10 yX10_canHaveBeen wsX10_canHaveBeen) := goodIn_app (goodIn_of _ (by decide +kernel)) ggX10_howManySets_X10_canHaveBeen
theorem dX10_howManySets_0 : decode cX10_howManySets 0 = .ok (.iconst 0, 1) := by decide +kernel
theorem dX10_howManySets_1 : decode cX10_howManySets 1 = .ok (.istore_n 1, 1) := by decide +kernel
theorem dX10_howManySets_2 : decode cX10_howManySets 2 = .ok (.iconst 0, 1) := by decide +kernel
theorem dX10_howManySets_3 : decode cX10_howManySets 3 = .ok (.istore_n 2, 1) := by decide +kernel
theorem dX10_howManySets_4 : decode cX10_howManySets 4 = .ok (.iload_n 2, 1) := by decide +kernel
theorem dX10_howManySets_5 : decode cX10_howManySets 5 = .ok (.iconst 1, 1) := by decide +kernel
theorem dX10_howManySets_6 : decode cX10_howManySets 6 = .ok (.aload_n 0, 1) := by decide +kernel
theorem dX10_howManySets_7 : decode cX10_howManySets 7 = .ok (.getfield 19, 3) := by decide +kernel
theorem dX10_howManySets_10 : decode cX10_howManySets 10 = .ok (.getfield 89, 3) := by decide +kernel
theorem dX10_howManySets_13 : decode cX10_howManySets 13 = .ok (.ishl, 1) := by decide +kernel
theorem dX10_howManySets_14 : decode cX10_howManySets 14 = .ok (.if_icmp .ge 20, 3) := by decide +kernel
theorem dX10_howManySets_17 : decode cX10_howManySets 17 = .ok (.aload_n 0, 1) := by decide +kernel
theorem dX10_howManySets_18 : decode cX10_howManySets 18 = .ok (.iload_n 2, 1) := by decide +kernel
theorem dX10_howManySets_19 : decode cX10_howManySets 19 = .ok (.invokevirtual 249, 3) := by decide +kernel
theorem dX10_howManySets_22 : decode cX10_howManySets 22 = .ok (.ifCond .eq 6, 3) := by decide +kernel
theorem dX10_howManySets_25 : decode cX10_howManySets 25 = .ok (.iinc 1 1, 3) := by decide +kernel
theorem dX10_howManySets_28 : decode cX10_howManySets 28 = .ok (.iinc 2 1, 3) := by decide +kernel
theorem dX10_howManySets_31 : decode cX10_howManySets 31 = .ok (.goto (-27), 3) := by decide +kernel
theorem dX10_howManySets_34 : decode cX10_howManySets 34 = .ok (.iload_n 1, 1) := by decide +kernel
theorem dX10_howManySets_35 : decode cX10_howManySets 35 = .ok (.ireturn, 1) := by decide +kernel
set_option maxRecDepth 20000 in
theorem ggX10_leastSet_X10_canHaveBeen : GoodIn wsX10_leastSet wsX10_canHaveBeen := goodIn_r _ [7, 8, 9, 10, 11, 12, 13, 1, 14, 15, 16, 17, 18, 19, 20, 21, 22, 23, 24, 25, 26, 27, 28, 29, 30, 31, 32, 33, 34, 35, 36, 37, 38, 39, 40, 41, 42, 43, 44, 45, 46, 47, 48, 49, 50, 51, 52, 53, 54, 55, 56, 57, 58, 59, 60, 61, 62, 63, 6, 64, 65, 66, 67, 68, 69, 70, 71, 72, 73, 74, 75, 76, 77, 86, 87, 88, 89, 90, 91, 92, 93, 94, 95, 96, 97, 78, 79, 80, 81, 82, 83, 84, 85] (by decide +kernel) (by decide +kernel)
set_option maxRecDepth 20000 in
theorem gX10_leastSet_X10_canHaveBeen : GoodIn wsX10_leastSet (wsV RX10 249 RX10 yX10_canHaveBeen wsX10_canHaveBeen) := goodIn_app (goodIn_of _ (by decide +kernel)) ggX10_leastSet_X10_canHaveBeen
theorem dX10_leastSet_0 : decode cX10_leastSet 0 = .ok (.iconst 0, 1) := by decide +kernel
theorem dX10_leastSet_1 : decode cX10_leastSet 1 = .ok (.istore_n 1, 1) := by decide +kernel
theorem dX10_leastSet_2 : decode cX10_leastSet 2 = .ok (.iload_n 1, 1) := by decide +kernel
theorem dX10_leastSet_3 : decode cX10_leastSet 3 = .ok (.iconst 1, 1) := by decide +kernel
theorem dX10_leastSet_4 : decode cX10_leastSet 4 = .ok (.aload_n 0, 1) := by decide +kernel
theorem dX10_leastSet_5 : decode cX10_leastSet 5 = .ok (.getfield 19, 3) := by decide +kernel
theorem dX10_leastSet_8 : decode cX10_leastSet 8 = .ok (.getfield 89, 3) := by decide +kernel
theorem dX10_leastSet_11 : decode cX10_leastSet 11 = .ok (.ishl, 1) := by decide +kernel
theorem dX10_leastSet_12 : decode cX10_leastSet 12 = .ok (.if_icmp .ge 19, 3) := by decide +kernel
theorem dX10_leastSet_15 : decode cX10_leastSet 15 = .ok (.aload_n 0, 1) := by decide +kernel
theorem dX10_leastSet_16 : decode cX10_leastSet 16 = .ok (.iload_n 1, 1) := by decide +kernel
theorem dX10_leastSet_17 : decode cX10_leastSet 17 = .ok (.invokevirtual 249, 3) := by decide +kernel
theorem dX10_leastSet_20 : decode cX10_leastSet 20 = .ok (.ifCond .eq 5, 3) := by decide +kernel
theorem dX10_leastSet_23 : decode cX10_leastSet 23 = .ok (.iload_n 1, 1) := by decide +kernel
theorem dX10_leastSet_24 : decode cX10_leastSet 24 = .ok (.ireturn, 1) := by decide +kernel
theorem dX10_leastSet_25 : decode cX10_leastSet 25 = .ok (.iinc 1 1, 3) := by decide +kernel
theorem dX10_leastSet_28 : decode cX10_leastSet 28 = .ok (.goto (-26), 3) := by decide +kernel
theorem dX10_leastSet_31 : decode cX10_leastSet 31 = .ok (.iconst (-1), 1) := by decide +kernel
theorem dX10_leastSet_32 : decode cX10_leastSet 32 = .ok (.ireturn, 1) := by decide +kernel
set_option maxRecDepth 20000 in
theorem ggX10_houseToAsk_X7_clear : GoodIn wsX10_houseToAsk wsX7_clear := goodIn_r _ [10, 11, 12, 109, 110] (by decide +kernel) (by decide +kernel)
set_option maxRecDepth 20000 in
theorem gX10_houseToAsk_X7_clear : GoodIn wsX10_houseToAsk (wsV RX10 252 RX7 yX7_clear wsX7_clear) := goodIn_app (goodIn_of _ (by decide +kernel)) ggX10_houseToAsk_X7_clear
set_option maxRecDepth 20000 in
theorem ggX10_houseToAsk_X10_canHaveBeen : GoodIn wsX10_houseToAsk wsX10_canHaveBeen := goodIn_r _ [17, 4, 18, 19, 20, 21, 22, 2, 5, 23, 24, 25, 26, 27, 28, 29, 30, 31, 32, 33, 34, 35, 36, 37, 38, 39, 40, 41, 42, 43, 44, 45, 46, 47, 48, 49, 50, 51, 52, 53, 54, 55, 56, 57, 58, 59, 60, 61, 62, 63, 64, 65, 66, 67, 68, 69, 70, 71, 16, 72, 73, 86, 87, 88, 89, 90, 91, 92, 93, 94, 95, 96, 97, 111, 112, 113, 114, 115, 116, 117, 118, 119, 106, 107, 108, 98, 99, 100, 101, 102, 103, 104, 105] (by decide +kernel) (by decide +kernel)
set_option maxRecDepth 20000 in
theorem gX10_houseToAsk_X10_canHaveBeen : GoodIn wsX10_houseToAsk (wsV RX10 249 RX10 yX10_canHaveBeen wsX10_canHaveBeen) := goodIn_app (goodIn_of _ (by decide +kernel)) ggX10_houseToAsk_X10_canHaveBeen
set_option maxRecDepth 20000 in
theorem ggX10_houseToAsk_X7_add : GoodIn wsX10_houseToAsk wsX7_add := goodIn_r _ [77, 12, 11, 78, 79, 80, 81, 109, 110] (by decide +kernel) (by decide +kernel)
set_option maxRecDepth 20000 in
theorem gX10_houseToAsk_X7_add : GoodIn wsX10_houseToAsk (wsV RX10 255 RX7 yX7_add wsX7_add) := goodIn_app (goodIn_of _ (by decide +kernel)) ggX10_houseToAsk_X7_add
set_option maxRecDepth 20000 in
theorem ggX10_houseToAsk_X7_houseOfLeastWorst : GoodIn wsX10_houseToAsk wsX7_houseOfLeastWorst := goodIn_r _ [85, 11, 109, 110] (by decide +kernel) (by decide +kernel)
set_option maxRecDepth 20000 in
theorem gX10_houseToAsk_X7_houseOfLeastWorst : GoodIn wsX10_houseToAsk (wsV RX10 258 RX7 yX7_houseOfLeastWorst wsX7_houseOfLeastWorst) := goodIn_app (goodIn_of _ (by decide +kernel)) ggX10_houseToAsk_X7_houseOfLeastWorst
theorem dX10_houseToAsk_0 : decode cX10_houseToAsk 0 = .ok (.aload_n 0, 1) := by decide +kernel
theorem dX10_houseToAsk_1 : decode cX10_houseToAsk 1 = .ok (.getfield 55, 3) := by decide +kernel
theorem dX10_houseToAsk_4 : decode cX10_houseToAsk 4 = .ok (.invokevirtual 252, 3) := by decide +kernel
theorem dX10_houseToAsk_7 : decode cX10_houseToAsk 7 = .ok (.iconst 0, 1) := by decide +kernel
theorem dX10_houseToAsk_8 : decode cX10_houseToAsk 8 = .ok (.istore_n 1, 1) := by decide +kernel
theorem dX10_houseToAsk_9 : decode cX10_houseToAsk 9 = .ok (.iconst 0, 1) := by decide +kernel
theorem dX10_houseToAsk_10 : decode cX10_houseToAsk 10 = .ok (.istore_n 2, 1) := by decide +kernel
theorem dX10_houseToAsk_11 : decode cX10_houseToAsk 11 = .ok (.iload_n 2, 1) := by decide +kernel
theorem dX10_houseToAsk_12 : decode cX10_houseToAsk 12 = .ok (.iconst 1, 1) := by decide +kernel
theorem dX10_houseToAsk_13 : decode cX10_houseToAsk 13 = .ok (.aload_n 0, 1) := by decide +kernel
theorem dX10_houseToAsk_14 : decode cX10_houseToAsk 14 = .ok (.getfield 19, 3) := by decide +kernel
theorem dX10_houseToAsk_17 : decode cX10_houseToAsk 17 = .ok (.getfield 89, 3) := by decide +kernel
theorem dX10_houseToAsk_20 : decode cX10_houseToAsk 20 = .ok (.ishl, 1) := by decide +kernel
theorem dX10_houseToAsk_21 : decode cX10_houseToAsk 21 = .ok (.if_icmp .ge 40, 3) := by decide +kernel
theorem dX10_houseToAsk_24 : decode cX10_houseToAsk 24 = .ok (.aload_n 0, 1) := by decide +kernel
theorem dX10_houseToAsk_25 : decode cX10_houseToAsk 25 = .ok (.iload_n 2, 1) := by decide +kernel
theorem dX10_houseToAsk_26 : decode cX10_houseToAsk 26 = .ok (.invokevirtual 249, 3) := by decide +kernel
theorem dX10_houseToAsk_29 : decode cX10_houseToAsk 29 = .ok (.ifCond .eq 26, 3) := by decide +kernel
theorem dX10_houseToAsk_32 : decode cX10_houseToAsk 32 = .ok (.iconst 1, 1) := by decide +kernel
theorem dX10_houseToAsk_33 : decode cX10_houseToAsk 33 = .ok (.istore_n 1, 1) := by decide +kernel
theorem dX10_houseToAsk_34 : decode cX10_houseToAsk 34 = .ok (.aload_n 0, 1) := by decide +kernel
theorem dX10_houseToAsk_35 : decode cX10_houseToAsk 35 = .ok (.getfield 55, 3) := by decide +kernel
theorem dX10_houseToAsk_38 : decode cX10_houseToAsk 38 = .ok (.aload_n 0, 1) := by decide +kernel
theorem dX10_houseToAsk_39 : decode cX10_houseToAsk 39 = .ok (.getfield 38, 3) := by decide +kernel
theorem dX10_houseToAsk_42 : decode cX10_houseToAsk 42 = .ok (.getfield 204, 3) := by decide +kernel
theorem dX10_houseToAsk_45 : decode cX10_houseToAsk 45 = .ok (.aload_n 0, 1) := by decide +kernel
theorem dX10_houseToAsk_46 : decode cX10_houseToAsk 46 = .ok (.getfield 19, 3) := by decide +kernel
theorem dX10_houseToAsk_49 : decode cX10_houseToAsk 49 = .ok (.getfield 89, 3) := by decide +kernel
theorem dX10_houseToAsk_52 : decode cX10_houseToAsk 52 = .ok (.invokevirtual 255, 3) := by decide +kernel
theorem dX10_houseToAsk_55 : decode cX10_houseToAsk 55 = .ok (.iinc 2 1, 3) := by decide +kernel
theorem dX10_houseToAsk_58 : decode cX10_houseToAsk 58 = .ok (.goto (-47), 3) := by decide +kernel
theorem dX10_houseToAsk_61 : decode cX10_houseToAsk 61 = .ok (.iload_n 1, 1) := by decide +kernel
theorem dX10_houseToAsk_62 : decode cX10_houseToAsk 62 = .ok (.ifCond .eq 20, 3) := by decide +kernel
theorem dX10_houseToAsk_65 : decode cX10_houseToAsk 65 = .ok (.aload_n 0, 1) := by decide +kernel
theorem dX10_houseToAsk_66 : decode cX10_houseToAsk 66 = .ok (.getfield 55, 3) := by decide +kernel
theorem dX10_houseToAsk_69 : decode cX10_houseToAsk 69 = .ok (.aload_n 0, 1) := by decide +kernel
theorem dX10_houseToAsk_70 : decode cX10_houseToAsk 70 = .ok (.getfield 19, 3) := by decide +kernel
theorem dX10_houseToAsk_73 : decode cX10_houseToAsk 73 = .ok (.getfield 89, 3) := by decide +kernel
theorem dX10_houseToAsk_76 : decode cX10_houseToAsk 76 = .ok (.invokevirtual 258, 3) := by decide +kernel
theorem dX10_houseToAsk_79 : decode cX10_houseToAsk 79 = .ok (.goto 4, 3) := by decide +kernel
theorem dX10_houseToAsk_82 : decode cX10_houseToAsk 82 = .ok (.iconst (-1), 1) := by decide +kernel
theorem dX10_houseToAsk_83 : decode cX10_houseToAsk 83 = .ok (.ireturn, 1) := by decide +kernel
theorem dX10_drawTrialLengths_0 : decode cX10_drawTrialLengths 0 = .ok (.iload_n 1, 1) := by decide +kernel
theorem dX10_drawTrialLengths_1 : decode cX10_drawTrialLengths 1 = .ok (.i2l, 1) := by decide +kernel
theorem dX10_drawTrialLengths_2 : decode cX10_drawTrialLengths 2 = .ok (.lstore_n 2, 1) := by decide +kernel
theorem dX10_drawTrialLengths_3 : decode cX10_drawTrialLengths 3 = .ok (.iconst 0, 1) := by decide +kernel
theorem dX10_drawTrialLengths_4 : decode cX10_drawTrialLengths 4 = .ok (.istore 4, 2) := by decide +kernel
theorem dX10_drawTrialLengths_6 : decode cX10_drawTrialLengths 6 = .ok (.iload 4, 2) := by decide +kernel
theorem dX10_drawTrialLengths_8 : decode cX10_drawTrialLengths 8 = .ok (.aload_n 0, 1) := by decide +kernel
theorem dX10_drawTrialLengths_9 : decode cX10_drawTrialLengths 9 = .ok (.getfield 19, 3) := by decide +kernel
theorem dX10_drawTrialLengths_12 : decode cX10_drawTrialLengths 12 = .ok (.getfield 89, 3) := by decide +kernel
theorem dX10_drawTrialLengths_15 : decode cX10_drawTrialLengths 15 = .ok (.if_icmp .ge 40, 3) := by decide +kernel
theorem dX10_drawTrialLengths_18 : decode cX10_drawTrialLengths 18 = .ok (.ldc2_w 261, 3) := by decide +kernel
theorem dX10_drawTrialLengths_21 : decode cX10_drawTrialLengths 21 = .ok (.lload_n 2, 1) := by decide +kernel
theorem dX10_drawTrialLengths_22 : decode cX10_drawTrialLengths 22 = .ok (.lmul, 1) := by decide +kernel
theorem dX10_drawTrialLengths_23 : decode cX10_drawTrialLengths 23 = .ok (.ldc2_w 263, 3) := by decide +kernel
theorem dX10_drawTrialLengths_26 : decode cX10_drawTrialLengths 26 = .ok (.ladd, 1) := by decide +kernel
theorem dX10_drawTrialLengths_27 : decode cX10_drawTrialLengths 27 = .ok (.ldc2_w 265, 3) := by decide +kernel
theorem dX10_drawTrialLengths_30 : decode cX10_drawTrialLengths 30 = .ok (.lrem, 1) := by decide +kernel
theorem dX10_drawTrialLengths_31 : decode cX10_drawTrialLengths 31 = .ok (.lstore_n 2, 1) := by decide +kernel
theorem dX10_drawTrialLengths_32 : decode cX10_drawTrialLengths 32 = .ok (.aload_n 0, 1) := by decide +kernel
theorem dX10_drawTrialLengths_33 : decode cX10_drawTrialLengths 33 = .ok (.getfield 42, 3) := by decide +kernel
theorem dX10_drawTrialLengths_36 : decode cX10_drawTrialLengths 36 = .ok (.iload 4, 2) := by decide +kernel
theorem dX10_drawTrialLengths_38 : decode cX10_drawTrialLengths 38 = .ok (.lload_n 2, 1) := by decide +kernel
theorem dX10_drawTrialLengths_39 : decode cX10_drawTrialLengths 39 = .ok (.ldc2_w 267, 3) := by decide +kernel
theorem dX10_drawTrialLengths_42 : decode cX10_drawTrialLengths 42 = .ok (.ldiv, 1) := by decide +kernel
theorem dX10_drawTrialLengths_43 : decode cX10_drawTrialLengths 43 = .ok (.ldc2_w 269, 3) := by decide +kernel
theorem dX10_drawTrialLengths_46 : decode cX10_drawTrialLengths 46 = .ok (.lrem, 1) := by decide +kernel
theorem dX10_drawTrialLengths_47 : decode cX10_drawTrialLengths 47 = .ok (.l2i, 1) := by decide +kernel
theorem dX10_drawTrialLengths_48 : decode cX10_drawTrialLengths 48 = .ok (.iastore, 1) := by decide +kernel
theorem dX10_drawTrialLengths_49 : decode cX10_drawTrialLengths 49 = .ok (.iinc 4 1, 3) := by decide +kernel
theorem dX10_drawTrialLengths_52 : decode cX10_drawTrialLengths 52 = .ok (.goto (-46), 3) := by decide +kernel
theorem dX10_drawTrialLengths_55 : decode cX10_drawTrialLengths 55 = .ok (.lload_n 2, 1) := by decide +kernel
theorem dX10_drawTrialLengths_56 : decode cX10_drawTrialLengths 56 = .ok (.l2i, 1) := by decide +kernel
theorem dX10_drawTrialLengths_57 : decode cX10_drawTrialLengths 57 = .ok (.ireturn, 1) := by decide +kernel
