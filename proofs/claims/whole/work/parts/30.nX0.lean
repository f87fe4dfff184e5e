set_option maxRecDepth 20000 in
theorem ggX0_init_X3_init : GoodIn wsX0_init wsX3_init := goodIn_r _ [3, 4, 5, 6] (by decide +kernel) (by decide +kernel)
set_option maxRecDepth 20000 in
theorem gX0_init_X3_init_n1 : GoodIn wsX0_init (wsX3_init) := ggX0_init_X3_init
theorem dX0_init_0 : decode cX0_init 0 = .ok (.aload_n 0, 1) := by decide +kernel
theorem dX0_init_1 : decode cX0_init 1 = .ok (.invokespecial 1, 3) := by decide +kernel
theorem dX0_init_4 : decode cX0_init 4 = .ok (.return_, 1) := by decide +kernel
theorem dX0_kind_0 : decode cX0_kind 0 = .ok (.iconst 2, 1) := by decide +kernel
theorem dX0_kind_1 : decode cX0_kind 1 = .ok (.ireturn, 1) := by decide +kernel
theorem dX0_minutesFor_0 : decode cX0_minutesFor 0 = .ok (.iload_n 1, 1) := by decide +kernel
theorem dX0_minutesFor_1 : decode cX0_minutesFor 1 = .ok (.iconst 3, 1) := by decide +kernel
theorem dX0_minutesFor_2 : decode cX0_minutesFor 2 = .ok (.iadd, 1) := by decide +kernel
theorem dX0_minutesFor_3 : decode cX0_minutesFor 3 = .ok (.ireturn, 1) := by decide +kernel
theorem dX0_timesKeep_0 : decode cX0_timesKeep 0 = .ok (.iconst 2, 1) := by decide +kernel
theorem dX0_timesKeep_1 : decode cX0_timesKeep 1 = .ok (.ireturn, 1) := by decide +kernel
theorem dX0_listens_0 : decode cX0_listens 0 = .ok (.iconst 0, 1) := by decide +kernel
theorem dX0_listens_1 : decode cX0_listens 1 = .ok (.ireturn, 1) := by decide +kernel
set_option maxRecDepth 20000 in
theorem ggX1_init_X3_init : GoodIn wsX1_init wsX3_init := goodIn_r _ [3, 4, 5, 6] (by decide +kernel) (by decide +kernel)
set_option maxRecDepth 20000 in
theorem gX1_init_X3_init_n1 : GoodIn wsX1_init (wsX3_init) := ggX1_init_X3_init
theorem dX1_init_0 : decode cX1_init 0 = .ok (.aload_n 0, 1) := by decide +kernel
theorem dX1_init_1 : decode cX1_init 1 = .ok (.invokespecial 1, 3) := by decide +kernel
theorem dX1_init_4 : decode cX1_init 4 = .ok (.return_, 1) := by decide +kernel
theorem dX1_kind_0 : decode cX1_kind 0 = .ok (.iconst 3, 1) := by decide +kernel
theorem dX1_kind_1 : decode cX1_kind 1 = .ok (.ireturn, 1) := by decide +kernel
theorem dX1_minutesFor_0 : decode cX1_minutesFor 0 = .ok (.iload_n 1, 1) := by decide +kernel
theorem dX1_minutesFor_1 : decode cX1_minutesFor 1 = .ok (.iconst 1, 1) := by decide +kernel
theorem dX1_minutesFor_2 : decode cX1_minutesFor 2 = .ok (.iadd, 1) := by decide +kernel
theorem dX1_minutesFor_3 : decode cX1_minutesFor 3 = .ok (.iconst 2, 1) := by decide +kernel
theorem dX1_minutesFor_4 : decode cX1_minutesFor 4 = .ok (.idiv, 1) := by decide +kernel
theorem dX1_minutesFor_5 : decode cX1_minutesFor 5 = .ok (.ireturn, 1) := by decide +kernel
theorem dX1_lengthBehindDay_0 : decode cX1_lengthBehindDay 0 = .ok (.iload_n 1, 1) := by decide +kernel
theorem dX1_lengthBehindDay_1 : decode cX1_lengthBehindDay 1 = .ok (.iconst 2, 1) := by decide +kernel
theorem dX1_lengthBehindDay_2 : decode cX1_lengthBehindDay 2 = .ok (.idiv, 1) := by decide +kernel
theorem dX1_lengthBehindDay_3 : decode cX1_lengthBehindDay 3 = .ok (.ireturn, 1) := by decide +kernel
theorem dX2_init_0 : decode cX2_init 0 = .ok (.aload_n 0, 1) := by decide +kernel
theorem dX2_init_1 : decode cX2_init 1 = .ok (.invokespecial 3, 3) := by decide +kernel
theorem dX2_init_4 : decode cX2_init 4 = .ok (.aload_n 0, 1) := by decide +kernel
theorem dX2_init_5 : decode cX2_init 5 = .ok (.bipush 6, 2) := by decide +kernel
theorem dX2_init_7 : decode cX2_init 7 = .ok (.newarray .int, 2) := by decide +kernel
theorem dX2_init_9 : decode cX2_init 9 = .ok (.putfield 9, 3) := by decide +kernel
theorem dX2_init_12 : decode cX2_init 12 = .ok (.aload_n 0, 1) := by decide +kernel
theorem dX2_init_13 : decode cX2_init 13 = .ok (.bipush 6, 2) := by decide +kernel
theorem dX2_init_15 : decode cX2_init 15 = .ok (.newarray .int, 2) := by decide +kernel
theorem dX2_init_17 : decode cX2_init 17 = .ok (.putfield 15, 3) := by decide +kernel
theorem dX2_init_20 : decode cX2_init 20 = .ok (.aload_n 0, 1) := by decide +kernel
theorem dX2_init_21 : decode cX2_init 21 = .ok (.bipush 6, 2) := by decide +kernel
theorem dX2_init_23 : decode cX2_init 23 = .ok (.newarray .int, 2) := by decide +kernel
theorem dX2_init_25 : decode cX2_init 25 = .ok (.putfield 18, 3) := by decide +kernel
theorem dX2_init_28 : decode cX2_init 28 = .ok (.aload_n 0, 1) := by decide +kernel
theorem dX2_init_29 : decode cX2_init 29 = .ok (.bipush 6, 2) := by decide +kernel
theorem dX2_init_31 : decode cX2_init 31 = .ok (.newarray .int, 2) := by decide +kernel
theorem dX2_init_33 : decode cX2_init 33 = .ok (.putfield 21, 3) := by decide +kernel
theorem dX2_init_36 : decode cX2_init 36 = .ok (.aload_n 0, 1) := by decide +kernel
theorem dX2_init_37 : decode cX2_init 37 = .ok (.iconst 0, 1) := by decide +kernel
theorem dX2_init_38 : decode cX2_init 38 = .ok (.putfield 24, 3) := by decide +kernel
theorem dX2_init_41 : decode cX2_init 41 = .ok (.aload_n 0, 1) := by decide +kernel
theorem dX2_init_42 : decode cX2_init 42 = .ok (.iconst 0, 1) := by decide +kernel
theorem dX2_init_43 : decode cX2_init 43 = .ok (.putfield 28, 3) := by decide +kernel
theorem dX2_init_46 : decode cX2_init 46 = .ok (.aload_n 0, 1) := by decide +kernel
theorem dX2_init_47 : decode cX2_init 47 = .ok (.iconst 0, 1) := by decide +kernel
theorem dX2_init_48 : decode cX2_init 48 = .ok (.putfield 31, 3) := by decide +kernel
theorem dX2_init_51 : decode cX2_init 51 = .ok (.aload_n 0, 1) := by decide +kernel
theorem dX2_init_52 : decode cX2_init 52 = .ok (.iconst 0, 1) := by decide +kernel
theorem dX2_init_53 : decode cX2_init 53 = .ok (.putfield 34, 3) := by decide +kernel
theorem dX2_init_56 : decode cX2_init 56 = .ok (.aload_n 0, 1) := by decide +kernel
theorem dX2_init_57 : decode cX2_init 57 = .ok (.iconst 0, 1) := by decide +kernel
theorem dX2_init_58 : decode cX2_init 58 = .ok (.putfield 37, 3) := by decide +kernel
theorem dX2_init_61 : decode cX2_init 61 = .ok (.return_, 1) := by decide +kernel
set_option maxRecDepth 20000 in
theorem ggX2_begin_X4_lengthAt : GoodIn wsX2_begin wsX4_lengthAt := goodIn_r _ [12, 13, 23, 24] (by decide +kernel) (by decide +kernel)
set_option maxRecDepth 20000 in
theorem gX2_begin_X4_lengthAt : GoodIn wsX2_begin (wsV RX2 40 RX4 yX4_lengthAt wsX4_lengthAt) := goodIn_app (goodIn_of _ (by decide +kernel)) ggX2_begin_X4_lengthAt
theorem dX2_begin_0 : decode cX2_begin 0 = .ok (.iconst 0, 1) := by decide +kernel
theorem dX2_begin_1 : decode cX2_begin 1 = .ok (.istore_n 3, 1) := by decide +kernel
theorem dX2_begin_2 : decode cX2_begin 2 = .ok (.iload_n 3, 1) := by decide +kernel
theorem dX2_begin_3 : decode cX2_begin 3 = .ok (.iload_n 2, 1) := by decide +kernel
theorem dX2_begin_4 : decode cX2_begin 4 = .ok (.if_icmp .ge 27, 3) := by decide +kernel
theorem dX2_begin_7 : decode cX2_begin 7 = .ok (.aload_n 0, 1) := by decide +kernel
theorem dX2_begin_8 : decode cX2_begin 8 = .ok (.getfield 9, 3) := by decide +kernel
theorem dX2_begin_11 : decode cX2_begin 11 = .ok (.iload_n 3, 1) := by decide +kernel
theorem dX2_begin_12 : decode cX2_begin 12 = .ok (.aload_n 1, 1) := by decide +kernel
theorem dX2_begin_13 : decode cX2_begin 13 = .ok (.iload_n 3, 1) := by decide +kernel
theorem dX2_begin_14 : decode cX2_begin 14 = .ok (.invokevirtual 40, 3) := by decide +kernel
theorem dX2_begin_17 : decode cX2_begin 17 = .ok (.iastore, 1) := by decide +kernel
theorem dX2_begin_18 : decode cX2_begin 18 = .ok (.aload_n 0, 1) := by decide +kernel
theorem dX2_begin_19 : decode cX2_begin 19 = .ok (.getfield 15, 3) := by decide +kernel
theorem dX2_begin_22 : decode cX2_begin 22 = .ok (.iload_n 3, 1) := by decide +kernel
theorem dX2_begin_23 : decode cX2_begin 23 = .ok (.iload_n 3, 1) := by decide +kernel
theorem dX2_begin_24 : decode cX2_begin 24 = .ok (.iastore, 1) := by decide +kernel
theorem dX2_begin_25 : decode cX2_begin 25 = .ok (.iinc 3 1, 3) := by decide +kernel
theorem dX2_begin_28 : decode cX2_begin 28 = .ok (.goto (-26), 3) := by decide +kernel
theorem dX2_begin_31 : decode cX2_begin 31 = .ok (.aload_n 0, 1) := by decide +kernel
theorem dX2_begin_32 : decode cX2_begin 32 = .ok (.iconst 0, 1) := by decide +kernel
theorem dX2_begin_33 : decode cX2_begin 33 = .ok (.putfield 24, 3) := by decide +kernel
theorem dX2_begin_36 : decode cX2_begin 36 = .ok (.aload_n 0, 1) := by decide +kernel
theorem dX2_begin_37 : decode cX2_begin 37 = .ok (.iconst 0, 1) := by decide +kernel
theorem dX2_begin_38 : decode cX2_begin 38 = .ok (.putfield 28, 3) := by decide +kernel
theorem dX2_begin_41 : decode cX2_begin 41 = .ok (.aload_n 0, 1) := by decide +kernel
theorem dX2_begin_42 : decode cX2_begin 42 = .ok (.iconst 0, 1) := by decide +kernel
theorem dX2_begin_43 : decode cX2_begin 43 = .ok (.putfield 31, 3) := by decide +kernel
theorem dX2_begin_46 : decode cX2_begin 46 = .ok (.aload_n 0, 1) := by decide +kernel
theorem dX2_begin_47 : decode cX2_begin 47 = .ok (.iconst 0, 1) := by decide +kernel
theorem dX2_begin_48 : decode cX2_begin 48 = .ok (.putfield 34, 3) := by decide +kernel
theorem dX2_begin_51 : decode cX2_begin 51 = .ok (.aload_n 0, 1) := by decide +kernel
theorem dX2_begin_52 : decode cX2_begin 52 = .ok (.iconst 0, 1) := by decide +kernel
theorem dX2_begin_53 : decode cX2_begin 53 = .ok (.putfield 37, 3) := by decide +kernel
theorem dX2_begin_56 : decode cX2_begin 56 = .ok (.return_, 1) := by decide +kernel
theorem dX2_copyFrom_0 : decode cX2_copyFrom 0 = .ok (.aload_n 1, 1) := by decide +kernel
theorem dX2_copyFrom_1 : decode cX2_copyFrom 1 = .ok (.getfield 9, 3) := by decide +kernel
theorem dX2_copyFrom_4 : decode cX2_copyFrom 4 = .ok (.iconst 0, 1) := by decide +kernel
theorem dX2_copyFrom_5 : decode cX2_copyFrom 5 = .ok (.aload_n 0, 1) := by decide +kernel
theorem dX2_copyFrom_6 : decode cX2_copyFrom 6 = .ok (.getfield 9, 3) := by decide +kernel
theorem dX2_copyFrom_9 : decode cX2_copyFrom 9 = .ok (.iconst 0, 1) := by decide +kernel
theorem dX2_copyFrom_10 : decode cX2_copyFrom 10 = .ok (.bipush 6, 2) := by decide +kernel
theorem dX2_copyFrom_12 : decode cX2_copyFrom 12 = .ok (.invokestatic 46, 3) := by decide +kernel
theorem dX2_copyFrom_15 : decode cX2_copyFrom 15 = .ok (.aload_n 1, 1) := by decide +kernel
theorem dX2_copyFrom_16 : decode cX2_copyFrom 16 = .ok (.getfield 15, 3) := by decide +kernel
theorem dX2_copyFrom_19 : decode cX2_copyFrom 19 = .ok (.iconst 0, 1) := by decide +kernel
theorem dX2_copyFrom_20 : decode cX2_copyFrom 20 = .ok (.aload_n 0, 1) := by decide +kernel
theorem dX2_copyFrom_21 : decode cX2_copyFrom 21 = .ok (.getfield 15, 3) := by decide +kernel
theorem dX2_copyFrom_24 : decode cX2_copyFrom 24 = .ok (.iconst 0, 1) := by decide +kernel
theorem dX2_copyFrom_25 : decode cX2_copyFrom 25 = .ok (.bipush 6, 2) := by decide +kernel
theorem dX2_copyFrom_27 : decode cX2_copyFrom 27 = .ok (.invokestatic 46, 3) := by decide +kernel
theorem dX2_copyFrom_30 : decode cX2_copyFrom 30 = .ok (.aload_n 1, 1) := by decide +kernel
theorem dX2_copyFrom_31 : decode cX2_copyFrom 31 = .ok (.getfield 18, 3) := by decide +kernel
theorem dX2_copyFrom_34 : decode cX2_copyFrom 34 = .ok (.iconst 0, 1) := by decide +kernel
theorem dX2_copyFrom_35 : decode cX2_copyFrom 35 = .ok (.aload_n 0, 1) := by decide +kernel
theorem dX2_copyFrom_36 : decode cX2_copyFrom 36 = .ok (.getfield 18, 3) := by decide +kernel
theorem dX2_copyFrom_39 : decode cX2_copyFrom 39 = .ok (.iconst 0, 1) := by decide +kernel
theorem dX2_copyFrom_40 : decode cX2_copyFrom 40 = .ok (.bipush 6, 2) := by decide +kernel
theorem dX2_copyFrom_42 : decode cX2_copyFrom 42 = .ok (.invokestatic 46, 3) := by decide +kernel
theorem dX2_copyFrom_45 : decode cX2_copyFrom 45 = .ok (.aload_n 1, 1) := by decide +kernel
theorem dX2_copyFrom_46 : decode cX2_copyFrom 46 = .ok (.getfield 21, 3) := by decide +kernel
theorem dX2_copyFrom_49 : decode cX2_copyFrom 49 = .ok (.iconst 0, 1) := by decide +kernel
theorem dX2_copyFrom_50 : decode cX2_copyFrom 50 = .ok (.aload_n 0, 1) := by decide +kernel
theorem dX2_copyFrom_51 : decode cX2_copyFrom 51 = .ok (.getfield 21, 3) := by decide +kernel
theorem dX2_copyFrom_54 : decode cX2_copyFrom 54 = .ok (.iconst 0, 1) := by decide +kernel
theorem dX2_copyFrom_55 : decode cX2_copyFrom 55 = .ok (.bipush 6, 2) := by decide +kernel
theorem dX2_copyFrom_57 : decode cX2_copyFrom 57 = .ok (.invokestatic 46, 3) := by decide +kernel
theorem dX2_copyFrom_60 : decode cX2_copyFrom 60 = .ok (.aload_n 0, 1) := by decide +kernel
theorem dX2_copyFrom_61 : decode cX2_copyFrom 61 = .ok (.aload_n 1, 1) := by decide +kernel
theorem dX2_copyFrom_62 : decode cX2_copyFrom 62 = .ok (.getfield 24, 3) := by decide +kernel
theorem dX2_copyFrom_65 : decode cX2_copyFrom 65 = .ok (.putfield 24, 3) := by decide +kernel
theorem dX2_copyFrom_68 : decode cX2_copyFrom 68 = .ok (.aload_n 0, 1) := by decide +kernel
theorem dX2_copyFrom_69 : decode cX2_copyFrom 69 = .ok (.aload_n 1, 1) := by decide +kernel
theorem dX2_copyFrom_70 : decode cX2_copyFrom 70 = .ok (.getfield 28, 3) := by decide +kernel
theorem dX2_copyFrom_73 : decode cX2_copyFrom 73 = .ok (.putfield 28, 3) := by decide +kernel
theorem dX2_copyFrom_76 : decode cX2_copyFrom 76 = .ok (.aload_n 0, 1) := by decide +kernel
theorem dX2_copyFrom_77 : decode cX2_copyFrom 77 = .ok (.aload_n 1, 1) := by decide +kernel
theorem dX2_copyFrom_78 : decode cX2_copyFrom 78 = .ok (.getfield 31, 3) := by decide +kernel
theorem dX2_copyFrom_81 : decode cX2_copyFrom 81 = .ok (.putfield 31, 3) := by decide +kernel
theorem dX2_copyFrom_84 : decode cX2_copyFrom 84 = .ok (.aload_n 0, 1) := by decide +kernel
theorem dX2_copyFrom_85 : decode cX2_copyFrom 85 = .ok (.aload_n 1, 1) := by decide +kernel
theorem dX2_copyFrom_86 : decode cX2_copyFrom 86 = .ok (.getfield 34, 3) := by decide +kernel
theorem dX2_copyFrom_89 : decode cX2_copyFrom 89 = .ok (.putfield 34, 3) := by decide +kernel
theorem dX2_copyFrom_92 : decode cX2_copyFrom 92 = .ok (.aload_n 0, 1) := by decide +kernel
theorem dX2_copyFrom_93 : decode cX2_copyFrom 93 = .ok (.aload_n 1, 1) := by decide +kernel
theorem dX2_copyFrom_94 : decode cX2_copyFrom 94 = .ok (.getfield 37, 3) := by decide +kernel
theorem dX2_copyFrom_97 : decode cX2_copyFrom 97 = .ok (.putfield 37, 3) := by decide +kernel
theorem dX2_copyFrom_100 : decode cX2_copyFrom 100 = .ok (.return_, 1) := by decide +kernel
theorem dX2_placeOf_0 : decode cX2_placeOf 0 = .ok (.iconst 0, 1) := by decide +kernel
theorem dX2_placeOf_1 : decode cX2_placeOf 1 = .ok (.istore_n 2, 1) := by decide +kernel
theorem dX2_placeOf_2 : decode cX2_placeOf 2 = .ok (.iload_n 2, 1) := by decide +kernel
theorem dX2_placeOf_3 : decode cX2_placeOf 3 = .ok (.iconst 5, 1) := by decide +kernel
theorem dX2_placeOf_4 : decode cX2_placeOf 4 = .ok (.if_icmp .ge 19, 3) := by decide +kernel
theorem dX2_placeOf_7 : decode cX2_placeOf 7 = .ok (.aload_n 0, 1) := by decide +kernel
theorem dX2_placeOf_8 : decode cX2_placeOf 8 = .ok (.getfield 15, 3) := by decide +kernel
theorem dX2_placeOf_11 : decode cX2_placeOf 11 = .ok (.iload_n 2, 1) := by decide +kernel
theorem dX2_placeOf_12 : decode cX2_placeOf 12 = .ok (.iaload, 1) := by decide +kernel
theorem dX2_placeOf_13 : decode cX2_placeOf 13 = .ok (.iload_n 1, 1) := by decide +kernel
theorem dX2_placeOf_14 : decode cX2_placeOf 14 = .ok (.if_icmp .eq 9, 3) := by decide +kernel
theorem dX2_placeOf_17 : decode cX2_placeOf 17 = .ok (.iinc 2 1, 3) := by decide +kernel
theorem dX2_placeOf_20 : decode cX2_placeOf 20 = .ok (.goto (-18), 3) := by decide +kernel
theorem dX2_placeOf_23 : decode cX2_placeOf 23 = .ok (.iload_n 2, 1) := by decide +kernel
theorem dX2_placeOf_24 : decode cX2_placeOf 24 = .ok (.ireturn, 1) := by decide +kernel
theorem dX2_learn_0 : decode cX2_learn 0 = .ok (.aload_n 0, 1) := by decide +kernel
theorem dX2_learn_1 : decode cX2_learn 1 = .ok (.getfield 24, 3) := by decide +kernel
theorem dX2_learn_4 : decode cX2_learn 4 = .ok (.bipush 6, 2) := by decide +kernel
theorem dX2_learn_6 : decode cX2_learn 6 = .ok (.if_icmp .lt 5, 3) := by decide +kernel
theorem dX2_learn_9 : decode cX2_learn 9 = .ok (.iconst 0, 1) := by decide +kernel
theorem dX2_learn_10 : decode cX2_learn 10 = .ok (.ireturn, 1) := by decide +kernel
theorem dX2_learn_11 : decode cX2_learn 11 = .ok (.aload_n 0, 1) := by decide +kernel
theorem dX2_learn_12 : decode cX2_learn 12 = .ok (.getfield 18, 3) := by decide +kernel
theorem dX2_learn_15 : decode cX2_learn 15 = .ok (.aload_n 0, 1) := by decide +kernel
theorem dX2_learn_16 : decode cX2_learn 16 = .ok (.getfield 24, 3) := by decide +kernel
theorem dX2_learn_19 : decode cX2_learn 19 = .ok (.iload_n 1, 1) := by decide +kernel
theorem dX2_learn_20 : decode cX2_learn 20 = .ok (.iastore, 1) := by decide +kernel
theorem dX2_learn_21 : decode cX2_learn 21 = .ok (.aload_n 0, 1) := by decide +kernel
theorem dX2_learn_22 : decode cX2_learn 22 = .ok (.getfield 21, 3) := by decide +kernel
theorem dX2_learn_25 : decode cX2_learn 25 = .ok (.aload_n 0, 1) := by decide +kernel
theorem dX2_learn_26 : decode cX2_learn 26 = .ok (.getfield 24, 3) := by decide +kernel
theorem dX2_learn_29 : decode cX2_learn 29 = .ok (.iload_n 2, 1) := by decide +kernel
theorem dX2_learn_30 : decode cX2_learn 30 = .ok (.iastore, 1) := by decide +kernel
theorem dX2_learn_31 : decode cX2_learn 31 = .ok (.aload_n 0, 1) := by decide +kernel
theorem dX2_learn_32 : decode cX2_learn 32 = .ok (.dup, 1) := by decide +kernel
theorem dX2_learn_33 : decode cX2_learn 33 = .ok (.getfield 24, 3) := by decide +kernel
theorem dX2_learn_36 : decode cX2_learn 36 = .ok (.iconst 1, 1) := by decide +kernel
theorem dX2_learn_37 : decode cX2_learn 37 = .ok (.iadd, 1) := by decide +kernel
theorem dX2_learn_38 : decode cX2_learn 38 = .ok (.putfield 24, 3) := by decide +kernel
theorem dX2_learn_41 : decode cX2_learn 41 = .ok (.iconst 1, 1) := by decide +kernel
theorem dX2_learn_42 : decode cX2_learn 42 = .ok (.ireturn, 1) := by decide +kernel
theorem dX3_init_0 : decode cX3_init 0 = .ok (.aload_n 0, 1) := by decide +kernel
theorem dX3_init_1 : decode cX3_init 1 = .ok (.invokespecial 1, 3) := by decide +kernel
theorem dX3_init_4 : decode cX3_init 4 = .ok (.return_, 1) := by decide +kernel
theorem dX3_kind_0 : decode cX3_kind 0 = .ok (.iconst 0, 1) := by decide +kernel
theorem dX3_kind_1 : decode cX3_kind 1 = .ok (.ireturn, 1) := by decide +kernel
theorem dX3_minutesFor_0 : decode cX3_minutesFor 0 = .ok (.iload_n 1, 1) := by decide +kernel
theorem dX3_minutesFor_1 : decode cX3_minutesFor 1 = .ok (.ireturn, 1) := by decide +kernel
theorem dX3_timesKeep_0 : decode cX3_timesKeep 0 = .ok (.iconst 4, 1) := by decide +kernel
theorem dX3_timesKeep_1 : decode cX3_timesKeep 1 = .ok (.ireturn, 1) := by decide +kernel
theorem dX3_listens_0 : decode cX3_listens 0 = .ok (.iconst 1, 1) := by decide +kernel
theorem dX3_listens_1 : decode cX3_listens 1 = .ok (.ireturn, 1) := by decide +kernel
theorem dX3_lengthBehindDay_0 : decode cX3_lengthBehindDay 0 = .ok (.iconst 0, 1) := by decide +kernel
theorem dX3_lengthBehindDay_1 : decode cX3_lengthBehindDay 1 = .ok (.ireturn, 1) := by decide +kernel
theorem dX4_init_0 : decode cX4_init 0 = .ok (.aload_n 0, 1) := by decide +kernel
theorem dX4_init_1 : decode cX4_init 1 = .ok (.invokespecial 3, 3) := by decide +kernel
theorem dX4_init_4 : decode cX4_init 4 = .ok (.aload_n 0, 1) := by decide +kernel
theorem dX4_init_5 : decode cX4_init 5 = .ok (.bipush 21, 2) := by decide +kernel
theorem dX4_init_7 : decode cX4_init 7 = .ok (.newarray .char, 2) := by decide +kernel
theorem dX4_init_9 : decode cX4_init 9 = .ok (.putfield 11, 3) := by decide +kernel
theorem dX4_init_12 : decode cX4_init 12 = .ok (.aload_n 0, 1) := by decide +kernel
theorem dX4_init_13 : decode cX4_init 13 = .ok (.iconst 0, 1) := by decide +kernel
theorem dX4_init_14 : decode cX4_init 14 = .ok (.putfield 15, 3) := by decide +kernel
theorem dX4_init_17 : decode cX4_init 17 = .ok (.return_, 1) := by decide +kernel
theorem dX4_add_0 : decode cX4_add 0 = .ok (.aload_n 0, 1) := by decide +kernel
theorem dX4_add_1 : decode cX4_add 1 = .ok (.getfield 15, 3) := by decide +kernel
theorem dX4_add_4 : decode cX4_add 4 = .ok (.bipush 21, 2) := by decide +kernel
theorem dX4_add_6 : decode cX4_add 6 = .ok (.if_icmp .lt 5, 3) := by decide +kernel
theorem dX4_add_9 : decode cX4_add 9 = .ok (.iconst 0, 1) := by decide +kernel
theorem dX4_add_10 : decode cX4_add 10 = .ok (.ireturn, 1) := by decide +kernel
theorem dX4_add_11 : decode cX4_add 11 = .ok (.aload_n 0, 1) := by decide +kernel
theorem dX4_add_12 : decode cX4_add 12 = .ok (.getfield 11, 3) := by decide +kernel
theorem dX4_add_15 : decode cX4_add 15 = .ok (.aload_n 0, 1) := by decide +kernel
theorem dX4_add_16 : decode cX4_add 16 = .ok (.getfield 15, 3) := by decide +kernel
theorem dX4_add_19 : decode cX4_add 19 = .ok (.iload_n 1, 1) := by decide +kernel
theorem dX4_add_20 : decode cX4_add 20 = .ok (.castore, 1) := by decide +kernel
theorem dX4_add_21 : decode cX4_add 21 = .ok (.aload_n 0, 1) := by decide +kernel
theorem dX4_add_22 : decode cX4_add 22 = .ok (.dup, 1) := by decide +kernel
theorem dX4_add_23 : decode cX4_add 23 = .ok (.getfield 15, 3) := by decide +kernel
theorem dX4_add_26 : decode cX4_add 26 = .ok (.iconst 1, 1) := by decide +kernel
theorem dX4_add_27 : decode cX4_add 27 = .ok (.iadd, 1) := by decide +kernel
theorem dX4_add_28 : decode cX4_add 28 = .ok (.putfield 15, 3) := by decide +kernel
theorem dX4_add_31 : decode cX4_add 31 = .ok (.iconst 1, 1) := by decide +kernel
theorem dX4_add_32 : decode cX4_add 32 = .ok (.ireturn, 1) := by decide +kernel
set_option maxRecDepth 20000 in
theorem ggX4_firstFault_X4_fits : GoodIn wsX4_firstFault wsX4_fits := goodIn_r _ [6, 7, 8, 9, 10, 11, 12, 13, 14, 15, 16, 17, 18, 19, 20, 21, 22, 23, 24, 25, 26, 27, 28, 29, 30, 31, 32, 33, 34, 35, 36, 37, 38, 39, 40, 41, 42, 43, 44, 45, 46, 47, 48, 49, 50, 51, 52, 53, 54, 55, 56, 57, 58, 59, 60, 61, 62, 63, 64, 65, 66, 67, 68, 69, 70, 71, 72, 73, 74, 75, 76, 77, 78, 79, 80, 81, 82, 83, 84, 85, 86, 87, 88, 89, 90, 91, 92, 93, 94, 95, 96, 97, 5, 98] (by decide +kernel) (by decide +kernel)
set_option maxRecDepth 20000 in
theorem gX4_firstFault_X4_fits : GoodIn wsX4_firstFault (va_wsS RX4 19 yX4_fits wsX4_fits) := goodIn_app (goodIn_of _ (by decide +kernel)) ggX4_firstFault_X4_fits
theorem dX4_firstFault_0 : decode cX4_firstFault 0 = .ok (.iconst 0, 1) := by decide +kernel
theorem dX4_firstFault_1 : decode cX4_firstFault 1 = .ok (.istore_n 1, 1) := by decide +kernel
theorem dX4_firstFault_2 : decode cX4_firstFault 2 = .ok (.iconst 0, 1) := by decide +kernel
theorem dX4_firstFault_3 : decode cX4_firstFault 3 = .ok (.istore_n 2, 1) := by decide +kernel
theorem dX4_firstFault_4 : decode cX4_firstFault 4 = .ok (.iload_n 2, 1) := by decide +kernel
theorem dX4_firstFault_5 : decode cX4_firstFault 5 = .ok (.aload_n 0, 1) := by decide +kernel
theorem dX4_firstFault_6 : decode cX4_firstFault 6 = .ok (.getfield 15, 3) := by decide +kernel
theorem dX4_firstFault_9 : decode cX4_firstFault 9 = .ok (.if_icmp .ge 46, 3) := by decide +kernel
theorem dX4_firstFault_12 : decode cX4_firstFault 12 = .ok (.iload_n 2, 1) := by decide +kernel
theorem dX4_firstFault_13 : decode cX4_firstFault 13 = .ok (.aload_n 0, 1) := by decide +kernel
theorem dX4_firstFault_14 : decode cX4_firstFault 14 = .ok (.getfield 11, 3) := by decide +kernel
theorem dX4_firstFault_17 : decode cX4_firstFault 17 = .ok (.iload_n 2, 1) := by decide +kernel
theorem dX4_firstFault_18 : decode cX4_firstFault 18 = .ok (.caload, 1) := by decide +kernel
theorem dX4_firstFault_19 : decode cX4_firstFault 19 = .ok (.iload_n 1, 1) := by decide +kernel
theorem dX4_firstFault_20 : decode cX4_firstFault 20 = .ok (.invokestatic 19, 3) := by decide +kernel
theorem dX4_firstFault_23 : decode cX4_firstFault 23 = .ok (.ifCond .ne 5, 3) := by decide +kernel
theorem dX4_firstFault_26 : decode cX4_firstFault 26 = .ok (.iload_n 2, 1) := by decide +kernel
theorem dX4_firstFault_27 : decode cX4_firstFault 27 = .ok (.ireturn, 1) := by decide +kernel
theorem dX4_firstFault_28 : decode cX4_firstFault 28 = .ok (.iload_n 1, 1) := by decide +kernel
theorem dX4_firstFault_29 : decode cX4_firstFault 29 = .ok (.ifCond .ne 14, 3) := by decide +kernel
theorem dX4_firstFault_32 : decode cX4_firstFault 32 = .ok (.aload_n 0, 1) := by decide +kernel
theorem dX4_firstFault_33 : decode cX4_firstFault 33 = .ok (.getfield 11, 3) := by decide +kernel
theorem dX4_firstFault_36 : decode cX4_firstFault 36 = .ok (.iload_n 2, 1) := by decide +kernel
theorem dX4_firstFault_37 : decode cX4_firstFault 37 = .ok (.caload, 1) := by decide +kernel
theorem dX4_firstFault_38 : decode cX4_firstFault 38 = .ok (.bipush 59, 2) := by decide +kernel
theorem dX4_firstFault_40 : decode cX4_firstFault 40 = .ok (.if_icmp .ne 7, 3) := by decide +kernel
theorem dX4_firstFault_43 : decode cX4_firstFault 43 = .ok (.iconst 1, 1) := by decide +kernel
theorem dX4_firstFault_44 : decode cX4_firstFault 44 = .ok (.goto 4, 3) := by decide +kernel
theorem dX4_firstFault_47 : decode cX4_firstFault 47 = .ok (.iconst 0, 1) := by decide +kernel
theorem dX4_firstFault_48 : decode cX4_firstFault 48 = .ok (.istore_n 1, 1) := by decide +kernel
theorem dX4_firstFault_49 : decode cX4_firstFault 49 = .ok (.iinc 2 1, 3) := by decide +kernel
theorem dX4_firstFault_52 : decode cX4_firstFault 52 = .ok (.goto (-48), 3) := by decide +kernel
theorem dX4_firstFault_55 : decode cX4_firstFault 55 = .ok (.aload_n 0, 1) := by decide +kernel
theorem dX4_firstFault_56 : decode cX4_firstFault 56 = .ok (.getfield 15, 3) := by decide +kernel
theorem dX4_firstFault_59 : decode cX4_firstFault 59 = .ok (.ireturn, 1) := by decide +kernel
set_option maxRecDepth 20000 in
theorem ggX4_isWhole_X4_firstFault : GoodIn wsX4_isWhole wsX4_firstFault := goodIn_r _ [7, 1, 2, 8, 9, 6, 10, 11, 12, 13, 14, 15, 16, 17, 18, 19, 20, 21, 22, 23, 24, 25, 26, 27, 28, 29, 30, 31, 32, 33, 34, 35, 36, 37, 38, 39, 40, 41, 42, 43, 44, 45, 46, 47, 48, 49, 50, 51, 52, 53, 54, 55, 56, 57, 58, 59, 60, 61, 62, 63, 64, 65, 66, 67, 68, 69, 70, 71, 72, 73, 74, 75, 76, 77, 78, 79, 80, 81, 82, 83, 84, 85, 86, 87, 88, 89, 90, 91, 92, 93, 94, 95, 96, 97, 98, 99, 100, 101, 102, 103, 104] (by decide +kernel) (by decide +kernel)
set_option maxRecDepth 20000 in
theorem gX4_isWhole_X4_firstFault : GoodIn wsX4_isWhole (wsV RX4 23 RX4 yX4_firstFault wsX4_firstFault) := goodIn_app (goodIn_of _ (by decide +kernel)) ggX4_isWhole_X4_firstFault
theorem dX4_isWhole_0 : decode cX4_isWhole 0 = .ok (.aload_n 0, 1) := by decide +kernel
theorem dX4_isWhole_1 : decode cX4_isWhole 1 = .ok (.getfield 15, 3) := by decide +kernel
theorem dX4_isWhole_4 : decode cX4_isWhole 4 = .ok (.iconst 2, 1) := by decide +kernel
theorem dX4_isWhole_5 : decode cX4_isWhole 5 = .ok (.if_icmp .lt 34, 3) := by decide +kernel
theorem dX4_isWhole_8 : decode cX4_isWhole 8 = .ok (.aload_n 0, 1) := by decide +kernel
theorem dX4_isWhole_9 : decode cX4_isWhole 9 = .ok (.getfield 11, 3) := by decide +kernel
theorem dX4_isWhole_12 : decode cX4_isWhole 12 = .ok (.aload_n 0, 1) := by decide +kernel
theorem dX4_isWhole_13 : decode cX4_isWhole 13 = .ok (.getfield 15, 3) := by decide +kernel
theorem dX4_isWhole_16 : decode cX4_isWhole 16 = .ok (.iconst 2, 1) := by decide +kernel
theorem dX4_isWhole_17 : decode cX4_isWhole 17 = .ok (.isub, 1) := by decide +kernel
theorem dX4_isWhole_18 : decode cX4_isWhole 18 = .ok (.caload, 1) := by decide +kernel
theorem dX4_isWhole_19 : decode cX4_isWhole 19 = .ok (.bipush 59, 2) := by decide +kernel
theorem dX4_isWhole_21 : decode cX4_isWhole 21 = .ok (.if_icmp .ne 18, 3) := by decide +kernel
theorem dX4_isWhole_24 : decode cX4_isWhole 24 = .ok (.aload_n 0, 1) := by decide +kernel
theorem dX4_isWhole_25 : decode cX4_isWhole 25 = .ok (.invokevirtual 23, 3) := by decide +kernel
theorem dX4_isWhole_28 : decode cX4_isWhole 28 = .ok (.aload_n 0, 1) := by decide +kernel
theorem dX4_isWhole_29 : decode cX4_isWhole 29 = .ok (.getfield 15, 3) := by decide +kernel
theorem dX4_isWhole_32 : decode cX4_isWhole 32 = .ok (.if_icmp .ne 7, 3) := by decide +kernel
theorem dX4_isWhole_35 : decode cX4_isWhole 35 = .ok (.iconst 1, 1) := by decide +kernel
theorem dX4_isWhole_36 : decode cX4_isWhole 36 = .ok (.goto 4, 3) := by decide +kernel
theorem dX4_isWhole_39 : decode cX4_isWhole 39 = .ok (.iconst 0, 1) := by decide +kernel
theorem dX4_isWhole_40 : decode cX4_isWhole 40 = .ok (.ireturn, 1) := by decide +kernel
theorem dX4_houses_0 : decode cX4_houses 0 = .ok (.aload_n 0, 1) := by decide +kernel
theorem dX4_houses_1 : decode cX4_houses 1 = .ok (.getfield 15, 3) := by decide +kernel
theorem dX4_houses_4 : decode cX4_houses 4 = .ok (.iconst 3, 1) := by decide +kernel
theorem dX4_houses_5 : decode cX4_houses 5 = .ok (.idiv, 1) := by decide +kernel
theorem dX4_houses_6 : decode cX4_houses 6 = .ok (.ireturn, 1) := by decide +kernel
theorem dX4_kindSignAt_0 : decode cX4_kindSignAt 0 = .ok (.aload_n 0, 1) := by decide +kernel
theorem dX4_kindSignAt_1 : decode cX4_kindSignAt 1 = .ok (.getfield 11, 3) := by decide +kernel
theorem dX4_kindSignAt_4 : decode cX4_kindSignAt 4 = .ok (.iconst 3, 1) := by decide +kernel
theorem dX4_kindSignAt_5 : decode cX4_kindSignAt 5 = .ok (.iload_n 1, 1) := by decide +kernel
theorem dX4_kindSignAt_6 : decode cX4_kindSignAt 6 = .ok (.imul, 1) := by decide +kernel
theorem dX4_kindSignAt_7 : decode cX4_kindSignAt 7 = .ok (.caload, 1) := by decide +kernel
theorem dX4_kindSignAt_8 : decode cX4_kindSignAt 8 = .ok (.ireturn, 1) := by decide +kernel
theorem dX4_lengthAt_0 : decode cX4_lengthAt 0 = .ok (.aload_n 0, 1) := by decide +kernel
theorem dX4_lengthAt_1 : decode cX4_lengthAt 1 = .ok (.getfield 11, 3) := by decide +kernel
theorem dX4_lengthAt_4 : decode cX4_lengthAt 4 = .ok (.iconst 3, 1) := by decide +kernel
theorem dX4_lengthAt_5 : decode cX4_lengthAt 5 = .ok (.iload_n 1, 1) := by decide +kernel
theorem dX4_lengthAt_6 : decode cX4_lengthAt 6 = .ok (.imul, 1) := by decide +kernel
theorem dX4_lengthAt_7 : decode cX4_lengthAt 7 = .ok (.iconst 1, 1) := by decide +kernel
theorem dX4_lengthAt_8 : decode cX4_lengthAt 8 = .ok (.iadd, 1) := by decide +kernel
theorem dX4_lengthAt_9 : decode cX4_lengthAt 9 = .ok (.caload, 1) := by decide +kernel
theorem dX4_lengthAt_10 : decode cX4_lengthAt 10 = .ok (.bipush 48, 2) := by decide +kernel
theorem dX4_lengthAt_12 : decode cX4_lengthAt 12 = .ok (.isub, 1) := by decide +kernel
theorem dX4_lengthAt_13 : decode cX4_lengthAt 13 = .ok (.ireturn, 1) := by decide +kernel
theorem dX4_keepAtEnd_0 : decode cX4_keepAtEnd 0 = .ok (.aload_n 0, 1) := by decide +kernel
theorem dX4_keepAtEnd_1 : decode cX4_keepAtEnd 1 = .ok (.getfield 11, 3) := by decide +kernel
theorem dX4_keepAtEnd_4 : decode cX4_keepAtEnd 4 = .ok (.aload_n 0, 1) := by decide +kernel
theorem dX4_keepAtEnd_5 : decode cX4_keepAtEnd 5 = .ok (.getfield 15, 3) := by decide +kernel
theorem dX4_keepAtEnd_8 : decode cX4_keepAtEnd 8 = .ok (.iconst 1, 1) := by decide +kernel
theorem dX4_keepAtEnd_9 : decode cX4_keepAtEnd 9 = .ok (.isub, 1) := by decide +kernel
theorem dX4_keepAtEnd_10 : decode cX4_keepAtEnd 10 = .ok (.caload, 1) := by decide +kernel
theorem dX4_keepAtEnd_11 : decode cX4_keepAtEnd 11 = .ok (.bipush 48, 2) := by decide +kernel
theorem dX4_keepAtEnd_13 : decode cX4_keepAtEnd 13 = .ok (.isub, 1) := by decide +kernel
theorem dX4_keepAtEnd_14 : decode cX4_keepAtEnd 14 = .ok (.ireturn, 1) := by decide +kernel
set_option maxRecDepth 20000 in
theorem ggX4_fits_J0_indexOf_0f7a4 : GoodIn wsX4_fits wsJ0_indexOf_0f7a4 := goodIn_r _ [5, 6, 7, 8, 4, 9, 10, 11, 12, 13, 14, 15, 16, 17, 18, 19, 20, 21, 22, 23, 24, 25, 26, 27, 28, 29, 30, 31, 32, 33, 34, 35, 36, 37, 38, 39, 40, 41, 42, 43, 44, 45, 46, 47, 48, 49, 50, 51, 52, 53, 54, 55, 56, 57, 58, 59, 60, 61, 62, 63, 64, 65, 66, 67, 68, 69, 70, 71, 72, 73, 74, 75, 76, 77, 78, 79, 80, 81, 82, 83, 84, 85, 86, 87, 88, 89] (by decide +kernel) (by decide +kernel)
set_option maxRecDepth 20000 in
theorem gX4_fits_J0_indexOf_0f7a4 : GoodIn wsX4_fits (wsV RX4 29 RJ0 yJ0_indexOf_0f7a4 wsJ0_indexOf_0f7a4) := goodIn_app (goodIn_of _ (by decide +kernel)) ggX4_fits_J0_indexOf_0f7a4
set_option maxRecDepth 20000 in
theorem ggX4_fits_X4_isMarkBehind : GoodIn wsX4_fits wsX4_isMarkBehind := goodIn_r _ [93] (by decide +kernel) (by decide +kernel)
set_option maxRecDepth 20000 in
theorem gX4_fits_X4_isMarkBehind : GoodIn wsX4_fits (va_wsS RX4 35 yX4_isMarkBehind wsX4_isMarkBehind) := goodIn_app (goodIn_of _ (by decide +kernel)) ggX4_fits_X4_isMarkBehind
theorem dX4_fits_0 : decode cX4_fits 0 = .ok (.iload_n 1, 1) := by decide +kernel
theorem dX4_fits_1 : decode cX4_fits 1 = .ok (.bipush 48, 2) := by decide +kernel
theorem dX4_fits_3 : decode cX4_fits 3 = .ok (.if_icmp .lt 13, 3) := by decide +kernel
theorem dX4_fits_6 : decode cX4_fits 6 = .ok (.iload_n 1, 1) := by decide +kernel
theorem dX4_fits_7 : decode cX4_fits 7 = .ok (.bipush 57, 2) := by decide +kernel
theorem dX4_fits_9 : decode cX4_fits 9 = .ok (.if_icmp .gt 7, 3) := by decide +kernel
theorem dX4_fits_12 : decode cX4_fits 12 = .ok (.iconst 1, 1) := by decide +kernel
theorem dX4_fits_13 : decode cX4_fits 13 = .ok (.goto 4, 3) := by decide +kernel
theorem dX4_fits_16 : decode cX4_fits 16 = .ok (.iconst 0, 1) := by decide +kernel
theorem dX4_fits_17 : decode cX4_fits 17 = .ok (.istore_n 3, 1) := by decide +kernel
theorem dX4_fits_18 : decode cX4_fits 18 = .ok (.iload_n 0, 1) := by decide +kernel
theorem dX4_fits_19 : decode cX4_fits 19 = .ok (.iconst 3, 1) := by decide +kernel
theorem dX4_fits_20 : decode cX4_fits 20 = .ok (.irem, 1) := by decide +kernel
theorem dX4_fits_21 : decode cX4_fits 21 = .ok (.lookupswitch 78 #[(0, 27), (1, 64)], 27) := by decide +kernel
theorem dX4_fits_48 : decode cX4_fits 48 = .ok (.iload_n 2, 1) := by decide +kernel
theorem dX4_fits_49 : decode cX4_fits 49 = .ok (.ifCond .eq 21, 3) := by decide +kernel
theorem dX4_fits_52 : decode cX4_fits 52 = .ok (.iload_n 3, 1) := by decide +kernel
theorem dX4_fits_53 : decode cX4_fits 53 = .ok (.ifCond .eq 13, 3) := by decide +kernel
theorem dX4_fits_56 : decode cX4_fits 56 = .ok (.iload_n 1, 1) := by decide +kernel
theorem dX4_fits_57 : decode cX4_fits 57 = .ok (.bipush 48, 2) := by decide +kernel
theorem dX4_fits_59 : decode cX4_fits 59 = .ok (.if_icmp .eq 7, 3) := by decide +kernel
theorem dX4_fits_62 : decode cX4_fits 62 = .ok (.iconst 1, 1) := by decide +kernel
theorem dX4_fits_63 : decode cX4_fits 63 = .ok (.goto 21, 3) := by decide +kernel
theorem dX4_fits_66 : decode cX4_fits 66 = .ok (.iconst 0, 1) := by decide +kernel
theorem dX4_fits_67 : decode cX4_fits 67 = .ok (.goto 17, 3) := by decide +kernel
theorem dX4_fits_70 : decode cX4_fits 70 = .ok (.ldc 27, 2) := by decide +kernel
theorem dX4_fits_72 : decode cX4_fits 72 = .ok (.iload_n 1, 1) := by decide +kernel
theorem dX4_fits_73 : decode cX4_fits 73 = .ok (.invokevirtual 29, 3) := by decide +kernel
theorem dX4_fits_76 : decode cX4_fits 76 = .ok (.ifCond .lt 7, 3) := by decide +kernel
theorem dX4_fits_79 : decode cX4_fits 79 = .ok (.iconst 1, 1) := by decide +kernel
theorem dX4_fits_80 : decode cX4_fits 80 = .ok (.goto 4, 3) := by decide +kernel
theorem dX4_fits_83 : decode cX4_fits 83 = .ok (.iconst 0, 1) := by decide +kernel
theorem dX4_fits_84 : decode cX4_fits 84 = .ok (.ireturn, 1) := by decide +kernel
theorem dX4_fits_85 : decode cX4_fits 85 = .ok (.iload_n 3, 1) := by decide +kernel
theorem dX4_fits_86 : decode cX4_fits 86 = .ok (.ifCond .eq 11, 3) := by decide +kernel
theorem dX4_fits_89 : decode cX4_fits 89 = .ok (.iload_n 2, 1) := by decide +kernel
theorem dX4_fits_90 : decode cX4_fits 90 = .ok (.ifCond .ne 7, 3) := by decide +kernel
theorem dX4_fits_93 : decode cX4_fits 93 = .ok (.iconst 1, 1) := by decide +kernel
theorem dX4_fits_94 : decode cX4_fits 94 = .ok (.goto 4, 3) := by decide +kernel
theorem dX4_fits_97 : decode cX4_fits 97 = .ok (.iconst 0, 1) := by decide +kernel
theorem dX4_fits_98 : decode cX4_fits 98 = .ok (.ireturn, 1) := by decide +kernel
theorem dX4_fits_99 : decode cX4_fits 99 = .ok (.iload_n 0, 1) := by decide +kernel
theorem dX4_fits_100 : decode cX4_fits 100 = .ok (.iconst 3, 1) := by decide +kernel
theorem dX4_fits_101 : decode cX4_fits 101 = .ok (.idiv, 1) := by decide +kernel
theorem dX4_fits_102 : decode cX4_fits 102 = .ok (.iconst 1, 1) := by decide +kernel
theorem dX4_fits_103 : decode cX4_fits 103 = .ok (.iadd, 1) := by decide +kernel
theorem dX4_fits_104 : decode cX4_fits 104 = .ok (.iload_n 1, 1) := by decide +kernel
theorem dX4_fits_105 : decode cX4_fits 105 = .ok (.invokestatic 35, 3) := by decide +kernel
theorem dX4_fits_108 : decode cX4_fits 108 = .ok (.ireturn, 1) := by decide +kernel
theorem dX4_isMarkBehind_0 : decode cX4_isMarkBehind 0 = .ok (.iload_n 1, 1) := by decide +kernel
theorem dX4_isMarkBehind_1 : decode cX4_isMarkBehind 1 = .ok (.bipush 44, 2) := by decide +kernel
theorem dX4_isMarkBehind_3 : decode cX4_isMarkBehind 3 = .ok (.if_icmp .ne 9, 3) := by decide +kernel
theorem dX4_isMarkBehind_6 : decode cX4_isMarkBehind 6 = .ok (.iload_n 0, 1) := by decide +kernel
theorem dX4_isMarkBehind_7 : decode cX4_isMarkBehind 7 = .ok (.bipush 6, 2) := by decide +kernel
theorem dX4_isMarkBehind_9 : decode cX4_isMarkBehind 9 = .ok (.if_icmp .lt 14, 3) := by decide +kernel
theorem dX4_isMarkBehind_12 : decode cX4_isMarkBehind 12 = .ok (.iload_n 1, 1) := by decide +kernel
theorem dX4_isMarkBehind_13 : decode cX4_isMarkBehind 13 = .ok (.bipush 59, 2) := by decide +kernel
theorem dX4_isMarkBehind_15 : decode cX4_isMarkBehind 15 = .ok (.if_icmp .ne 12, 3) := by decide +kernel
theorem dX4_isMarkBehind_18 : decode cX4_isMarkBehind 18 = .ok (.iload_n 0, 1) := by decide +kernel
theorem dX4_isMarkBehind_19 : decode cX4_isMarkBehind 19 = .ok (.iconst 2, 1) := by decide +kernel
theorem dX4_isMarkBehind_20 : decode cX4_isMarkBehind 20 = .ok (.if_icmp .lt 7, 3) := by decide +kernel
theorem dX4_isMarkBehind_23 : decode cX4_isMarkBehind 23 = .ok (.iconst 1, 1) := by decide +kernel
theorem dX4_isMarkBehind_24 : decode cX4_isMarkBehind 24 = .ok (.goto 4, 3) := by decide +kernel
theorem dX4_isMarkBehind_27 : decode cX4_isMarkBehind 27 = .ok (.iconst 0, 1) := by decide +kernel
theorem dX4_isMarkBehind_28 : decode cX4_isMarkBehind 28 = .ok (.ireturn, 1) := by decide +kernel
set_option maxRecDepth 20000 in
theorem ggX5_init_X3_init : GoodIn wsX5_init wsX3_init := goodIn_r _ [3, 4, 5, 6] (by decide +kernel) (by decide +kernel)
set_option maxRecDepth 20000 in
theorem gX5_init_X3_init_n1 : GoodIn wsX5_init (wsX3_init) := ggX5_init_X3_init
theorem dX5_init_0 : decode cX5_init 0 = .ok (.aload_n 0, 1) := by decide +kernel
theorem dX5_init_1 : decode cX5_init 1 = .ok (.invokespecial 1, 3) := by decide +kernel
theorem dX5_init_4 : decode cX5_init 4 = .ok (.return_, 1) := by decide +kernel
theorem dX5_kind_0 : decode cX5_kind 0 = .ok (.iconst 1, 1) := by decide +kernel
theorem dX5_kind_1 : decode cX5_kind 1 = .ok (.ireturn, 1) := by decide +kernel
theorem dX5_minutesFor_0 : decode cX5_minutesFor 0 = .ok (.iconst 2, 1) := by decide +kernel
theorem dX5_minutesFor_1 : decode cX5_minutesFor 1 = .ok (.iload_n 1, 1) := by decide +kernel
theorem dX5_minutesFor_2 : decode cX5_minutesFor 2 = .ok (.imul, 1) := by decide +kernel
theorem dX5_minutesFor_3 : decode cX5_minutesFor 3 = .ok (.ireturn, 1) := by decide +kernel
set_option maxRecDepth 20000 in
theorem ggX6_init_X3_init : GoodIn wsX6_init wsX3_init := goodIn_r _ [28, 29, 2, 3] (by decide +kernel) (by decide +kernel)
set_option maxRecDepth 20000 in
theorem gX6_init_X3_init_n9 : GoodIn wsX6_init (wsX3_init) := ggX6_init_X3_init
set_option maxRecDepth 20000 in
theorem ggX6_init_X5_init : GoodIn wsX6_init wsX5_init := goodIn_r _ [31, 27, 6, 28, 29, 2, 3] (by decide +kernel) (by decide +kernel)
set_option maxRecDepth 20000 in
theorem gX6_init_X5_init_n18 : GoodIn wsX6_init (wsX5_init) := ggX6_init_X5_init
set_option maxRecDepth 20000 in
theorem ggX6_init_X0_init : GoodIn wsX6_init wsX0_init := goodIn_r _ [33, 27, 6, 28, 29, 2, 3] (by decide +kernel) (by decide +kernel)
set_option maxRecDepth 20000 in
theorem gX6_init_X0_init_n24 : GoodIn wsX6_init (wsX0_init) := ggX6_init_X0_init
set_option maxRecDepth 20000 in
theorem ggX6_init_X1_init : GoodIn wsX6_init wsX1_init := goodIn_r _ [35, 27, 6, 28, 29, 2, 3] (by decide +kernel) (by decide +kernel)
set_option maxRecDepth 20000 in
theorem gX6_init_X1_init_n30 : GoodIn wsX6_init (wsX1_init) := ggX6_init_X1_init
set_option maxRecDepth 20000 in
theorem ggX6_init_X9_init : GoodIn wsX6_init wsX9_init := goodIn_r _ [37, 30, 10, 31, 27, 6, 28, 29, 2, 3] (by decide +kernel) (by decide +kernel)
set_option maxRecDepth 20000 in
theorem gX6_init_X9_init_n36 : GoodIn wsX6_init (wsX9_init) := ggX6_init_X9_init
theorem dX6_init_0 : decode cX6_init 0 = .ok (.aload_n 0, 1) := by decide +kernel
theorem dX6_init_1 : decode cX6_init 1 = .ok (.invokespecial 1, 3) := by decide +kernel
theorem dX6_init_4 : decode cX6_init 4 = .ok (.aload_n 0, 1) := by decide +kernel
theorem dX6_init_5 : decode cX6_init 5 = .ok (.new 7, 3) := by decide +kernel
theorem dX6_init_8 : decode cX6_init 8 = .ok (.dup, 1) := by decide +kernel
theorem dX6_init_9 : decode cX6_init 9 = .ok (.invokespecial 9, 3) := by decide +kernel
theorem dX6_init_12 : decode cX6_init 12 = .ok (.putfield 10, 3) := by decide +kernel
theorem dX6_init_15 : decode cX6_init 15 = .ok (.aload_n 0, 1) := by decide +kernel
theorem dX6_init_16 : decode cX6_init 16 = .ok (.new 16, 3) := by decide +kernel
theorem dX6_init_19 : decode cX6_init 19 = .ok (.dup, 1) := by decide +kernel
theorem dX6_init_20 : decode cX6_init 20 = .ok (.invokespecial 18, 3) := by decide +kernel
theorem dX6_init_23 : decode cX6_init 23 = .ok (.putfield 19, 3) := by decide +kernel
theorem dX6_init_26 : decode cX6_init 26 = .ok (.aload_n 0, 1) := by decide +kernel
theorem dX6_init_27 : decode cX6_init 27 = .ok (.new 22, 3) := by decide +kernel
theorem dX6_init_30 : decode cX6_init 30 = .ok (.dup, 1) := by decide +kernel
theorem dX6_init_31 : decode cX6_init 31 = .ok (.invokespecial 24, 3) := by decide +kernel
theorem dX6_init_34 : decode cX6_init 34 = .ok (.putfield 25, 3) := by decide +kernel
theorem dX6_init_37 : decode cX6_init 37 = .ok (.aload_n 0, 1) := by decide +kernel
theorem dX6_init_38 : decode cX6_init 38 = .ok (.new 28, 3) := by decide +kernel
theorem dX6_init_41 : decode cX6_init 41 = .ok (.dup, 1) := by decide +kernel
theorem dX6_init_42 : decode cX6_init 42 = .ok (.invokespecial 30, 3) := by decide +kernel
theorem dX6_init_45 : decode cX6_init 45 = .ok (.putfield 31, 3) := by decide +kernel
theorem dX6_init_48 : decode cX6_init 48 = .ok (.aload_n 0, 1) := by decide +kernel
theorem dX6_init_49 : decode cX6_init 49 = .ok (.new 34, 3) := by decide +kernel
theorem dX6_init_52 : decode cX6_init 52 = .ok (.dup, 1) := by decide +kernel
theorem dX6_init_53 : decode cX6_init 53 = .ok (.invokespecial 36, 3) := by decide +kernel
theorem dX6_init_56 : decode cX6_init 56 = .ok (.putfield 37, 3) := by decide +kernel
theorem dX6_init_59 : decode cX6_init 59 = .ok (.aload_n 0, 1) := by decide +kernel
theorem dX6_init_60 : decode cX6_init 60 = .ok (.bipush 6, 2) := by decide +kernel
theorem dX6_init_62 : decode cX6_init 62 = .ok (.anewarray 7, 3) := by decide +kernel
theorem dX6_init_65 : decode cX6_init 65 = .ok (.dup, 1) := by decide +kernel
theorem dX6_init_66 : decode cX6_init 66 = .ok (.iconst 0, 1) := by decide +kernel
theorem dX6_init_67 : decode cX6_init 67 = .ok (.aload_n 0, 1) := by decide +kernel
theorem dX6_init_68 : decode cX6_init 68 = .ok (.getfield 10, 3) := by decide +kernel
theorem dX6_init_71 : decode cX6_init 71 = .ok (.aastore, 1) := by decide +kernel
theorem dX6_init_72 : decode cX6_init 72 = .ok (.dup, 1) := by decide +kernel
theorem dX6_init_73 : decode cX6_init 73 = .ok (.iconst 1, 1) := by decide +kernel
theorem dX6_init_74 : decode cX6_init 74 = .ok (.aload_n 0, 1) := by decide +kernel
theorem dX6_init_75 : decode cX6_init 75 = .ok (.getfield 10, 3) := by decide +kernel
theorem dX6_init_78 : decode cX6_init 78 = .ok (.aastore, 1) := by decide +kernel
theorem dX6_init_79 : decode cX6_init 79 = .ok (.dup, 1) := by decide +kernel
theorem dX6_init_80 : decode cX6_init 80 = .ok (.iconst 2, 1) := by decide +kernel
theorem dX6_init_81 : decode cX6_init 81 = .ok (.aload_n 0, 1) := by decide +kernel
theorem dX6_init_82 : decode cX6_init 82 = .ok (.getfield 10, 3) := by decide +kernel
theorem dX6_init_85 : decode cX6_init 85 = .ok (.aastore, 1) := by decide +kernel
theorem dX6_init_86 : decode cX6_init 86 = .ok (.dup, 1) := by decide +kernel
theorem dX6_init_87 : decode cX6_init 87 = .ok (.iconst 3, 1) := by decide +kernel
theorem dX6_init_88 : decode cX6_init 88 = .ok (.aload_n 0, 1) := by decide +kernel
theorem dX6_init_89 : decode cX6_init 89 = .ok (.getfield 10, 3) := by decide +kernel
theorem dX6_init_92 : decode cX6_init 92 = .ok (.aastore, 1) := by decide +kernel
theorem dX6_init_93 : decode cX6_init 93 = .ok (.dup, 1) := by decide +kernel
theorem dX6_init_94 : decode cX6_init 94 = .ok (.iconst 4, 1) := by decide +kernel
theorem dX6_init_95 : decode cX6_init 95 = .ok (.aload_n 0, 1) := by decide +kernel
theorem dX6_init_96 : decode cX6_init 96 = .ok (.getfield 10, 3) := by decide +kernel
theorem dX6_init_99 : decode cX6_init 99 = .ok (.aastore, 1) := by decide +kernel
theorem dX6_init_100 : decode cX6_init 100 = .ok (.dup, 1) := by decide +kernel
theorem dX6_init_101 : decode cX6_init 101 = .ok (.iconst 5, 1) := by decide +kernel
theorem dX6_init_102 : decode cX6_init 102 = .ok (.aload_n 0, 1) := by decide +kernel
theorem dX6_init_103 : decode cX6_init 103 = .ok (.getfield 10, 3) := by decide +kernel
theorem dX6_init_106 : decode cX6_init 106 = .ok (.aastore, 1) := by decide +kernel
theorem dX6_init_107 : decode cX6_init 107 = .ok (.putfield 40, 3) := by decide +kernel
theorem dX6_init_110 : decode cX6_init 110 = .ok (.aload_n 0, 1) := by decide +kernel
theorem dX6_init_111 : decode cX6_init 111 = .ok (.iconst 0, 1) := by decide +kernel
theorem dX6_init_112 : decode cX6_init 112 = .ok (.putfield 44, 3) := by decide +kernel
theorem dX6_init_115 : decode cX6_init 115 = .ok (.aload_n 0, 1) := by decide +kernel
theorem dX6_init_116 : decode cX6_init 116 = .ok (.iconst 0, 1) := by decide +kernel
theorem dX6_init_117 : decode cX6_init 117 = .ok (.putfield 48, 3) := by decide +kernel
theorem dX6_init_120 : decode cX6_init 120 = .ok (.return_, 1) := by decide +kernel
set_option maxRecDepth 20000 in
theorem ggX6_settle_X4_houses : GoodIn wsX6_settle wsX4_houses := goodIn_r _ [8, 9, 37, 38] (by decide +kernel) (by decide +kernel)
set_option maxRecDepth 20000 in
theorem gX6_settle_X4_houses : GoodIn wsX6_settle (wsV RX6 51 RX4 yX4_houses wsX4_houses) := goodIn_app (goodIn_of _ (by decide +kernel)) ggX6_settle_X4_houses
set_option maxRecDepth 20000 in
theorem ggX6_settle_X4_keepAtEnd : GoodIn wsX6_settle wsX4_keepAtEnd := goodIn_r _ [13, 14, 9, 37, 38] (by decide +kernel) (by decide +kernel)
set_option maxRecDepth 20000 in
theorem gX6_settle_X4_keepAtEnd : GoodIn wsX6_settle (wsV RX6 56 RX4 yX4_keepAtEnd wsX4_keepAtEnd) := goodIn_app (goodIn_of _ (by decide +kernel)) ggX6_settle_X4_keepAtEnd
set_option maxRecDepth 20000 in
theorem ggX6_settle_X4_kindSignAt : GoodIn wsX6_settle wsX4_kindSignAt := goodIn_r _ [18, 14, 37, 38] (by decide +kernel) (by decide +kernel)
set_option maxRecDepth 20000 in
theorem gX6_settle_X4_kindSignAt : GoodIn wsX6_settle (wsV RX6 59 RX4 yX4_kindSignAt wsX4_kindSignAt) := goodIn_app (goodIn_of _ (by decide +kernel)) ggX6_settle_X4_kindSignAt
set_option maxRecDepth 20000 in
theorem ggX6_settle_X6_houseOf : GoodIn wsX6_settle wsX6_houseOf := goodIn_r _ [23, 24, 25, 26, 27, 28, 29, 30, 31, 32, 33, 34, 35, 36] (by decide +kernel) (by decide +kernel)
set_option maxRecDepth 20000 in
theorem gX6_settle_X6_houseOf : GoodIn wsX6_settle (wsV RX6 63 RX6 yX6_houseOf wsX6_houseOf) := goodIn_app (goodIn_of _ (by decide +kernel)) ggX6_settle_X6_houseOf
theorem dX6_settle_0 : decode cX6_settle 0 = .ok (.aload_n 0, 1) := by decide +kernel
theorem dX6_settle_1 : decode cX6_settle 1 = .ok (.aload_n 1, 1) := by decide +kernel
theorem dX6_settle_2 : decode cX6_settle 2 = .ok (.invokevirtual 51, 3) := by decide +kernel
theorem dX6_settle_5 : decode cX6_settle 5 = .ok (.putfield 44, 3) := by decide +kernel
theorem dX6_settle_8 : decode cX6_settle 8 = .ok (.aload_n 0, 1) := by decide +kernel
theorem dX6_settle_9 : decode cX6_settle 9 = .ok (.aload_n 1, 1) := by decide +kernel
theorem dX6_settle_10 : decode cX6_settle 10 = .ok (.invokevirtual 56, 3) := by decide +kernel
theorem dX6_settle_13 : decode cX6_settle 13 = .ok (.putfield 48, 3) := by decide +kernel
theorem dX6_settle_16 : decode cX6_settle 16 = .ok (.iconst 0, 1) := by decide +kernel
theorem dX6_settle_17 : decode cX6_settle 17 = .ok (.istore_n 2, 1) := by decide +kernel
theorem dX6_settle_18 : decode cX6_settle 18 = .ok (.iload_n 2, 1) := by decide +kernel
theorem dX6_settle_19 : decode cX6_settle 19 = .ok (.aload_n 0, 1) := by decide +kernel
theorem dX6_settle_20 : decode cX6_settle 20 = .ok (.getfield 44, 3) := by decide +kernel
theorem dX6_settle_23 : decode cX6_settle 23 = .ok (.if_icmp .ge 24, 3) := by decide +kernel
theorem dX6_settle_26 : decode cX6_settle 26 = .ok (.aload_n 0, 1) := by decide +kernel
theorem dX6_settle_27 : decode cX6_settle 27 = .ok (.getfield 40, 3) := by decide +kernel
theorem dX6_settle_30 : decode cX6_settle 30 = .ok (.iload_n 2, 1) := by decide +kernel
theorem dX6_settle_31 : decode cX6_settle 31 = .ok (.aload_n 0, 1) := by decide +kernel
theorem dX6_settle_32 : decode cX6_settle 32 = .ok (.aload_n 1, 1) := by decide +kernel
theorem dX6_settle_33 : decode cX6_settle 33 = .ok (.iload_n 2, 1) := by decide +kernel
theorem dX6_settle_34 : decode cX6_settle 34 = .ok (.invokevirtual 59, 3) := by decide +kernel
theorem dX6_settle_37 : decode cX6_settle 37 = .ok (.invokevirtual 63, 3) := by decide +kernel
theorem dX6_settle_40 : decode cX6_settle 40 = .ok (.aastore, 1) := by decide +kernel
theorem dX6_settle_41 : decode cX6_settle 41 = .ok (.iinc 2 1, 3) := by decide +kernel
theorem dX6_settle_44 : decode cX6_settle 44 = .ok (.goto (-26), 3) := by decide +kernel
theorem dX6_settle_47 : decode cX6_settle 47 = .ok (.return_, 1) := by decide +kernel
theorem dX6_houseOf_0 : decode cX6_houseOf 0 = .ok (.iload_n 1, 1) := by decide +kernel
theorem dX6_houseOf_1 : decode cX6_houseOf 1 = .ok (.lookupswitch 63 #[(97, 48), (98, 53), (115, 43), (119, 58)], 43) := by decide +kernel
theorem dX6_houseOf_44 : decode cX6_houseOf 44 = .ok (.aload_n 0, 1) := by decide +kernel
theorem dX6_houseOf_45 : decode cX6_houseOf 45 = .ok (.getfield 19, 3) := by decide +kernel
theorem dX6_houseOf_48 : decode cX6_houseOf 48 = .ok (.areturn, 1) := by decide +kernel
theorem dX6_houseOf_49 : decode cX6_houseOf 49 = .ok (.aload_n 0, 1) := by decide +kernel
theorem dX6_houseOf_50 : decode cX6_houseOf 50 = .ok (.getfield 25, 3) := by decide +kernel
theorem dX6_houseOf_53 : decode cX6_houseOf 53 = .ok (.areturn, 1) := by decide +kernel
theorem dX6_houseOf_54 : decode cX6_houseOf 54 = .ok (.aload_n 0, 1) := by decide +kernel
theorem dX6_houseOf_55 : decode cX6_houseOf 55 = .ok (.getfield 31, 3) := by decide +kernel
theorem dX6_houseOf_58 : decode cX6_houseOf 58 = .ok (.areturn, 1) := by decide +kernel
theorem dX6_houseOf_59 : decode cX6_houseOf 59 = .ok (.aload_n 0, 1) := by decide +kernel
theorem dX6_houseOf_60 : decode cX6_houseOf 60 = .ok (.getfield 37, 3) := by decide +kernel
theorem dX6_houseOf_63 : decode cX6_houseOf 63 = .ok (.areturn, 1) := by decide +kernel
theorem dX6_houseOf_64 : decode cX6_houseOf 64 = .ok (.aload_n 0, 1) := by decide +kernel
theorem dX6_houseOf_65 : decode cX6_houseOf 65 = .ok (.getfield 10, 3) := by decide +kernel
theorem dX6_houseOf_68 : decode cX6_houseOf 68 = .ok (.areturn, 1) := by decide +kernel
theorem dX6_has_0 : decode cX6_has 0 = .ok (.iload_n 1, 1) := by decide +kernel
theorem dX6_has_1 : decode cX6_has 1 = .ok (.ifCond .lt 15, 3) := by decide +kernel
theorem dX6_has_4 : decode cX6_has 4 = .ok (.iload_n 1, 1) := by decide +kernel
theorem dX6_has_5 : decode cX6_has 5 = .ok (.aload_n 0, 1) := by decide +kernel
theorem dX6_has_6 : decode cX6_has 6 = .ok (.getfield 44, 3) := by decide +kernel
theorem dX6_has_9 : decode cX6_has 9 = .ok (.if_icmp .ge 7, 3) := by decide +kernel
theorem dX6_has_12 : decode cX6_has 12 = .ok (.iconst 1, 1) := by decide +kernel
theorem dX6_has_13 : decode cX6_has 13 = .ok (.goto 4, 3) := by decide +kernel
theorem dX6_has_16 : decode cX6_has 16 = .ok (.iconst 0, 1) := by decide +kernel
theorem dX6_has_17 : decode cX6_has 17 = .ok (.ireturn, 1) := by decide +kernel
set_option maxRecDepth 20000 in
theorem ggX6_reading_X0_minutesFor : GoodIn wsX6_reading wsX0_minutesFor := goodIn_r _ [8] (by decide +kernel) (by decide +kernel)
set_option maxRecDepth 20000 in
theorem gX6_reading_X0_minutesFor_u67X0 : GoodIn wsX6_reading (va_wsO RX6 67 RX0 "MilkRound$House" ⟨"MilkRound$House", "minutesFor", "(I)I"⟩ yX0_minutesFor wsX0_minutesFor) := goodIn_app (goodIn_of _ (by decide +kernel)) ggX6_reading_X0_minutesFor
set_option maxRecDepth 20000 in
theorem ggX6_reading_X1_minutesFor : GoodIn wsX6_reading wsX1_minutesFor := goodIn_r _ [13] (by decide +kernel) (by decide +kernel)
set_option maxRecDepth 20000 in
theorem gX6_reading_X1_minutesFor_u67X1 : GoodIn wsX6_reading (va_wsO RX6 67 RX1 "MilkRound$House" ⟨"MilkRound$House", "minutesFor", "(I)I"⟩ yX1_minutesFor wsX1_minutesFor) := goodIn_app (goodIn_of _ (by decide +kernel)) ggX6_reading_X1_minutesFor
set_option maxRecDepth 20000 in
theorem ggX6_reading_X3_minutesFor : GoodIn wsX6_reading wsX3_minutesFor := goodIn_r _ [9] (by decide +kernel) (by decide +kernel)
set_option maxRecDepth 20000 in
theorem gX6_reading_X3_minutesFor : GoodIn wsX6_reading (wsV RX6 67 RX3 yX3_minutesFor wsX3_minutesFor) := goodIn_app (goodIn_of _ (by decide +kernel)) ggX6_reading_X3_minutesFor
set_option maxRecDepth 20000 in
theorem ggX6_reading_X5_minutesFor : GoodIn wsX6_reading wsX5_minutesFor := goodIn_r _ [21] (by decide +kernel) (by decide +kernel)
set_option maxRecDepth 20000 in
theorem gX6_reading_X5_minutesFor_u67X5 : GoodIn wsX6_reading (va_wsO RX6 67 RX5 "MilkRound$House" ⟨"MilkRound$House", "minutesFor", "(I)I"⟩ yX5_minutesFor wsX5_minutesFor) := goodIn_app (goodIn_of _ (by decide +kernel)) ggX6_reading_X5_minutesFor
set_option maxRecDepth 20000 in
theorem ggX6_reading_X9_minutesFor : GoodIn wsX6_reading wsX9_minutesFor := goodIn_r _ [25, 26, 27, 28, 19, 20, 21] (by decide +kernel) (by decide +kernel)
set_option maxRecDepth 20000 in
theorem gX6_reading_X9_minutesFor_u67X9 : GoodIn wsX6_reading (va_wsO RX6 67 RX9 "MilkRound$House" ⟨"MilkRound$House", "minutesFor", "(I)I"⟩ yX9_minutesFor wsX9_minutesFor) := goodIn_app (goodIn_of _ (by decide +kernel)) ggX6_reading_X9_minutesFor
set_option maxRecDepth 20000 in
theorem ggX6_reading_X10_bitOf : GoodIn wsX6_reading wsX10_bitOf := goodIn_r _ [31] (by decide +kernel) (by decide +kernel)
set_option maxRecDepth 20000 in
theorem gX6_reading_X10_bitOf_n71 : GoodIn wsX6_reading (wsX10_bitOf) := ggX6_reading_X10_bitOf
theorem dX6_reading_0 : decode cX6_reading 0 = .ok (.aload_n 0, 1) := by decide +kernel
theorem dX6_reading_1 : decode cX6_reading 1 = .ok (.getfield 40, 3) := by decide +kernel
theorem dX6_reading_4 : decode cX6_reading 4 = .ok (.iload_n 1, 1) := by decide +kernel
theorem dX6_reading_5 : decode cX6_reading 5 = .ok (.aaload, 1) := by decide +kernel
theorem dX6_reading_6 : decode cX6_reading 6 = .ok (.iload_n 2, 1) := by decide +kernel
theorem dX6_reading_7 : decode cX6_reading 7 = .ok (.invokevirtual 67, 3) := by decide +kernel
theorem dX6_reading_10 : decode cX6_reading 10 = .ok (.istore 4, 2) := by decide +kernel
theorem dX6_reading_12 : decode cX6_reading 12 = .ok (.iload_n 3, 1) := by decide +kernel
theorem dX6_reading_13 : decode cX6_reading 13 = .ok (.iload_n 1, 1) := by decide +kernel
theorem dX6_reading_14 : decode cX6_reading 14 = .ok (.invokestatic 71, 3) := by decide +kernel
theorem dX6_reading_17 : decode cX6_reading 17 = .ok (.iconst 1, 1) := by decide +kernel
theorem dX6_reading_18 : decode cX6_reading 18 = .ok (.if_icmp .ne 10, 3) := by decide +kernel
theorem dX6_reading_21 : decode cX6_reading 21 = .ok (.iload 4, 2) := by decide +kernel
theorem dX6_reading_23 : decode cX6_reading 23 = .ok (.iconst 2, 1) := by decide +kernel
theorem dX6_reading_24 : decode cX6_reading 24 = .ok (.idiv, 1) := by decide +kernel
theorem dX6_reading_25 : decode cX6_reading 25 = .ok (.goto 5, 3) := by decide +kernel
theorem dX6_reading_28 : decode cX6_reading 28 = .ok (.iload 4, 2) := by decide +kernel
theorem dX6_reading_30 : decode cX6_reading 30 = .ok (.ireturn, 1) := by decide +kernel
theorem dX7_init_0 : decode cX7_init 0 = .ok (.aload_n 0, 1) := by decide +kernel
theorem dX7_init_1 : decode cX7_init 1 = .ok (.invokespecial 3, 3) := by decide +kernel
theorem dX7_init_4 : decode cX7_init 4 = .ok (.aload_n 0, 1) := by decide +kernel
theorem dX7_init_5 : decode cX7_init 5 = .ok (.bipush 6, 2) := by decide +kernel
theorem dX7_init_7 : decode cX7_init 7 = .ok (.sipush 151, 3) := by decide +kernel
theorem dX7_init_10 : decode cX7_init 10 = .ok (.multianewarray 9 2, 4) := by decide +kernel
theorem dX7_init_14 : decode cX7_init 14 = .ok (.putfield 11, 3) := by decide +kernel
theorem dX7_init_17 : decode cX7_init 17 = .ok (.aload_n 0, 1) := by decide +kernel
theorem dX7_init_18 : decode cX7_init 18 = .ok (.bipush 6, 2) := by decide +kernel
theorem dX7_init_20 : decode cX7_init 20 = .ok (.newarray .int, 2) := by decide +kernel
theorem dX7_init_22 : decode cX7_init 22 = .ok (.putfield 16, 3) := by decide +kernel
theorem dX7_init_25 : decode cX7_init 25 = .ok (.return_, 1) := by decide +kernel
theorem dX7_clear_0 : decode cX7_clear 0 = .ok (.iconst 0, 1) := by decide +kernel
theorem dX7_clear_1 : decode cX7_clear 1 = .ok (.istore_n 1, 1) := by decide +kernel
theorem dX7_clear_2 : decode cX7_clear 2 = .ok (.iload_n 1, 1) := by decide +kernel
theorem dX7_clear_3 : decode cX7_clear 3 = .ok (.bipush 6, 2) := by decide +kernel
theorem dX7_clear_5 : decode cX7_clear 5 = .ok (.if_icmp .ge 40, 3) := by decide +kernel
theorem dX7_clear_8 : decode cX7_clear 8 = .ok (.aload_n 0, 1) := by decide +kernel
theorem dX7_clear_9 : decode cX7_clear 9 = .ok (.getfield 16, 3) := by decide +kernel
theorem dX7_clear_12 : decode cX7_clear 12 = .ok (.iload_n 1, 1) := by decide +kernel
theorem dX7_clear_13 : decode cX7_clear 13 = .ok (.iconst 0, 1) := by decide +kernel
theorem dX7_clear_14 : decode cX7_clear 14 = .ok (.iastore, 1) := by decide +kernel
theorem dX7_clear_15 : decode cX7_clear 15 = .ok (.iconst 0, 1) := by decide +kernel
theorem dX7_clear_16 : decode cX7_clear 16 = .ok (.istore_n 2, 1) := by decide +kernel
theorem dX7_clear_17 : decode cX7_clear 17 = .ok (.iload_n 2, 1) := by decide +kernel
theorem dX7_clear_18 : decode cX7_clear 18 = .ok (.sipush 150, 3) := by decide +kernel
theorem dX7_clear_21 : decode cX7_clear 21 = .ok (.if_icmp .gt 18, 3) := by decide +kernel
theorem dX7_clear_24 : decode cX7_clear 24 = .ok (.aload_n 0, 1) := by decide +kernel
theorem dX7_clear_25 : decode cX7_clear 25 = .ok (.getfield 11, 3) := by decide +kernel
theorem dX7_clear_28 : decode cX7_clear 28 = .ok (.iload_n 1, 1) := by decide +kernel
theorem dX7_clear_29 : decode cX7_clear 29 = .ok (.aaload, 1) := by decide +kernel
theorem dX7_clear_30 : decode cX7_clear 30 = .ok (.iload_n 2, 1) := by decide +kernel
theorem dX7_clear_31 : decode cX7_clear 31 = .ok (.iconst 0, 1) := by decide +kernel
theorem dX7_clear_32 : decode cX7_clear 32 = .ok (.iastore, 1) := by decide +kernel
theorem dX7_clear_33 : decode cX7_clear 33 = .ok (.iinc 2 1, 3) := by decide +kernel
theorem dX7_clear_36 : decode cX7_clear 36 = .ok (.goto (-19), 3) := by decide +kernel
theorem dX7_clear_39 : decode cX7_clear 39 = .ok (.iinc 1 1, 3) := by decide +kernel
theorem dX7_clear_42 : decode cX7_clear 42 = .ok (.goto (-40), 3) := by decide +kernel
theorem dX7_clear_45 : decode cX7_clear 45 = .ok (.return_, 1) := by decide +kernel
theorem dX7_add_0 : decode cX7_add 0 = .ok (.iconst 0, 1) := by decide +kernel
theorem dX7_add_1 : decode cX7_add 1 = .ok (.istore_n 3, 1) := by decide +kernel
theorem dX7_add_2 : decode cX7_add 2 = .ok (.iload_n 3, 1) := by decide +kernel
theorem dX7_add_3 : decode cX7_add 3 = .ok (.iload_n 2, 1) := by decide +kernel
theorem dX7_add_4 : decode cX7_add 4 = .ok (.if_icmp .ge 64, 3) := by decide +kernel
theorem dX7_add_7 : decode cX7_add 7 = .ok (.aload_n 1, 1) := by decide +kernel
theorem dX7_add_8 : decode cX7_add 8 = .ok (.iload_n 3, 1) := by decide +kernel
theorem dX7_add_9 : decode cX7_add 9 = .ok (.iaload, 1) := by decide +kernel
theorem dX7_add_10 : decode cX7_add 10 = .ok (.istore 4, 2) := by decide +kernel
theorem dX7_add_12 : decode cX7_add 12 = .ok (.iload 4, 2) := by decide +kernel
theorem dX7_add_14 : decode cX7_add 14 = .ok (.ifCond .lt 48, 3) := by decide +kernel
theorem dX7_add_17 : decode cX7_add 17 = .ok (.iload 4, 2) := by decide +kernel
theorem dX7_add_19 : decode cX7_add 19 = .ok (.sipush 150, 3) := by decide +kernel
theorem dX7_add_22 : decode cX7_add 22 = .ok (.if_icmp .gt 40, 3) := by decide +kernel
theorem dX7_add_25 : decode cX7_add 25 = .ok (.aload_n 0, 1) := by decide +kernel
theorem dX7_add_26 : decode cX7_add 26 = .ok (.getfield 11, 3) := by decide +kernel
theorem dX7_add_29 : decode cX7_add 29 = .ok (.iload_n 3, 1) := by decide +kernel
theorem dX7_add_30 : decode cX7_add 30 = .ok (.aaload, 1) := by decide +kernel
theorem dX7_add_31 : decode cX7_add 31 = .ok (.iload 4, 2) := by decide +kernel
theorem dX7_add_33 : decode cX7_add 33 = .ok (.dup2, 1) := by decide +kernel
theorem dX7_add_34 : decode cX7_add 34 = .ok (.iaload, 1) := by decide +kernel
theorem dX7_add_35 : decode cX7_add 35 = .ok (.iconst 1, 1) := by decide +kernel
theorem dX7_add_36 : decode cX7_add 36 = .ok (.iadd, 1) := by decide +kernel
theorem dX7_add_37 : decode cX7_add 37 = .ok (.iastore, 1) := by decide +kernel
theorem dX7_add_38 : decode cX7_add 38 = .ok (.aload_n 0, 1) := by decide +kernel
theorem dX7_add_39 : decode cX7_add 39 = .ok (.getfield 16, 3) := by decide +kernel
theorem dX7_add_42 : decode cX7_add 42 = .ok (.iload_n 3, 1) := by decide +kernel
theorem dX7_add_43 : decode cX7_add 43 = .ok (.aload_n 0, 1) := by decide +kernel
theorem dX7_add_44 : decode cX7_add 44 = .ok (.getfield 16, 3) := by decide +kernel
theorem dX7_add_47 : decode cX7_add 47 = .ok (.iload_n 3, 1) := by decide +kernel
theorem dX7_add_48 : decode cX7_add 48 = .ok (.iaload, 1) := by decide +kernel
theorem dX7_add_49 : decode cX7_add 49 = .ok (.aload_n 0, 1) := by decide +kernel
theorem dX7_add_50 : decode cX7_add 50 = .ok (.getfield 11, 3) := by decide +kernel
theorem dX7_add_53 : decode cX7_add 53 = .ok (.iload_n 3, 1) := by decide +kernel
theorem dX7_add_54 : decode cX7_add 54 = .ok (.aaload, 1) := by decide +kernel
theorem dX7_add_55 : decode cX7_add 55 = .ok (.iload 4, 2) := by decide +kernel
theorem dX7_add_57 : decode cX7_add 57 = .ok (.iaload, 1) := by decide +kernel
theorem dX7_add_58 : decode cX7_add 58 = .ok (.invokestatic 20, 3) := by decide +kernel
theorem dX7_add_61 : decode cX7_add 61 = .ok (.iastore, 1) := by decide +kernel
theorem dX7_add_62 : decode cX7_add 62 = .ok (.iinc 3 1, 3) := by decide +kernel
theorem dX7_add_65 : decode cX7_add 65 = .ok (.goto (-63), 3) := by decide +kernel
theorem dX7_add_68 : decode cX7_add 68 = .ok (.return_, 1) := by decide +kernel
theorem dX7_houseOfLeastWorst_0 : decode cX7_houseOfLeastWorst 0 = .ok (.iconst 0, 1) := by decide +kernel
theorem dX7_houseOfLeastWorst_1 : decode cX7_houseOfLeastWorst 1 = .ok (.istore_n 2, 1) := by decide +kernel
theorem dX7_houseOfLeastWorst_2 : decode cX7_houseOfLeastWorst 2 = .ok (.iconst 1, 1) := by decide +kernel
theorem dX7_houseOfLeastWorst_3 : decode cX7_houseOfLeastWorst 3 = .ok (.istore_n 3, 1) := by decide +kernel
theorem dX7_houseOfLeastWorst_4 : decode cX7_houseOfLeastWorst 4 = .ok (.iload_n 3, 1) := by decide +kernel
theorem dX7_houseOfLeastWorst_5 : decode cX7_houseOfLeastWorst 5 = .ok (.iload_n 1, 1) := by decide +kernel
theorem dX7_houseOfLeastWorst_6 : decode cX7_houseOfLeastWorst 6 = .ok (.if_icmp .ge 26, 3) := by decide +kernel
theorem dX7_houseOfLeastWorst_9 : decode cX7_houseOfLeastWorst 9 = .ok (.aload_n 0, 1) := by decide +kernel
theorem dX7_houseOfLeastWorst_10 : decode cX7_houseOfLeastWorst 10 = .ok (.getfield 16, 3) := by decide +kernel
theorem dX7_houseOfLeastWorst_13 : decode cX7_houseOfLeastWorst 13 = .ok (.iload_n 3, 1) := by decide +kernel
theorem dX7_houseOfLeastWorst_14 : decode cX7_houseOfLeastWorst 14 = .ok (.iaload, 1) := by decide +kernel
theorem dX7_houseOfLeastWorst_15 : decode cX7_houseOfLeastWorst 15 = .ok (.aload_n 0, 1) := by decide +kernel
theorem dX7_houseOfLeastWorst_16 : decode cX7_houseOfLeastWorst 16 = .ok (.getfield 16, 3) := by decide +kernel
theorem dX7_houseOfLeastWorst_19 : decode cX7_houseOfLeastWorst 19 = .ok (.iload_n 2, 1) := by decide +kernel
theorem dX7_houseOfLeastWorst_20 : decode cX7_houseOfLeastWorst 20 = .ok (.iaload, 1) := by decide +kernel
theorem dX7_houseOfLeastWorst_21 : decode cX7_houseOfLeastWorst 21 = .ok (.if_icmp .ge 5, 3) := by decide +kernel
theorem dX7_houseOfLeastWorst_24 : decode cX7_houseOfLeastWorst 24 = .ok (.iload_n 3, 1) := by decide +kernel
theorem dX7_houseOfLeastWorst_25 : decode cX7_houseOfLeastWorst 25 = .ok (.istore_n 2, 1) := by decide +kernel
theorem dX7_houseOfLeastWorst_26 : decode cX7_houseOfLeastWorst 26 = .ok (.iinc 3 1, 3) := by decide +kernel
theorem dX7_houseOfLeastWorst_29 : decode cX7_houseOfLeastWorst 29 = .ok (.goto (-25), 3) := by decide +kernel
theorem dX7_houseOfLeastWorst_32 : decode cX7_houseOfLeastWorst 32 = .ok (.iload_n 2, 1) := by decide +kernel
theorem dX7_houseOfLeastWorst_33 : decode cX7_houseOfLeastWorst 33 = .ok (.ireturn, 1) := by decide +kernel
theorem dX8_init_0 : decode cX8_init 0 = .ok (.aload_n 0, 1) := by decide +kernel
theorem dX8_init_1 : decode cX8_init 1 = .ok (.invokespecial 3, 3) := by decide +kernel
theorem dX8_init_4 : decode cX8_init 4 = .ok (.aload_n 0, 1) := by decide +kernel
theorem dX8_init_5 : decode cX8_init 5 = .ok (.bipush 6, 2) := by decide +kernel
theorem dX8_init_7 : decode cX8_init 7 = .ok (.newarray .int, 2) := by decide +kernel
theorem dX8_init_9 : decode cX8_init 9 = .ok (.putfield 9, 3) := by decide +kernel
theorem dX8_init_12 : decode cX8_init 12 = .ok (.aload_n 0, 1) := by decide +kernel
theorem dX8_init_13 : decode cX8_init 13 = .ok (.iconst 0, 1) := by decide +kernel
theorem dX8_init_14 : decode cX8_init 14 = .ok (.putfield 15, 3) := by decide +kernel
theorem dX8_init_17 : decode cX8_init 17 = .ok (.aload_n 0, 1) := by decide +kernel
theorem dX8_init_18 : decode cX8_init 18 = .ok (.aload_n 1, 1) := by decide +kernel
theorem dX8_init_19 : decode cX8_init 19 = .ok (.putfield 19, 3) := by decide +kernel
theorem dX8_init_22 : decode cX8_init 22 = .ok (.return_, 1) := by decide +kernel
set_option maxRecDepth 20000 in
theorem ggX8_go_X6_has : GoodIn wsX8_go wsX6_has := goodIn_r _ [9, 10, 49, 50, 51, 52, 53, 54, 55, 56] (by decide +kernel) (by decide +kernel)
set_option maxRecDepth 20000 in
theorem gX8_go_X6_has : GoodIn wsX8_go (wsV RX8 28 RX6 yX6_has wsX6_has) := goodIn_app (goodIn_of _ (by decide +kernel)) ggX8_go_X6_has
set_option maxRecDepth 20000 in
theorem ggX8_go_X6_reading : GoodIn wsX8_go wsX6_reading := goodIn_r _ [14, 15, 16, 17, 18, 19, 20, 21, 22, 23, 24, 25, 26, 27, 28, 29, 30, 31, 32, 33, 34, 35, 36, 37, 38, 39, 40, 41, 42, 43, 44, 45, 49, 50, 51, 52, 53, 54, 55, 56] (by decide +kernel) (by decide +kernel)
set_option maxRecDepth 20000 in
theorem gX8_go_X6_reading : GoodIn wsX8_go (wsV RX8 32 RX6 yX6_reading wsX6_reading) := goodIn_app (goodIn_of _ (by decide +kernel)) ggX8_go_X6_reading
theorem dX8_go_0 : decode cX8_go 0 = .ok (.iconst 0, 1) := by decide +kernel
theorem dX8_go_1 : decode cX8_go 1 = .ok (.istore 4, 2) := by decide +kernel
theorem dX8_go_3 : decode cX8_go 3 = .ok (.iconst 0, 1) := by decide +kernel
theorem dX8_go_4 : decode cX8_go 4 = .ok (.istore 5, 2) := by decide +kernel
theorem dX8_go_6 : decode cX8_go 6 = .ok (.iload 5, 2) := by decide +kernel
theorem dX8_go_8 : decode cX8_go 8 = .ok (.aload_n 0, 1) := by decide +kernel
theorem dX8_go_9 : decode cX8_go 9 = .ok (.getfield 19, 3) := by decide +kernel
theorem dX8_go_12 : decode cX8_go 12 = .ok (.getfield 23, 3) := by decide +kernel
theorem dX8_go_15 : decode cX8_go 15 = .ok (.if_icmp .ge 57, 3) := by decide +kernel
theorem dX8_go_18 : decode cX8_go 18 = .ok (.aload_n 2, 1) := by decide +kernel
theorem dX8_go_19 : decode cX8_go 19 = .ok (.iload 5, 2) := by decide +kernel
theorem dX8_go_21 : decode cX8_go 21 = .ok (.iaload, 1) := by decide +kernel
theorem dX8_go_22 : decode cX8_go 22 = .ok (.istore 6, 2) := by decide +kernel
theorem dX8_go_24 : decode cX8_go 24 = .ok (.aload_n 0, 1) := by decide +kernel
theorem dX8_go_25 : decode cX8_go 25 = .ok (.getfield 19, 3) := by decide +kernel
theorem dX8_go_28 : decode cX8_go 28 = .ok (.iload 6, 2) := by decide +kernel
theorem dX8_go_30 : decode cX8_go 30 = .ok (.invokevirtual 28, 3) := by decide +kernel
theorem dX8_go_33 : decode cX8_go 33 = .ok (.ifCond .eq 33, 3) := by decide +kernel
theorem dX8_go_36 : decode cX8_go 36 = .ok (.iload 4, 2) := by decide +kernel
theorem dX8_go_38 : decode cX8_go 38 = .ok (.iconst 1, 1) := by decide +kernel
theorem dX8_go_39 : decode cX8_go 39 = .ok (.aload_n 0, 1) := by decide +kernel
theorem dX8_go_40 : decode cX8_go 40 = .ok (.getfield 19, 3) := by decide +kernel
theorem dX8_go_43 : decode cX8_go 43 = .ok (.iload 6, 2) := by decide +kernel
theorem dX8_go_45 : decode cX8_go 45 = .ok (.aload_n 1, 1) := by decide +kernel
theorem dX8_go_46 : decode cX8_go 46 = .ok (.iload 6, 2) := by decide +kernel
theorem dX8_go_48 : decode cX8_go 48 = .ok (.iaload, 1) := by decide +kernel
theorem dX8_go_49 : decode cX8_go 49 = .ok (.iload_n 3, 1) := by decide +kernel
theorem dX8_go_50 : decode cX8_go 50 = .ok (.invokevirtual 32, 3) := by decide +kernel
theorem dX8_go_53 : decode cX8_go 53 = .ok (.iadd, 1) := by decide +kernel
theorem dX8_go_54 : decode cX8_go 54 = .ok (.iadd, 1) := by decide +kernel
theorem dX8_go_55 : decode cX8_go 55 = .ok (.istore 4, 2) := by decide +kernel
theorem dX8_go_57 : decode cX8_go 57 = .ok (.aload_n 0, 1) := by decide +kernel
theorem dX8_go_58 : decode cX8_go 58 = .ok (.getfield 9, 3) := by decide +kernel
theorem dX8_go_61 : decode cX8_go 61 = .ok (.iload 6, 2) := by decide +kernel
theorem dX8_go_63 : decode cX8_go 63 = .ok (.iload 4, 2) := by decide +kernel
theorem dX8_go_65 : decode cX8_go 65 = .ok (.iastore, 1) := by decide +kernel
theorem dX8_go_66 : decode cX8_go 66 = .ok (.iinc 5 1, 3) := by decide +kernel
theorem dX8_go_69 : decode cX8_go 69 = .ok (.goto (-63), 3) := by decide +kernel
theorem dX8_go_72 : decode cX8_go 72 = .ok (.aload_n 0, 1) := by decide +kernel
theorem dX8_go_73 : decode cX8_go 73 = .ok (.iload 4, 2) := by decide +kernel
theorem dX8_go_75 : decode cX8_go 75 = .ok (.putfield 15, 3) := by decide +kernel
theorem dX8_go_78 : decode cX8_go 78 = .ok (.return_, 1) := by decide +kernel
set_option maxRecDepth 20000 in
theorem ggX8_isSour_X0_timesKeep : GoodIn wsX8_isSour wsX0_timesKeep := goodIn_r _ [11] (by decide +kernel) (by decide +kernel)
set_option maxRecDepth 20000 in
theorem gX8_isSour_X0_timesKeep_u40X0 : GoodIn wsX8_isSour (va_wsO RX8 40 RX0 "MilkRound$House" ⟨"MilkRound$House", "timesKeep", "()I"⟩ yX0_timesKeep wsX0_timesKeep) := goodIn_app (goodIn_of _ (by decide +kernel)) ggX8_isSour_X0_timesKeep
set_option maxRecDepth 20000 in
theorem ggX8_isSour_X3_timesKeep : GoodIn wsX8_isSour wsX3_timesKeep := goodIn_r _ [12] (by decide +kernel) (by decide +kernel)
set_option maxRecDepth 20000 in
theorem gX8_isSour_X3_timesKeep_u40X1 : GoodIn wsX8_isSour (va_wsU RX8 40 RX1 "MilkRound$House" ⟨"MilkRound$House", "timesKeep", "()I"⟩ yX3_timesKeep wsX3_timesKeep) := goodIn_app (goodIn_of _ (by decide +kernel)) ggX8_isSour_X3_timesKeep
set_option maxRecDepth 20000 in
theorem gX8_isSour_X3_timesKeep : GoodIn wsX8_isSour (wsV RX8 40 RX3 yX3_timesKeep wsX3_timesKeep) := goodIn_app (goodIn_of _ (by decide +kernel)) ggX8_isSour_X3_timesKeep
set_option maxRecDepth 20000 in
theorem gX8_isSour_X3_timesKeep_u40X5 : GoodIn wsX8_isSour (va_wsU RX8 40 RX5 "MilkRound$House" ⟨"MilkRound$House", "timesKeep", "()I"⟩ yX3_timesKeep wsX3_timesKeep) := goodIn_app (goodIn_of _ (by decide +kernel)) ggX8_isSour_X3_timesKeep
set_option maxRecDepth 20000 in
theorem gX8_isSour_X3_timesKeep_u40X9 : GoodIn wsX8_isSour (va_wsU RX8 40 RX9 "MilkRound$House" ⟨"MilkRound$House", "timesKeep", "()I"⟩ yX3_timesKeep wsX3_timesKeep) := goodIn_app (goodIn_of _ (by decide +kernel)) ggX8_isSour_X3_timesKeep
theorem dX8_isSour_0 : decode cX8_isSour 0 = .ok (.aload_n 0, 1) := by decide +kernel
theorem dX8_isSour_1 : decode cX8_isSour 1 = .ok (.getfield 9, 3) := by decide +kernel
theorem dX8_isSour_4 : decode cX8_isSour 4 = .ok (.iload_n 1, 1) := by decide +kernel
theorem dX8_isSour_5 : decode cX8_isSour 5 = .ok (.iaload, 1) := by decide +kernel
theorem dX8_isSour_6 : decode cX8_isSour 6 = .ok (.aload_n 0, 1) := by decide +kernel
theorem dX8_isSour_7 : decode cX8_isSour 7 = .ok (.getfield 19, 3) := by decide +kernel
theorem dX8_isSour_10 : decode cX8_isSour 10 = .ok (.getfield 36, 3) := by decide +kernel
theorem dX8_isSour_13 : decode cX8_isSour 13 = .ok (.iload_n 1, 1) := by decide +kernel
theorem dX8_isSour_14 : decode cX8_isSour 14 = .ok (.aaload, 1) := by decide +kernel
theorem dX8_isSour_15 : decode cX8_isSour 15 = .ok (.invokevirtual 40, 3) := by decide +kernel
theorem dX8_isSour_18 : decode cX8_isSour 18 = .ok (.aload_n 0, 1) := by decide +kernel
theorem dX8_isSour_19 : decode cX8_isSour 19 = .ok (.getfield 19, 3) := by decide +kernel
theorem dX8_isSour_22 : decode cX8_isSour 22 = .ok (.getfield 46, 3) := by decide +kernel
theorem dX8_isSour_25 : decode cX8_isSour 25 = .ok (.imul, 1) := by decide +kernel
theorem dX8_isSour_26 : decode cX8_isSour 26 = .ok (.if_icmp .le 7, 3) := by decide +kernel
theorem dX8_isSour_29 : decode cX8_isSour 29 = .ok (.iconst 1, 1) := by decide +kernel
theorem dX8_isSour_30 : decode cX8_isSour 30 = .ok (.goto 4, 3) := by decide +kernel
theorem dX8_isSour_33 : decode cX8_isSour 33 = .ok (.iconst 0, 1) := by decide +kernel
theorem dX8_isSour_34 : decode cX8_isSour 34 = .ok (.ireturn, 1) := by decide +kernel
set_option maxRecDepth 20000 in
theorem ggX8_hears_X0_listens : GoodIn wsX8_hears wsX0_listens := goodIn_r _ [9] (by decide +kernel) (by decide +kernel)
set_option maxRecDepth 20000 in
theorem gX8_hears_X0_listens_u49X0 : GoodIn wsX8_hears (va_wsO RX8 49 RX0 "MilkRound$House" ⟨"MilkRound$House", "listens", "()Z"⟩ yX0_listens wsX0_listens) := goodIn_app (goodIn_of _ (by decide +kernel)) ggX8_hears_X0_listens
set_option maxRecDepth 20000 in
theorem ggX8_hears_X3_listens : GoodIn wsX8_hears wsX3_listens := goodIn_r _ [10] (by decide +kernel) (by decide +kernel)
set_option maxRecDepth 20000 in
theorem gX8_hears_X3_listens_u49X1 : GoodIn wsX8_hears (va_wsU RX8 49 RX1 "MilkRound$House" ⟨"MilkRound$House", "listens", "()Z"⟩ yX3_listens wsX3_listens) := goodIn_app (goodIn_of _ (by decide +kernel)) ggX8_hears_X3_listens
set_option maxRecDepth 20000 in
theorem gX8_hears_X3_listens : GoodIn wsX8_hears (wsV RX8 49 RX3 yX3_listens wsX3_listens) := goodIn_app (goodIn_of _ (by decide +kernel)) ggX8_hears_X3_listens
set_option maxRecDepth 20000 in
theorem gX8_hears_X3_listens_u49X5 : GoodIn wsX8_hears (va_wsU RX8 49 RX5 "MilkRound$House" ⟨"MilkRound$House", "listens", "()Z"⟩ yX3_listens wsX3_listens) := goodIn_app (goodIn_of _ (by decide +kernel)) ggX8_hears_X3_listens
set_option maxRecDepth 20000 in
theorem gX8_hears_X3_listens_u49X9 : GoodIn wsX8_hears (va_wsU RX8 49 RX9 "MilkRound$House" ⟨"MilkRound$House", "listens", "()Z"⟩ yX3_listens wsX3_listens) := goodIn_app (goodIn_of _ (by decide +kernel)) ggX8_hears_X3_listens
set_option maxRecDepth 20000 in
theorem ggX8_hears_X8_isAhead : GoodIn wsX8_hears wsX8_isAhead := goodIn_r _ [22, 1, 23, 24, 25, 26, 27, 28, 29, 30, 31, 32, 33, 34, 35] (by decide +kernel) (by decide +kernel)
set_option maxRecDepth 20000 in
theorem gX8_hears_X8_isAhead : GoodIn wsX8_hears (wsV RX8 53 RX8 yX8_isAhead wsX8_isAhead) := goodIn_app (goodIn_of _ (by decide +kernel)) ggX8_hears_X8_isAhead
theorem dX8_hears_0 : decode cX8_hears 0 = .ok (.aload_n 0, 1) := by decide +kernel
theorem dX8_hears_1 : decode cX8_hears 1 = .ok (.getfield 19, 3) := by decide +kernel
theorem dX8_hears_4 : decode cX8_hears 4 = .ok (.getfield 36, 3) := by decide +kernel
theorem dX8_hears_7 : decode cX8_hears 7 = .ok (.iload_n 1, 1) := by decide +kernel
theorem dX8_hears_8 : decode cX8_hears 8 = .ok (.aaload, 1) := by decide +kernel
theorem dX8_hears_9 : decode cX8_hears 9 = .ok (.invokevirtual 49, 3) := by decide +kernel
theorem dX8_hears_12 : decode cX8_hears 12 = .ok (.ifCond .eq 29, 3) := by decide +kernel
theorem dX8_hears_15 : decode cX8_hears 15 = .ok (.aload_n 0, 1) := by decide +kernel
theorem dX8_hears_16 : decode cX8_hears 16 = .ok (.iload_n 1, 1) := by decide +kernel
theorem dX8_hears_17 : decode cX8_hears 17 = .ok (.iconst 1, 1) := by decide +kernel
theorem dX8_hears_18 : decode cX8_hears 18 = .ok (.isub, 1) := by decide +kernel
theorem dX8_hears_19 : decode cX8_hears 19 = .ok (.iload_n 1, 1) := by decide +kernel
theorem dX8_hears_20 : decode cX8_hears 20 = .ok (.invokevirtual 53, 3) := by decide +kernel
theorem dX8_hears_23 : decode cX8_hears 23 = .ok (.ifCond .ne 14, 3) := by decide +kernel
theorem dX8_hears_26 : decode cX8_hears 26 = .ok (.aload_n 0, 1) := by decide +kernel
theorem dX8_hears_27 : decode cX8_hears 27 = .ok (.iload_n 1, 1) := by decide +kernel
theorem dX8_hears_28 : decode cX8_hears 28 = .ok (.iconst 1, 1) := by decide +kernel
theorem dX8_hears_29 : decode cX8_hears 29 = .ok (.iadd, 1) := by decide +kernel
theorem dX8_hears_30 : decode cX8_hears 30 = .ok (.iload_n 1, 1) := by decide +kernel
theorem dX8_hears_31 : decode cX8_hears 31 = .ok (.invokevirtual 53, 3) := by decide +kernel
theorem dX8_hears_34 : decode cX8_hears 34 = .ok (.ifCond .eq 7, 3) := by decide +kernel
theorem dX8_hears_37 : decode cX8_hears 37 = .ok (.iconst 1, 1) := by decide +kernel
theorem dX8_hears_38 : decode cX8_hears 38 = .ok (.goto 4, 3) := by decide +kernel
theorem dX8_hears_41 : decode cX8_hears 41 = .ok (.iconst 0, 1) := by decide +kernel
theorem dX8_hears_42 : decode cX8_hears 42 = .ok (.ireturn, 1) := by decide +kernel
theorem dX8_isAhead_0 : decode cX8_isAhead 0 = .ok (.iload_n 1, 1) := by decide +kernel
theorem dX8_isAhead_1 : decode cX8_isAhead 1 = .ok (.ifCond .lt 36, 3) := by decide +kernel
theorem dX8_isAhead_4 : decode cX8_isAhead 4 = .ok (.iload_n 1, 1) := by decide +kernel
theorem dX8_isAhead_5 : decode cX8_isAhead 5 = .ok (.aload_n 0, 1) := by decide +kernel
theorem dX8_isAhead_6 : decode cX8_isAhead 6 = .ok (.getfield 19, 3) := by decide +kernel
theorem dX8_isAhead_9 : decode cX8_isAhead 9 = .ok (.getfield 23, 3) := by decide +kernel
theorem dX8_isAhead_12 : decode cX8_isAhead 12 = .ok (.if_icmp .ge 25, 3) := by decide +kernel
theorem dX8_isAhead_15 : decode cX8_isAhead 15 = .ok (.aload_n 0, 1) := by decide +kernel
theorem dX8_isAhead_16 : decode cX8_isAhead 16 = .ok (.getfield 9, 3) := by decide +kernel
theorem dX8_isAhead_19 : decode cX8_isAhead 19 = .ok (.iload_n 2, 1) := by decide +kernel
theorem dX8_isAhead_20 : decode cX8_isAhead 20 = .ok (.iaload, 1) := by decide +kernel
theorem dX8_isAhead_21 : decode cX8_isAhead 21 = .ok (.aload_n 0, 1) := by decide +kernel
theorem dX8_isAhead_22 : decode cX8_isAhead 22 = .ok (.getfield 9, 3) := by decide +kernel
theorem dX8_isAhead_25 : decode cX8_isAhead 25 = .ok (.iload_n 1, 1) := by decide +kernel
theorem dX8_isAhead_26 : decode cX8_isAhead 26 = .ok (.iaload, 1) := by decide +kernel
theorem dX8_isAhead_27 : decode cX8_isAhead 27 = .ok (.isub, 1) := by decide +kernel
theorem dX8_isAhead_28 : decode cX8_isAhead 28 = .ok (.bipush 6, 2) := by decide +kernel
theorem dX8_isAhead_30 : decode cX8_isAhead 30 = .ok (.if_icmp .lt 7, 3) := by decide +kernel
theorem dX8_isAhead_33 : decode cX8_isAhead 33 = .ok (.iconst 1, 1) := by decide +kernel
theorem dX8_isAhead_34 : decode cX8_isAhead 34 = .ok (.goto 4, 3) := by decide +kernel
theorem dX8_isAhead_37 : decode cX8_isAhead 37 = .ok (.iconst 0, 1) := by decide +kernel
theorem dX8_isAhead_38 : decode cX8_isAhead 38 = .ok (.ireturn, 1) := by decide +kernel
set_option maxRecDepth 20000 in
theorem ggX8_sourHouses_X8_isSour : GoodIn wsX8_sourHouses wsX8_isSour := goodIn_r _ [7, 8, 1, 9, 10, 11, 12, 13, 14, 15, 16, 17, 18, 19, 20, 21, 22, 23, 24, 25, 26, 27, 28, 29, 30, 31, 32, 33, 34, 35, 36] (by decide +kernel) (by decide +kernel)
set_option maxRecDepth 20000 in
theorem gX8_sourHouses_X8_isSour : GoodIn wsX8_sourHouses (wsV RX8 57 RX8 yX8_isSour wsX8_isSour) := goodIn_app (goodIn_of _ (by decide +kernel)) ggX8_sourHouses_X8_isSour
theorem dX8_sourHouses_0 : decode cX8_sourHouses 0 = .ok (.iconst 0, 1) := by decide +kernel
theorem dX8_sourHouses_1 : decode cX8_sourHouses 1 = .ok (.istore_n 1, 1) := by decide +kernel
theorem dX8_sourHouses_2 : decode cX8_sourHouses 2 = .ok (.iconst 0, 1) := by decide +kernel
theorem dX8_sourHouses_3 : decode cX8_sourHouses 3 = .ok (.istore_n 2, 1) := by decide +kernel
theorem dX8_sourHouses_4 : decode cX8_sourHouses 4 = .ok (.iload_n 2, 1) := by decide +kernel
theorem dX8_sourHouses_5 : decode cX8_sourHouses 5 = .ok (.aload_n 0, 1) := by decide +kernel
theorem dX8_sourHouses_6 : decode cX8_sourHouses 6 = .ok (.getfield 19, 3) := by decide +kernel
theorem dX8_sourHouses_9 : decode cX8_sourHouses 9 = .ok (.getfield 23, 3) := by decide +kernel
theorem dX8_sourHouses_12 : decode cX8_sourHouses 12 = .ok (.if_icmp .ge 20, 3) := by decide +kernel
theorem dX8_sourHouses_15 : decode cX8_sourHouses 15 = .ok (.aload_n 0, 1) := by decide +kernel
theorem dX8_sourHouses_16 : decode cX8_sourHouses 16 = .ok (.iload_n 2, 1) := by decide +kernel
theorem dX8_sourHouses_17 : decode cX8_sourHouses 17 = .ok (.invokevirtual 57, 3) := by decide +kernel
theorem dX8_sourHouses_20 : decode cX8_sourHouses 20 = .ok (.ifCond .eq 6, 3) := by decide +kernel
theorem dX8_sourHouses_23 : decode cX8_sourHouses 23 = .ok (.iinc 1 1, 3) := by decide +kernel
theorem dX8_sourHouses_26 : decode cX8_sourHouses 26 = .ok (.iinc 2 1, 3) := by decide +kernel
theorem dX8_sourHouses_29 : decode cX8_sourHouses 29 = .ok (.goto (-25), 3) := by decide +kernel
theorem dX8_sourHouses_32 : decode cX8_sourHouses 32 = .ok (.iload_n 1, 1) := by decide +kernel
theorem dX8_sourHouses_33 : decode cX8_sourHouses 33 = .ok (.ireturn, 1) := by decide +kernel
set_option maxRecDepth 20000 in
theorem ggX8_hearingHouses_X8_hears : GoodIn wsX8_hearingHouses wsX8_hears := goodIn_r _ [7, 1, 8, 9, 10, 11, 12, 13, 14, 15, 16, 17, 18, 19, 20, 21, 22, 23, 24, 25, 26, 6, 27, 2, 28, 29, 30, 31, 32, 33, 34, 35, 36, 37, 38, 39] (by decide +kernel) (by decide +kernel)
set_option maxRecDepth 20000 in
theorem gX8_hearingHouses_X8_hears : GoodIn wsX8_hearingHouses (wsV RX8 60 RX8 yX8_hears wsX8_hears) := goodIn_app (goodIn_of _ (by decide +kernel)) ggX8_hearingHouses_X8_hears
theorem dX8_hearingHouses_0 : decode cX8_hearingHouses 0 = .ok (.iconst 0, 1) := by decide +kernel
theorem dX8_hearingHouses_1 : decode cX8_hearingHouses 1 = .ok (.istore_n 1, 1) := by decide +kernel
theorem dX8_hearingHouses_2 : decode cX8_hearingHouses 2 = .ok (.iconst 0, 1) := by decide +kernel
theorem dX8_hearingHouses_3 : decode cX8_hearingHouses 3 = .ok (.istore_n 2, 1) := by decide +kernel
theorem dX8_hearingHouses_4 : decode cX8_hearingHouses 4 = .ok (.iload_n 2, 1) := by decide +kernel
theorem dX8_hearingHouses_5 : decode cX8_hearingHouses 5 = .ok (.aload_n 0, 1) := by decide +kernel
theorem dX8_hearingHouses_6 : decode cX8_hearingHouses 6 = .ok (.getfield 19, 3) := by decide +kernel
theorem dX8_hearingHouses_9 : decode cX8_hearingHouses 9 = .ok (.getfield 23, 3) := by decide +kernel
theorem dX8_hearingHouses_12 : decode cX8_hearingHouses 12 = .ok (.if_icmp .ge 20, 3) := by decide +kernel
theorem dX8_hearingHouses_15 : decode cX8_hearingHouses 15 = .ok (.aload_n 0, 1) := by decide +kernel
theorem dX8_hearingHouses_16 : decode cX8_hearingHouses 16 = .ok (.iload_n 2, 1) := by decide +kernel
theorem dX8_hearingHouses_17 : decode cX8_hearingHouses 17 = .ok (.invokevirtual 60, 3) := by decide +kernel
theorem dX8_hearingHouses_20 : decode cX8_hearingHouses 20 = .ok (.ifCond .eq 6, 3) := by decide +kernel
theorem dX8_hearingHouses_23 : decode cX8_hearingHouses 23 = .ok (.iinc 1 1, 3) := by decide +kernel
theorem dX8_hearingHouses_26 : decode cX8_hearingHouses 26 = .ok (.iinc 2 1, 3) := by decide +kernel
theorem dX8_hearingHouses_29 : decode cX8_hearingHouses 29 = .ok (.goto (-25), 3) := by decide +kernel
theorem dX8_hearingHouses_32 : decode cX8_hearingHouses 32 = .ok (.iload_n 1, 1) := by decide +kernel
theorem dX8_hearingHouses_33 : decode cX8_hearingHouses 33 = .ok (.ireturn, 1) := by decide +kernel
set_option maxRecDepth 20000 in
theorem ggX8_wrongs_X8_sourHouses : GoodIn wsX8_wrongs wsX8_sourHouses := goodIn_r _ [5, 6, 7, 8, 9, 10, 4, 11, 12, 13, 14, 15, 16, 17, 18, 19, 20, 21, 22, 23, 24, 25, 26, 27, 28, 29, 55, 56, 57, 58, 59, 60, 61, 62, 63, 64, 65] (by decide +kernel) (by decide +kernel)
set_option maxRecDepth 20000 in
theorem gX8_wrongs_X8_sourHouses : GoodIn wsX8_wrongs (wsV RX8 63 RX8 yX8_sourHouses wsX8_sourHouses) := goodIn_app (goodIn_of _ (by decide +kernel)) ggX8_wrongs_X8_sourHouses
set_option maxRecDepth 20000 in
theorem ggX8_wrongs_X8_hearingHouses : GoodIn wsX8_wrongs wsX8_hearingHouses := goodIn_r _ [33, 6, 7, 34, 35, 36, 4, 37, 13, 38, 39, 40, 41, 42, 20, 43, 44, 45, 46, 25, 47, 48, 49, 50, 51, 52, 53, 54, 12, 55, 56, 57, 58, 59, 60, 61, 62, 63, 64, 65] (by decide +kernel) (by decide +kernel)
set_option maxRecDepth 20000 in
theorem gX8_wrongs_X8_hearingHouses : GoodIn wsX8_wrongs (wsV RX8 66 RX8 yX8_hearingHouses wsX8_hearingHouses) := goodIn_app (goodIn_of _ (by decide +kernel)) ggX8_wrongs_X8_hearingHouses
theorem dX8_wrongs_0 : decode cX8_wrongs 0 = .ok (.aload_n 0, 1) := by decide +kernel
theorem dX8_wrongs_1 : decode cX8_wrongs 1 = .ok (.invokevirtual 63, 3) := by decide +kernel
theorem dX8_wrongs_4 : decode cX8_wrongs 4 = .ok (.aload_n 0, 1) := by decide +kernel
theorem dX8_wrongs_5 : decode cX8_wrongs 5 = .ok (.invokevirtual 66, 3) := by decide +kernel
theorem dX8_wrongs_8 : decode cX8_wrongs 8 = .ok (.iadd, 1) := by decide +kernel
theorem dX8_wrongs_9 : decode cX8_wrongs 9 = .ok (.ireturn, 1) := by decide +kernel
set_option maxRecDepth 20000 in
theorem ggX9_init_X5_init : GoodIn wsX9_init wsX5_init := goodIn_r _ [3, 4, 5, 6, 7, 8, 9] (by decide +kernel) (by decide +kernel)
set_option maxRecDepth 20000 in
theorem gX9_init_X5_init_n1 : GoodIn wsX9_init (wsX5_init) := ggX9_init_X5_init
theorem dX9_init_0 : decode cX9_init 0 = .ok (.aload_n 0, 1) := by decide +kernel
theorem dX9_init_1 : decode cX9_init 1 = .ok (.invokespecial 1, 3) := by decide +kernel
theorem dX9_init_4 : decode cX9_init 4 = .ok (.return_, 1) := by decide +kernel
theorem dX9_kind_0 : decode cX9_kind 0 = .ok (.iconst 4, 1) := by decide +kernel
theorem dX9_kind_1 : decode cX9_kind 1 = .ok (.ireturn, 1) := by decide +kernel
set_option maxRecDepth 20000 in
theorem ggX9_minutesFor_X5_minutesFor : GoodIn wsX9_minutesFor wsX5_minutesFor := goodIn_r _ [6] (by decide +kernel) (by decide +kernel)
set_option maxRecDepth 20000 in
theorem gX9_minutesFor_X5_minutesFor_s7 : GoodIn wsX9_minutesFor (va_wsSU RX9 7 yX5_minutesFor wsX5_minutesFor) := goodIn_app (goodIn_of _ (by decide +kernel)) ggX9_minutesFor_X5_minutesFor
theorem dX9_minutesFor_0 : decode cX9_minutesFor 0 = .ok (.aload_n 0, 1) := by decide +kernel
theorem dX9_minutesFor_1 : decode cX9_minutesFor 1 = .ok (.iload_n 1, 1) := by decide +kernel
theorem dX9_minutesFor_2 : decode cX9_minutesFor 2 = .ok (.invokespecial 7, 3) := by decide +kernel
theorem dX9_minutesFor_5 : decode cX9_minutesFor 5 = .ok (.iconst 2, 1) := by decide +kernel
theorem dX9_minutesFor_6 : decode cX9_minutesFor 6 = .ok (.iadd, 1) := by decide +kernel
theorem dX9_minutesFor_7 : decode cX9_minutesFor 7 = .ok (.ireturn, 1) := by decide +kernel
