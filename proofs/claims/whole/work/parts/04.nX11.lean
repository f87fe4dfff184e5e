theorem dX11_init_0 : decode cX11_init 0 = .ok (.aload_n 0, 1) := by decide +kernel
theorem dX11_init_1 : decode cX11_init 1 = .ok (.invokespecial 1, 3) := by decide +kernel
theorem dX11_init_4 : decode cX11_init 4 = .ok (.aload_n 0, 1) := by decide +kernel
theorem dX11_init_5 : decode cX11_init 5 = .ok (.bipush 6, 2) := by decide +kernel
theorem dX11_init_7 : decode cX11_init 7 = .ok (.newarray .int, 2) := by decide +kernel
theorem dX11_init_9 : decode cX11_init 9 = .ok (.putfield 7, 3) := by decide +kernel
theorem dX11_init_12 : decode cX11_init 12 = .ok (.aload_n 0, 1) := by decide +kernel
theorem dX11_init_13 : decode cX11_init 13 = .ok (.bipush 6, 2) := by decide +kernel
theorem dX11_init_15 : decode cX11_init 15 = .ok (.newarray .int, 2) := by decide +kernel
theorem dX11_init_17 : decode cX11_init 17 = .ok (.putfield 13, 3) := by decide +kernel
theorem dX11_init_20 : decode cX11_init 20 = .ok (.aload_n 0, 1) := by decide +kernel
theorem dX11_init_21 : decode cX11_init 21 = .ok (.bipush 6, 2) := by decide +kernel
theorem dX11_init_23 : decode cX11_init 23 = .ok (.newarray .int, 2) := by decide +kernel
theorem dX11_init_25 : decode cX11_init 25 = .ok (.putfield 16, 3) := by decide +kernel
theorem dX11_init_28 : decode cX11_init 28 = .ok (.aload_n 0, 1) := by decide +kernel
theorem dX11_init_29 : decode cX11_init 29 = .ok (.bipush 6, 2) := by decide +kernel
theorem dX11_init_31 : decode cX11_init 31 = .ok (.newarray .int, 2) := by decide +kernel
theorem dX11_init_33 : decode cX11_init 33 = .ok (.putfield 19, 3) := by decide +kernel
theorem dX11_init_36 : decode cX11_init 36 = .ok (.aload_n 0, 1) := by decide +kernel
theorem dX11_init_37 : decode cX11_init 37 = .ok (.bipush 6, 2) := by decide +kernel
theorem dX11_init_39 : decode cX11_init 39 = .ok (.newarray .int, 2) := by decide +kernel
theorem dX11_init_41 : decode cX11_init 41 = .ok (.putfield 22, 3) := by decide +kernel
theorem dX11_init_44 : decode cX11_init 44 = .ok (.aload_n 0, 1) := by decide +kernel
theorem dX11_init_45 : decode cX11_init 45 = .ok (.bipush 21, 2) := by decide +kernel
theorem dX11_init_47 : decode cX11_init 47 = .ok (.newarray .byte, 2) := by decide +kernel
theorem dX11_init_49 : decode cX11_init 49 = .ok (.putfield 25, 3) := by decide +kernel
theorem dX11_init_52 : decode cX11_init 52 = .ok (.aload_n 0, 1) := by decide +kernel
theorem dX11_init_53 : decode cX11_init 53 = .ok (.bipush 6, 2) := by decide +kernel
theorem dX11_init_55 : decode cX11_init 55 = .ok (.newarray .int, 2) := by decide +kernel
theorem dX11_init_57 : decode cX11_init 57 = .ok (.putfield 29, 3) := by decide +kernel
theorem dX11_init_60 : decode cX11_init 60 = .ok (.aload_n 0, 1) := by decide +kernel
theorem dX11_init_61 : decode cX11_init 61 = .ok (.bipush 6, 2) := by decide +kernel
theorem dX11_init_63 : decode cX11_init 63 = .ok (.newarray .int, 2) := by decide +kernel
theorem dX11_init_65 : decode cX11_init 65 = .ok (.putfield 32, 3) := by decide +kernel
theorem dX11_init_68 : decode cX11_init 68 = .ok (.aload_n 0, 1) := by decide +kernel
theorem dX11_init_69 : decode cX11_init 69 = .ok (.bipush 6, 2) := by decide +kernel
theorem dX11_init_71 : decode cX11_init 71 = .ok (.newarray .int, 2) := by decide +kernel
theorem dX11_init_73 : decode cX11_init 73 = .ok (.putfield 35, 3) := by decide +kernel
theorem dX11_init_76 : decode cX11_init 76 = .ok (.aload_n 0, 1) := by decide +kernel
theorem dX11_init_77 : decode cX11_init 77 = .ok (.sipush 151, 3) := by decide +kernel
theorem dX11_init_80 : decode cX11_init 80 = .ok (.newarray .int, 2) := by decide +kernel
theorem dX11_init_82 : decode cX11_init 82 = .ok (.putfield 38, 3) := by decide +kernel
theorem dX11_init_85 : decode cX11_init 85 = .ok (.aload_n 0, 1) := by decide +kernel
theorem dX11_init_86 : decode cX11_init 86 = .ok (.bipush 6, 2) := by decide +kernel
theorem dX11_init_88 : decode cX11_init 88 = .ok (.newarray .int, 2) := by decide +kernel
theorem dX11_init_90 : decode cX11_init 90 = .ok (.putfield 41, 3) := by decide +kernel
theorem dX11_init_93 : decode cX11_init 93 = .ok (.aload_n 0, 1) := by decide +kernel
theorem dX11_init_94 : decode cX11_init 94 = .ok (.bipush 6, 2) := by decide +kernel
theorem dX11_init_96 : decode cX11_init 96 = .ok (.newarray .int, 2) := by decide +kernel
theorem dX11_init_98 : decode cX11_init 98 = .ok (.putfield 44, 3) := by decide +kernel
theorem dX11_init_101 : decode cX11_init 101 = .ok (.aload_n 0, 1) := by decide +kernel
theorem dX11_init_102 : decode cX11_init 102 = .ok (.bipush 6, 2) := by decide +kernel
theorem dX11_init_104 : decode cX11_init 104 = .ok (.newarray .int, 2) := by decide +kernel
theorem dX11_init_106 : decode cX11_init 106 = .ok (.putfield 47, 3) := by decide +kernel
theorem dX11_init_109 : decode cX11_init 109 = .ok (.aload_n 0, 1) := by decide +kernel
theorem dX11_init_110 : decode cX11_init 110 = .ok (.bipush 6, 2) := by decide +kernel
theorem dX11_init_112 : decode cX11_init 112 = .ok (.newarray .int, 2) := by decide +kernel
theorem dX11_init_114 : decode cX11_init 114 = .ok (.putfield 50, 3) := by decide +kernel
theorem dX11_init_117 : decode cX11_init 117 = .ok (.aload_n 0, 1) := by decide +kernel
theorem dX11_init_118 : decode cX11_init 118 = .ok (.bipush 6, 2) := by decide +kernel
theorem dX11_init_120 : decode cX11_init 120 = .ok (.newarray .int, 2) := by decide +kernel
theorem dX11_init_122 : decode cX11_init 122 = .ok (.putfield 53, 3) := by decide +kernel
theorem dX11_init_125 : decode cX11_init 125 = .ok (.return_, 1) := by decide +kernel
theorem dX11_within_0 : decode cX11_within 0 = .ok (.iload_n 0, 1) := by decide +kernel
theorem dX11_within_1 : decode cX11_within 1 = .ok (.iload_n 1, 1) := by decide +kernel
theorem dX11_within_2 : decode cX11_within 2 = .ok (.if_icmp .lt 12, 3) := by decide +kernel
theorem dX11_within_5 : decode cX11_within 5 = .ok (.iload_n 0, 1) := by decide +kernel
theorem dX11_within_6 : decode cX11_within 6 = .ok (.iload_n 2, 1) := by decide +kernel
theorem dX11_within_7 : decode cX11_within 7 = .ok (.if_icmp .gt 7, 3) := by decide +kernel
theorem dX11_within_10 : decode cX11_within 10 = .ok (.iconst 1, 1) := by decide +kernel
theorem dX11_within_11 : decode cX11_within 11 = .ok (.goto 4, 3) := by decide +kernel
theorem dX11_within_14 : decode cX11_within 14 = .ok (.iconst 0, 1) := by decide +kernel
theorem dX11_within_15 : decode cX11_within 15 = .ok (.ireturn, 1) := by decide +kernel
theorem dX11_isIn_0 : decode cX11_isIn 0 = .ok (.iload_n 0, 1) := by decide +kernel
theorem dX11_isIn_1 : decode cX11_isIn 1 = .ok (.iload_n 1, 1) := by decide +kernel
theorem dX11_isIn_2 : decode cX11_isIn 2 = .ok (.ishr, 1) := by decide +kernel
theorem dX11_isIn_3 : decode cX11_isIn 3 = .ok (.iconst 1, 1) := by decide +kernel
theorem dX11_isIn_4 : decode cX11_isIn 4 = .ok (.iand, 1) := by decide +kernel
theorem dX11_isIn_5 : decode cX11_isIn 5 = .ok (.iconst 1, 1) := by decide +kernel
theorem dX11_isIn_6 : decode cX11_isIn 6 = .ok (.if_icmp .ne 7, 3) := by decide +kernel
theorem dX11_isIn_9 : decode cX11_isIn 9 = .ok (.iconst 1, 1) := by decide +kernel
theorem dX11_isIn_10 : decode cX11_isIn 10 = .ok (.goto 4, 3) := by decide +kernel
theorem dX11_isIn_13 : decode cX11_isIn 13 = .ok (.iconst 0, 1) := by decide +kernel
theorem dX11_isIn_14 : decode cX11_isIn 14 = .ok (.ireturn, 1) := by decide +kernel
set_option maxRecDepth 20000 in
theorem ggX11_letter_X11_within : GoodIn wsX11_letter wsX11_within := goodIn_r _ [6] (by decide +kernel) (by decide +kernel)
set_option maxRecDepth 20000 in
theorem gX11_letter_X11_within : GoodIn wsX11_letter (va_wsS RX11 56 yX11_within wsX11_within) := goodIn_app (goodIn_of _ (by decide +kernel)) ggX11_letter_X11_within
theorem dX11_letter_0 : decode cX11_letter 0 = .ok (.iload_n 1, 1) := by decide +kernel
theorem dX11_letter_1 : decode cX11_letter 1 = .ok (.bipush 32, 2) := by decide +kernel
theorem dX11_letter_3 : decode cX11_letter 3 = .ok (.bipush 126, 2) := by decide +kernel
theorem dX11_letter_5 : decode cX11_letter 5 = .ok (.invokestatic 56, 3) := by decide +kernel
theorem dX11_letter_8 : decode cX11_letter 8 = .ok (.ifCond .ne 6, 3) := by decide +kernel
theorem dX11_letter_11 : decode cX11_letter 11 = .ok (.bipush (-102), 2) := by decide +kernel
theorem dX11_letter_13 : decode cX11_letter 13 = .ok (.ireturn, 1) := by decide +kernel
theorem dX11_letter_14 : decode cX11_letter 14 = .ok (.aload_n 0, 1) := by decide +kernel
theorem dX11_letter_15 : decode cX11_letter 15 = .ok (.getfield 60, 3) := by decide +kernel
theorem dX11_letter_18 : decode cX11_letter 18 = .ok (.bipush 21, 2) := by decide +kernel
theorem dX11_letter_20 : decode cX11_letter 20 = .ok (.if_icmp .ne 6, 3) := by decide +kernel
theorem dX11_letter_23 : decode cX11_letter 23 = .ok (.bipush (-104), 2) := by decide +kernel
theorem dX11_letter_25 : decode cX11_letter 25 = .ok (.ireturn, 1) := by decide +kernel
theorem dX11_letter_26 : decode cX11_letter 26 = .ok (.aload_n 0, 1) := by decide +kernel
theorem dX11_letter_27 : decode cX11_letter 27 = .ok (.getfield 25, 3) := by decide +kernel
theorem dX11_letter_30 : decode cX11_letter 30 = .ok (.aload_n 0, 1) := by decide +kernel
theorem dX11_letter_31 : decode cX11_letter 31 = .ok (.getfield 60, 3) := by decide +kernel
theorem dX11_letter_34 : decode cX11_letter 34 = .ok (.iload_n 1, 1) := by decide +kernel
theorem dX11_letter_35 : decode cX11_letter 35 = .ok (.i2b, 1) := by decide +kernel
theorem dX11_letter_36 : decode cX11_letter 36 = .ok (.bastore, 1) := by decide +kernel
theorem dX11_letter_37 : decode cX11_letter 37 = .ok (.aload_n 0, 1) := by decide +kernel
theorem dX11_letter_38 : decode cX11_letter 38 = .ok (.dup, 1) := by decide +kernel
theorem dX11_letter_39 : decode cX11_letter 39 = .ok (.getfield 60, 3) := by decide +kernel
theorem dX11_letter_42 : decode cX11_letter 42 = .ok (.iconst 1, 1) := by decide +kernel
theorem dX11_letter_43 : decode cX11_letter 43 = .ok (.iadd, 1) := by decide +kernel
theorem dX11_letter_44 : decode cX11_letter 44 = .ok (.putfield 60, 3) := by decide +kernel
theorem dX11_letter_47 : decode cX11_letter 47 = .ok (.aload_n 0, 1) := by decide +kernel
theorem dX11_letter_48 : decode cX11_letter 48 = .ok (.getfield 60, 3) := by decide +kernel
theorem dX11_letter_51 : decode cX11_letter 51 = .ok (.ireturn, 1) := by decide +kernel
theorem dX11_blank_0 : decode cX11_blank 0 = .ok (.aload_n 0, 1) := by decide +kernel
theorem dX11_blank_1 : decode cX11_blank 1 = .ok (.getfield 60, 3) := by decide +kernel
theorem dX11_blank_4 : decode cX11_blank 4 = .ok (.istore_n 1, 1) := by decide +kernel
theorem dX11_blank_5 : decode cX11_blank 5 = .ok (.aload_n 0, 1) := by decide +kernel
theorem dX11_blank_6 : decode cX11_blank 6 = .ok (.iconst 0, 1) := by decide +kernel
theorem dX11_blank_7 : decode cX11_blank 7 = .ok (.putfield 60, 3) := by decide +kernel
theorem dX11_blank_10 : decode cX11_blank 10 = .ok (.iload_n 1, 1) := by decide +kernel
theorem dX11_blank_11 : decode cX11_blank 11 = .ok (.ireturn, 1) := by decide +kernel
theorem dX11_kindBy_0 : decode cX11_kindBy 0 = .ok (.iload_n 0, 1) := by decide +kernel
theorem dX11_kindBy_1 : decode cX11_kindBy 1 = .ok (.lookupswitch 61 #[(97, 55), (98, 57), (104, 51), (115, 53), (119, 59)], 51) := by decide +kernel
theorem dX11_kindBy_52 : decode cX11_kindBy 52 = .ok (.iconst 0, 1) := by decide +kernel
theorem dX11_kindBy_53 : decode cX11_kindBy 53 = .ok (.ireturn, 1) := by decide +kernel
theorem dX11_kindBy_54 : decode cX11_kindBy 54 = .ok (.iconst 1, 1) := by decide +kernel
theorem dX11_kindBy_55 : decode cX11_kindBy 55 = .ok (.ireturn, 1) := by decide +kernel
theorem dX11_kindBy_56 : decode cX11_kindBy 56 = .ok (.iconst 2, 1) := by decide +kernel
theorem dX11_kindBy_57 : decode cX11_kindBy 57 = .ok (.ireturn, 1) := by decide +kernel
theorem dX11_kindBy_58 : decode cX11_kindBy 58 = .ok (.iconst 3, 1) := by decide +kernel
theorem dX11_kindBy_59 : decode cX11_kindBy 59 = .ok (.ireturn, 1) := by decide +kernel
theorem dX11_kindBy_60 : decode cX11_kindBy 60 = .ok (.iconst 4, 1) := by decide +kernel
theorem dX11_kindBy_61 : decode cX11_kindBy 61 = .ok (.ireturn, 1) := by decide +kernel
theorem dX11_kindBy_62 : decode cX11_kindBy 62 = .ok (.iconst (-1), 1) := by decide +kernel
theorem dX11_kindBy_63 : decode cX11_kindBy 63 = .ok (.ireturn, 1) := by decide +kernel
theorem dX11_figure_0 : decode cX11_figure 0 = .ok (.iload_n 1, 1) := by decide +kernel
theorem dX11_figure_1 : decode cX11_figure 1 = .ok (.aload_n 0, 1) := by decide +kernel
theorem dX11_figure_2 : decode cX11_figure 2 = .ok (.getfield 60, 3) := by decide +kernel
theorem dX11_figure_5 : decode cX11_figure 5 = .ok (.if_icmp .ge 15, 3) := by decide +kernel
theorem dX11_figure_8 : decode cX11_figure 8 = .ok (.aload_n 0, 1) := by decide +kernel
theorem dX11_figure_9 : decode cX11_figure 9 = .ok (.getfield 25, 3) := by decide +kernel
theorem dX11_figure_12 : decode cX11_figure 12 = .ok (.iload_n 1, 1) := by decide +kernel
theorem dX11_figure_13 : decode cX11_figure 13 = .ok (.baload, 1) := by decide +kernel
theorem dX11_figure_14 : decode cX11_figure 14 = .ok (.bipush 48, 2) := by decide +kernel
theorem dX11_figure_16 : decode cX11_figure 16 = .ok (.isub, 1) := by decide +kernel
theorem dX11_figure_17 : decode cX11_figure 17 = .ok (.goto 4, 3) := by decide +kernel
theorem dX11_figure_20 : decode cX11_figure 20 = .ok (.iconst (-1), 1) := by decide +kernel
theorem dX11_figure_21 : decode cX11_figure 21 = .ok (.ireturn, 1) := by decide +kernel
set_option maxRecDepth 20000 in
theorem ggX11_read_X11_kindBy : GoodIn wsX11_read wsX11_kindBy := goodIn_r _ [8] (by decide +kernel) (by decide +kernel)
set_option maxRecDepth 20000 in
theorem gX11_read_X11_kindBy : GoodIn wsX11_read (va_wsS RX11 71 yX11_kindBy wsX11_kindBy) := goodIn_app (goodIn_of _ (by decide +kernel)) ggX11_read_X11_kindBy
set_option maxRecDepth 20000 in
theorem ggX11_read_X11_figure : GoodIn wsX11_read wsX11_figure := goodIn_r _ [12, 3, 4, 16, 17, 18, 19, 20, 21, 22, 23, 24, 25, 26, 27, 28, 29, 30, 31, 32, 33, 34, 35, 36, 37, 38, 39, 40, 41, 42, 43, 44, 45, 46, 47, 48, 49, 50, 51] (by decide +kernel) (by decide +kernel)
set_option maxRecDepth 20000 in
theorem gX11_read_X11_figure : GoodIn wsX11_read (wsV RX11 75 RX11 yX11_figure wsX11_figure) := goodIn_app (goodIn_of _ (by decide +kernel)) ggX11_read_X11_figure
set_option maxRecDepth 20000 in
theorem ggX11_read_X11_within : GoodIn wsX11_read wsX11_within := goodIn_r _ [15] (by decide +kernel) (by decide +kernel)
set_option maxRecDepth 20000 in
theorem gX11_read_X11_within : GoodIn wsX11_read (va_wsS RX11 56 yX11_within wsX11_within) := goodIn_app (goodIn_of _ (by decide +kernel)) ggX11_read_X11_within
theorem dX11_read_0 : decode cX11_read 0 = .ok (.aload_n 0, 1) := by decide +kernel
theorem dX11_read_1 : decode cX11_read 1 = .ok (.iconst 0, 1) := by decide +kernel
theorem dX11_read_2 : decode cX11_read 2 = .ok (.putfield 64, 3) := by decide +kernel
theorem dX11_read_5 : decode cX11_read 5 = .ok (.aload_n 0, 1) := by decide +kernel
theorem dX11_read_6 : decode cX11_read 6 = .ok (.iconst 0, 1) := by decide +kernel
theorem dX11_read_7 : decode cX11_read 7 = .ok (.putfield 68, 3) := by decide +kernel
theorem dX11_read_10 : decode cX11_read 10 = .ok (.iconst 0, 1) := by decide +kernel
theorem dX11_read_11 : decode cX11_read 11 = .ok (.istore_n 1, 1) := by decide +kernel
theorem dX11_read_12 : decode cX11_read 12 = .ok (.aload_n 0, 1) := by decide +kernel
theorem dX11_read_13 : decode cX11_read 13 = .ok (.getfield 68, 3) := by decide +kernel
theorem dX11_read_16 : decode cX11_read 16 = .ok (.bipush 6, 2) := by decide +kernel
theorem dX11_read_18 : decode cX11_read 18 = .ok (.if_icmp .ge 183, 3) := by decide +kernel
theorem dX11_read_21 : decode cX11_read 21 = .ok (.iload_n 1, 1) := by decide +kernel
theorem dX11_read_22 : decode cX11_read 22 = .ok (.aload_n 0, 1) := by decide +kernel
theorem dX11_read_23 : decode cX11_read 23 = .ok (.getfield 60, 3) := by decide +kernel
theorem dX11_read_26 : decode cX11_read 26 = .ok (.if_icmp .eq 16, 3) := by decide +kernel
theorem dX11_read_29 : decode cX11_read 29 = .ok (.aload_n 0, 1) := by decide +kernel
theorem dX11_read_30 : decode cX11_read 30 = .ok (.getfield 25, 3) := by decide +kernel
theorem dX11_read_33 : decode cX11_read 33 = .ok (.iload_n 1, 1) := by decide +kernel
theorem dX11_read_34 : decode cX11_read 34 = .ok (.baload, 1) := by decide +kernel
theorem dX11_read_35 : decode cX11_read 35 = .ok (.invokestatic 71, 3) := by decide +kernel
theorem dX11_read_38 : decode cX11_read 38 = .ok (.iconst (-1), 1) := by decide +kernel
theorem dX11_read_39 : decode cX11_read 39 = .ok (.if_icmp .ne 5, 3) := by decide +kernel
theorem dX11_read_42 : decode cX11_read 42 = .ok (.iload_n 1, 1) := by decide +kernel
theorem dX11_read_43 : decode cX11_read 43 = .ok (.ireturn, 1) := by decide +kernel
theorem dX11_read_44 : decode cX11_read 44 = .ok (.aload_n 0, 1) := by decide +kernel
theorem dX11_read_45 : decode cX11_read 45 = .ok (.iload_n 1, 1) := by decide +kernel
theorem dX11_read_46 : decode cX11_read 46 = .ok (.iconst 1, 1) := by decide +kernel
theorem dX11_read_47 : decode cX11_read 47 = .ok (.iadd, 1) := by decide +kernel
theorem dX11_read_48 : decode cX11_read 48 = .ok (.invokevirtual 75, 3) := by decide +kernel
theorem dX11_read_51 : decode cX11_read 51 = .ok (.iconst 0, 1) := by decide +kernel
theorem dX11_read_52 : decode cX11_read 52 = .ok (.bipush 9, 2) := by decide +kernel
theorem dX11_read_54 : decode cX11_read 54 = .ok (.invokestatic 56, 3) := by decide +kernel
theorem dX11_read_57 : decode cX11_read 57 = .ok (.ifCond .ne 7, 3) := by decide +kernel
theorem dX11_read_60 : decode cX11_read 60 = .ok (.iload_n 1, 1) := by decide +kernel
theorem dX11_read_61 : decode cX11_read 61 = .ok (.iconst 1, 1) := by decide +kernel
theorem dX11_read_62 : decode cX11_read 62 = .ok (.iadd, 1) := by decide +kernel
theorem dX11_read_63 : decode cX11_read 63 = .ok (.ireturn, 1) := by decide +kernel
theorem dX11_read_64 : decode cX11_read 64 = .ok (.aload_n 0, 1) := by decide +kernel
theorem dX11_read_65 : decode cX11_read 65 = .ok (.dup, 1) := by decide +kernel
theorem dX11_read_66 : decode cX11_read 66 = .ok (.getfield 68, 3) := by decide +kernel
theorem dX11_read_69 : decode cX11_read 69 = .ok (.iconst 1, 1) := by decide +kernel
theorem dX11_read_70 : decode cX11_read 70 = .ok (.iadd, 1) := by decide +kernel
theorem dX11_read_71 : decode cX11_read 71 = .ok (.putfield 68, 3) := by decide +kernel
theorem dX11_read_74 : decode cX11_read 74 = .ok (.iinc 1 2, 3) := by decide +kernel
theorem dX11_read_77 : decode cX11_read 77 = .ok (.iload_n 1, 1) := by decide +kernel
theorem dX11_read_78 : decode cX11_read 78 = .ok (.aload_n 0, 1) := by decide +kernel
theorem dX11_read_79 : decode cX11_read 79 = .ok (.getfield 60, 3) := by decide +kernel
theorem dX11_read_82 : decode cX11_read 82 = .ok (.if_icmp .ge 83, 3) := by decide +kernel
theorem dX11_read_85 : decode cX11_read 85 = .ok (.aload_n 0, 1) := by decide +kernel
theorem dX11_read_86 : decode cX11_read 86 = .ok (.getfield 25, 3) := by decide +kernel
theorem dX11_read_89 : decode cX11_read 89 = .ok (.iload_n 1, 1) := by decide +kernel
theorem dX11_read_90 : decode cX11_read 90 = .ok (.baload, 1) := by decide +kernel
theorem dX11_read_91 : decode cX11_read 91 = .ok (.bipush 59, 2) := by decide +kernel
theorem dX11_read_93 : decode cX11_read 93 = .ok (.if_icmp .ne 72, 3) := by decide +kernel
theorem dX11_read_96 : decode cX11_read 96 = .ok (.aload_n 0, 1) := by decide +kernel
theorem dX11_read_97 : decode cX11_read 97 = .ok (.getfield 68, 3) := by decide +kernel
theorem dX11_read_100 : decode cX11_read 100 = .ok (.iconst 1, 1) := by decide +kernel
theorem dX11_read_101 : decode cX11_read 101 = .ok (.if_icmp .le 64, 3) := by decide +kernel
theorem dX11_read_104 : decode cX11_read 104 = .ok (.aload_n 0, 1) := by decide +kernel
theorem dX11_read_105 : decode cX11_read 105 = .ok (.aload_n 0, 1) := by decide +kernel
theorem dX11_read_106 : decode cX11_read 106 = .ok (.iload_n 1, 1) := by decide +kernel
theorem dX11_read_107 : decode cX11_read 107 = .ok (.iconst 1, 1) := by decide +kernel
theorem dX11_read_108 : decode cX11_read 108 = .ok (.iadd, 1) := by decide +kernel
theorem dX11_read_109 : decode cX11_read 109 = .ok (.invokevirtual 75, 3) := by decide +kernel
theorem dX11_read_112 : decode cX11_read 112 = .ok (.iconst 1, 1) := by decide +kernel
theorem dX11_read_113 : decode cX11_read 113 = .ok (.bipush 9, 2) := by decide +kernel
theorem dX11_read_115 : decode cX11_read 115 = .ok (.invokestatic 56, 3) := by decide +kernel
theorem dX11_read_118 : decode cX11_read 118 = .ok (.ifCond .eq 17, 3) := by decide +kernel
theorem dX11_read_121 : decode cX11_read 121 = .ok (.iload_n 1, 1) := by decide +kernel
theorem dX11_read_122 : decode cX11_read 122 = .ok (.iconst 2, 1) := by decide +kernel
theorem dX11_read_123 : decode cX11_read 123 = .ok (.iadd, 1) := by decide +kernel
theorem dX11_read_124 : decode cX11_read 124 = .ok (.aload_n 0, 1) := by decide +kernel
theorem dX11_read_125 : decode cX11_read 125 = .ok (.getfield 60, 3) := by decide +kernel
theorem dX11_read_128 : decode cX11_read 128 = .ok (.if_icmp .ne 7, 3) := by decide +kernel
theorem dX11_read_131 : decode cX11_read 131 = .ok (.iconst 1, 1) := by decide +kernel
theorem dX11_read_132 : decode cX11_read 132 = .ok (.goto 4, 3) := by decide +kernel
theorem dX11_read_135 : decode cX11_read 135 = .ok (.iconst 0, 1) := by decide +kernel
theorem dX11_read_136 : decode cX11_read 136 = .ok (.putfield 64, 3) := by decide +kernel
theorem dX11_read_139 : decode cX11_read 139 = .ok (.aload_n 0, 1) := by decide +kernel
theorem dX11_read_140 : decode cX11_read 140 = .ok (.iload_n 1, 1) := by decide +kernel
theorem dX11_read_141 : decode cX11_read 141 = .ok (.iconst 1, 1) := by decide +kernel
theorem dX11_read_142 : decode cX11_read 142 = .ok (.iadd, 1) := by decide +kernel
theorem dX11_read_143 : decode cX11_read 143 = .ok (.invokevirtual 75, 3) := by decide +kernel
theorem dX11_read_146 : decode cX11_read 146 = .ok (.iconst 1, 1) := by decide +kernel
theorem dX11_read_147 : decode cX11_read 147 = .ok (.bipush 9, 2) := by decide +kernel
theorem dX11_read_149 : decode cX11_read 149 = .ok (.invokestatic 56, 3) := by decide +kernel
theorem dX11_read_152 : decode cX11_read 152 = .ok (.ifCond .eq 9, 3) := by decide +kernel
theorem dX11_read_155 : decode cX11_read 155 = .ok (.iload_n 1, 1) := by decide +kernel
theorem dX11_read_156 : decode cX11_read 156 = .ok (.iconst 2, 1) := by decide +kernel
theorem dX11_read_157 : decode cX11_read 157 = .ok (.iadd, 1) := by decide +kernel
theorem dX11_read_158 : decode cX11_read 158 = .ok (.goto 6, 3) := by decide +kernel
theorem dX11_read_161 : decode cX11_read 161 = .ok (.iload_n 1, 1) := by decide +kernel
theorem dX11_read_162 : decode cX11_read 162 = .ok (.iconst 1, 1) := by decide +kernel
theorem dX11_read_163 : decode cX11_read 163 = .ok (.iadd, 1) := by decide +kernel
theorem dX11_read_164 : decode cX11_read 164 = .ok (.ireturn, 1) := by decide +kernel
theorem dX11_read_165 : decode cX11_read 165 = .ok (.iload_n 1, 1) := by decide +kernel
theorem dX11_read_166 : decode cX11_read 166 = .ok (.aload_n 0, 1) := by decide +kernel
theorem dX11_read_167 : decode cX11_read 167 = .ok (.getfield 60, 3) := by decide +kernel
theorem dX11_read_170 : decode cX11_read 170 = .ok (.if_icmp .eq 23, 3) := by decide +kernel
theorem dX11_read_173 : decode cX11_read 173 = .ok (.aload_n 0, 1) := by decide +kernel
theorem dX11_read_174 : decode cX11_read 174 = .ok (.getfield 68, 3) := by decide +kernel
theorem dX11_read_177 : decode cX11_read 177 = .ok (.bipush 6, 2) := by decide +kernel
theorem dX11_read_179 : decode cX11_read 179 = .ok (.if_icmp .eq 14, 3) := by decide +kernel
theorem dX11_read_182 : decode cX11_read 182 = .ok (.aload_n 0, 1) := by decide +kernel
theorem dX11_read_183 : decode cX11_read 183 = .ok (.getfield 25, 3) := by decide +kernel
theorem dX11_read_186 : decode cX11_read 186 = .ok (.iload_n 1, 1) := by decide +kernel
theorem dX11_read_187 : decode cX11_read 187 = .ok (.baload, 1) := by decide +kernel
theorem dX11_read_188 : decode cX11_read 188 = .ok (.bipush 44, 2) := by decide +kernel
theorem dX11_read_190 : decode cX11_read 190 = .ok (.if_icmp .eq 5, 3) := by decide +kernel
theorem dX11_read_193 : decode cX11_read 193 = .ok (.iload_n 1, 1) := by decide +kernel
theorem dX11_read_194 : decode cX11_read 194 = .ok (.ireturn, 1) := by decide +kernel
theorem dX11_read_195 : decode cX11_read 195 = .ok (.iinc 1 1, 3) := by decide +kernel
theorem dX11_read_198 : decode cX11_read 198 = .ok (.goto (-186), 3) := by decide +kernel
theorem dX11_read_201 : decode cX11_read 201 = .ok (.iload_n 1, 1) := by decide +kernel
theorem dX11_read_202 : decode cX11_read 202 = .ok (.ireturn, 1) := by decide +kernel
set_option maxRecDepth 20000 in
theorem ggX11_fault_X11_read : GoodIn wsX11_fault wsX11_read := goodIn_r _ [5, 6, 7, 8, 9, 10, 11, 4, 12, 13, 14, 15, 16, 17, 18, 19, 20, 21, 22, 23, 24, 25, 26, 27, 28, 29, 30, 31, 32, 33, 34, 35, 36, 37, 38, 39, 40, 41, 42, 43, 44, 45, 46, 47, 48, 49, 50, 51, 52, 53, 54, 55] (by decide +kernel) (by decide +kernel)
set_option maxRecDepth 20000 in
theorem gX11_fault_X11_read : GoodIn wsX11_fault (wsV RX11 78 RX11 yX11_read wsX11_read) := goodIn_app (goodIn_of _ (by decide +kernel)) ggX11_fault_X11_read
theorem dX11_fault_0 : decode cX11_fault 0 = .ok (.aload_n 0, 1) := by decide +kernel
theorem dX11_fault_1 : decode cX11_fault 1 = .ok (.invokevirtual 78, 3) := by decide +kernel
theorem dX11_fault_4 : decode cX11_fault 4 = .ok (.ireturn, 1) := by decide +kernel
set_option maxRecDepth 20000 in
theorem ggX11_round_X11_read : GoodIn wsX11_round wsX11_read := goodIn_r _ [20, 1, 2, 15, 5, 21, 22, 19, 23, 24, 25, 26, 27, 28, 29, 30, 31, 32, 33, 34, 35, 36, 37, 38, 39, 40, 41, 42, 43, 44, 45, 46, 47, 48, 49, 50, 51, 52, 53, 54, 55, 56, 57, 58, 59, 60, 61, 62, 63, 64, 65, 66] (by decide +kernel) (by decide +kernel)
set_option maxRecDepth 20000 in
theorem gX11_round_X11_read : GoodIn wsX11_round (wsV RX11 78 RX11 yX11_read wsX11_read) := goodIn_app (goodIn_of _ (by decide +kernel)) ggX11_round_X11_read
set_option maxRecDepth 20000 in
theorem ggX11_round_X11_kindBy : GoodIn wsX11_round wsX11_kindBy := goodIn_r _ [23] (by decide +kernel) (by decide +kernel)
set_option maxRecDepth 20000 in
theorem gX11_round_X11_kindBy : GoodIn wsX11_round (va_wsS RX11 71 yX11_kindBy wsX11_kindBy) := goodIn_app (goodIn_of _ (by decide +kernel)) ggX11_round_X11_kindBy
theorem dX11_round_0 : decode cX11_round 0 = .ok (.aload_n 0, 1) := by decide +kernel
theorem dX11_round_1 : decode cX11_round 1 = .ok (.invokevirtual 78, 3) := by decide +kernel
theorem dX11_round_4 : decode cX11_round 4 = .ok (.istore_n 1, 1) := by decide +kernel
theorem dX11_round_5 : decode cX11_round 5 = .ok (.aload_n 0, 1) := by decide +kernel
theorem dX11_round_6 : decode cX11_round 6 = .ok (.getfield 64, 3) := by decide +kernel
theorem dX11_round_9 : decode cX11_round 9 = .ok (.ifCond .ne 6, 3) := by decide +kernel
theorem dX11_round_12 : decode cX11_round 12 = .ok (.bipush (-103), 2) := by decide +kernel
theorem dX11_round_14 : decode cX11_round 14 = .ok (.ireturn, 1) := by decide +kernel
theorem dX11_round_15 : decode cX11_round 15 = .ok (.aload_n 0, 1) := by decide +kernel
theorem dX11_round_16 : decode cX11_round 16 = .ok (.aload_n 0, 1) := by decide +kernel
theorem dX11_round_17 : decode cX11_round 17 = .ok (.getfield 68, 3) := by decide +kernel
theorem dX11_round_20 : decode cX11_round 20 = .ok (.putfield 82, 3) := by decide +kernel
theorem dX11_round_23 : decode cX11_round 23 = .ok (.iconst 0, 1) := by decide +kernel
theorem dX11_round_24 : decode cX11_round 24 = .ok (.istore_n 2, 1) := by decide +kernel
theorem dX11_round_25 : decode cX11_round 25 = .ok (.iload_n 2, 1) := by decide +kernel
theorem dX11_round_26 : decode cX11_round 26 = .ok (.aload_n 0, 1) := by decide +kernel
theorem dX11_round_27 : decode cX11_round 27 = .ok (.getfield 82, 3) := by decide +kernel
theorem dX11_round_30 : decode cX11_round 30 = .ok (.if_icmp .ge 52, 3) := by decide +kernel
theorem dX11_round_33 : decode cX11_round 33 = .ok (.aload_n 0, 1) := by decide +kernel
theorem dX11_round_34 : decode cX11_round 34 = .ok (.getfield 7, 3) := by decide +kernel
theorem dX11_round_37 : decode cX11_round 37 = .ok (.iload_n 2, 1) := by decide +kernel
theorem dX11_round_38 : decode cX11_round 38 = .ok (.aload_n 0, 1) := by decide +kernel
theorem dX11_round_39 : decode cX11_round 39 = .ok (.getfield 25, 3) := by decide +kernel
theorem dX11_round_42 : decode cX11_round 42 = .ok (.iconst 3, 1) := by decide +kernel
theorem dX11_round_43 : decode cX11_round 43 = .ok (.iload_n 2, 1) := by decide +kernel
theorem dX11_round_44 : decode cX11_round 44 = .ok (.imul, 1) := by decide +kernel
theorem dX11_round_45 : decode cX11_round 45 = .ok (.baload, 1) := by decide +kernel
theorem dX11_round_46 : decode cX11_round 46 = .ok (.invokestatic 71, 3) := by decide +kernel
theorem dX11_round_49 : decode cX11_round 49 = .ok (.iastore, 1) := by decide +kernel
theorem dX11_round_50 : decode cX11_round 50 = .ok (.aload_n 0, 1) := by decide +kernel
theorem dX11_round_51 : decode cX11_round 51 = .ok (.getfield 13, 3) := by decide +kernel
theorem dX11_round_54 : decode cX11_round 54 = .ok (.iload_n 2, 1) := by decide +kernel
theorem dX11_round_55 : decode cX11_round 55 = .ok (.aload_n 0, 1) := by decide +kernel
theorem dX11_round_56 : decode cX11_round 56 = .ok (.getfield 25, 3) := by decide +kernel
theorem dX11_round_59 : decode cX11_round 59 = .ok (.iconst 3, 1) := by decide +kernel
theorem dX11_round_60 : decode cX11_round 60 = .ok (.iload_n 2, 1) := by decide +kernel
theorem dX11_round_61 : decode cX11_round 61 = .ok (.imul, 1) := by decide +kernel
theorem dX11_round_62 : decode cX11_round 62 = .ok (.iconst 1, 1) := by decide +kernel
theorem dX11_round_63 : decode cX11_round 63 = .ok (.iadd, 1) := by decide +kernel
theorem dX11_round_64 : decode cX11_round 64 = .ok (.baload, 1) := by decide +kernel
theorem dX11_round_65 : decode cX11_round 65 = .ok (.bipush 48, 2) := by decide +kernel
theorem dX11_round_67 : decode cX11_round 67 = .ok (.isub, 1) := by decide +kernel
theorem dX11_round_68 : decode cX11_round 68 = .ok (.iastore, 1) := by decide +kernel
theorem dX11_round_69 : decode cX11_round 69 = .ok (.aload_n 0, 1) := by decide +kernel
theorem dX11_round_70 : decode cX11_round 70 = .ok (.getfield 16, 3) := by decide +kernel
theorem dX11_round_73 : decode cX11_round 73 = .ok (.iload_n 2, 1) := by decide +kernel
theorem dX11_round_74 : decode cX11_round 74 = .ok (.iload_n 2, 1) := by decide +kernel
theorem dX11_round_75 : decode cX11_round 75 = .ok (.iastore, 1) := by decide +kernel
theorem dX11_round_76 : decode cX11_round 76 = .ok (.iinc 2 1, 3) := by decide +kernel
theorem dX11_round_79 : decode cX11_round 79 = .ok (.goto (-54), 3) := by decide +kernel
theorem dX11_round_82 : decode cX11_round 82 = .ok (.aload_n 0, 1) := by decide +kernel
theorem dX11_round_83 : decode cX11_round 83 = .ok (.aload_n 0, 1) := by decide +kernel
theorem dX11_round_84 : decode cX11_round 84 = .ok (.getfield 25, 3) := by decide +kernel
theorem dX11_round_87 : decode cX11_round 87 = .ok (.iload_n 1, 1) := by decide +kernel
theorem dX11_round_88 : decode cX11_round 88 = .ok (.iconst 1, 1) := by decide +kernel
theorem dX11_round_89 : decode cX11_round 89 = .ok (.isub, 1) := by decide +kernel
theorem dX11_round_90 : decode cX11_round 90 = .ok (.baload, 1) := by decide +kernel
theorem dX11_round_91 : decode cX11_round 91 = .ok (.bipush 48, 2) := by decide +kernel
theorem dX11_round_93 : decode cX11_round 93 = .ok (.isub, 1) := by decide +kernel
theorem dX11_round_94 : decode cX11_round 94 = .ok (.putfield 85, 3) := by decide +kernel
theorem dX11_round_97 : decode cX11_round 97 = .ok (.aload_n 0, 1) := by decide +kernel
theorem dX11_round_98 : decode cX11_round 98 = .ok (.dup, 1) := by decide +kernel
theorem dX11_round_99 : decode cX11_round 99 = .ok (.getfield 88, 3) := by decide +kernel
theorem dX11_round_102 : decode cX11_round 102 = .ok (.iconst 1, 1) := by decide +kernel
theorem dX11_round_103 : decode cX11_round 103 = .ok (.iadd, 1) := by decide +kernel
theorem dX11_round_104 : decode cX11_round 104 = .ok (.putfield 88, 3) := by decide +kernel
theorem dX11_round_107 : decode cX11_round 107 = .ok (.aload_n 0, 1) := by decide +kernel
theorem dX11_round_108 : decode cX11_round 108 = .ok (.iconst 0, 1) := by decide +kernel
theorem dX11_round_109 : decode cX11_round 109 = .ok (.putfield 91, 3) := by decide +kernel
theorem dX11_round_112 : decode cX11_round 112 = .ok (.aload_n 0, 1) := by decide +kernel
theorem dX11_round_113 : decode cX11_round 113 = .ok (.iconst 0, 1) := by decide +kernel
theorem dX11_round_114 : decode cX11_round 114 = .ok (.putfield 94, 3) := by decide +kernel
theorem dX11_round_117 : decode cX11_round 117 = .ok (.aload_n 0, 1) := by decide +kernel
theorem dX11_round_118 : decode cX11_round 118 = .ok (.iconst 0, 1) := by decide +kernel
theorem dX11_round_119 : decode cX11_round 119 = .ok (.putfield 97, 3) := by decide +kernel
theorem dX11_round_122 : decode cX11_round 122 = .ok (.aload_n 0, 1) := by decide +kernel
theorem dX11_round_123 : decode cX11_round 123 = .ok (.iconst 0, 1) := by decide +kernel
theorem dX11_round_124 : decode cX11_round 124 = .ok (.putfield 100, 3) := by decide +kernel
theorem dX11_round_127 : decode cX11_round 127 = .ok (.aload_n 0, 1) := by decide +kernel
theorem dX11_round_128 : decode cX11_round 128 = .ok (.iconst 0, 1) := by decide +kernel
theorem dX11_round_129 : decode cX11_round 129 = .ok (.putfield 103, 3) := by decide +kernel
theorem dX11_round_132 : decode cX11_round 132 = .ok (.aload_n 0, 1) := by decide +kernel
theorem dX11_round_133 : decode cX11_round 133 = .ok (.iconst 0, 1) := by decide +kernel
theorem dX11_round_134 : decode cX11_round 134 = .ok (.putfield 60, 3) := by decide +kernel
theorem dX11_round_137 : decode cX11_round 137 = .ok (.aload_n 0, 1) := by decide +kernel
theorem dX11_round_138 : decode cX11_round 138 = .ok (.getfield 82, 3) := by decide +kernel
theorem dX11_round_141 : decode cX11_round 141 = .ok (.ireturn, 1) := by decide +kernel
set_option maxRecDepth 20000 in
theorem ggX11_isHouse_X11_within : GoodIn wsX11_isHouse wsX11_within := goodIn_r _ [5] (by decide +kernel) (by decide +kernel)
set_option maxRecDepth 20000 in
theorem gX11_isHouse_X11_within : GoodIn wsX11_isHouse (va_wsS RX11 56 yX11_within wsX11_within) := goodIn_app (goodIn_of _ (by decide +kernel)) ggX11_isHouse_X11_within
theorem dX11_isHouse_0 : decode cX11_isHouse 0 = .ok (.iload_n 1, 1) := by decide +kernel
theorem dX11_isHouse_1 : decode cX11_isHouse 1 = .ok (.iconst 0, 1) := by decide +kernel
theorem dX11_isHouse_2 : decode cX11_isHouse 2 = .ok (.aload_n 0, 1) := by decide +kernel
theorem dX11_isHouse_3 : decode cX11_isHouse 3 = .ok (.getfield 82, 3) := by decide +kernel
theorem dX11_isHouse_6 : decode cX11_isHouse 6 = .ok (.iconst 1, 1) := by decide +kernel
theorem dX11_isHouse_7 : decode cX11_isHouse 7 = .ok (.isub, 1) := by decide +kernel
theorem dX11_isHouse_8 : decode cX11_isHouse 8 = .ok (.invokestatic 56, 3) := by decide +kernel
theorem dX11_isHouse_11 : decode cX11_isHouse 11 = .ok (.ireturn, 1) := by decide +kernel
theorem dX11_readsAll_0 : decode cX11_readsAll 0 = .ok (.aload_n 0, 1) := by decide +kernel
theorem dX11_readsAll_1 : decode cX11_readsAll 1 = .ok (.getfield 13, 3) := by decide +kernel
theorem dX11_readsAll_4 : decode cX11_readsAll 4 = .ok (.iload_n 1, 1) := by decide +kernel
theorem dX11_readsAll_5 : decode cX11_readsAll 5 = .ok (.iaload, 1) := by decide +kernel
theorem dX11_readsAll_6 : decode cX11_readsAll 6 = .ok (.istore_n 2, 1) := by decide +kernel
theorem dX11_readsAll_7 : decode cX11_readsAll 7 = .ok (.aload_n 0, 1) := by decide +kernel
theorem dX11_readsAll_8 : decode cX11_readsAll 8 = .ok (.getfield 7, 3) := by decide +kernel
theorem dX11_readsAll_11 : decode cX11_readsAll 11 = .ok (.iload_n 1, 1) := by decide +kernel
theorem dX11_readsAll_12 : decode cX11_readsAll 12 = .ok (.iaload, 1) := by decide +kernel
theorem dX11_readsAll_13 : decode cX11_readsAll 13 = .ok (.tableswitch 51 1 4 #[31, 35, 39, 45], 31) := by decide +kernel
theorem dX11_readsAll_44 : decode cX11_readsAll 44 = .ok (.iconst 2, 1) := by decide +kernel
theorem dX11_readsAll_45 : decode cX11_readsAll 45 = .ok (.iload_n 2, 1) := by decide +kernel
theorem dX11_readsAll_46 : decode cX11_readsAll 46 = .ok (.imul, 1) := by decide +kernel
theorem dX11_readsAll_47 : decode cX11_readsAll 47 = .ok (.ireturn, 1) := by decide +kernel
theorem dX11_readsAll_48 : decode cX11_readsAll 48 = .ok (.iload_n 2, 1) := by decide +kernel
theorem dX11_readsAll_49 : decode cX11_readsAll 49 = .ok (.iconst 3, 1) := by decide +kernel
theorem dX11_readsAll_50 : decode cX11_readsAll 50 = .ok (.iadd, 1) := by decide +kernel
theorem dX11_readsAll_51 : decode cX11_readsAll 51 = .ok (.ireturn, 1) := by decide +kernel
theorem dX11_readsAll_52 : decode cX11_readsAll 52 = .ok (.iload_n 2, 1) := by decide +kernel
theorem dX11_readsAll_53 : decode cX11_readsAll 53 = .ok (.iconst 1, 1) := by decide +kernel
theorem dX11_readsAll_54 : decode cX11_readsAll 54 = .ok (.iadd, 1) := by decide +kernel
theorem dX11_readsAll_55 : decode cX11_readsAll 55 = .ok (.iconst 2, 1) := by decide +kernel
theorem dX11_readsAll_56 : decode cX11_readsAll 56 = .ok (.idiv, 1) := by decide +kernel
theorem dX11_readsAll_57 : decode cX11_readsAll 57 = .ok (.ireturn, 1) := by decide +kernel
theorem dX11_readsAll_58 : decode cX11_readsAll 58 = .ok (.iconst 2, 1) := by decide +kernel
theorem dX11_readsAll_59 : decode cX11_readsAll 59 = .ok (.iload_n 2, 1) := by decide +kernel
theorem dX11_readsAll_60 : decode cX11_readsAll 60 = .ok (.imul, 1) := by decide +kernel
theorem dX11_readsAll_61 : decode cX11_readsAll 61 = .ok (.iconst 2, 1) := by decide +kernel
theorem dX11_readsAll_62 : decode cX11_readsAll 62 = .ok (.iadd, 1) := by decide +kernel
theorem dX11_readsAll_63 : decode cX11_readsAll 63 = .ok (.ireturn, 1) := by decide +kernel
theorem dX11_readsAll_64 : decode cX11_readsAll 64 = .ok (.iload_n 2, 1) := by decide +kernel
theorem dX11_readsAll_65 : decode cX11_readsAll 65 = .ok (.ireturn, 1) := by decide +kernel
set_option maxRecDepth 20000 in
theorem ggX11_reads_X11_isIn : GoodIn wsX11_reads wsX11_isIn := goodIn_r _ [5] (by decide +kernel) (by decide +kernel)
set_option maxRecDepth 20000 in
theorem gX11_reads_X11_isIn : GoodIn wsX11_reads (va_wsS RX11 106 yX11_isIn wsX11_isIn) := goodIn_app (goodIn_of _ (by decide +kernel)) ggX11_reads_X11_isIn
set_option maxRecDepth 20000 in
theorem ggX11_reads_X11_readsAll : GoodIn wsX11_reads wsX11_readsAll := goodIn_r _ [9, 10, 11, 12, 13, 14, 15, 16, 17, 18, 19, 20, 21, 22, 23, 24, 25, 26, 27, 28, 29, 30, 31, 32, 33, 34, 35, 36, 37, 38, 39, 40, 41, 42, 43, 44, 45, 46, 47] (by decide +kernel) (by decide +kernel)
set_option maxRecDepth 20000 in
theorem gX11_reads_X11_readsAll : GoodIn wsX11_reads (wsV RX11 110 RX11 yX11_readsAll wsX11_readsAll) := goodIn_app (goodIn_of _ (by decide +kernel)) ggX11_reads_X11_readsAll
theorem dX11_reads_0 : decode cX11_reads 0 = .ok (.aload_n 0, 1) := by decide +kernel
theorem dX11_reads_1 : decode cX11_reads 1 = .ok (.getfield 91, 3) := by decide +kernel
theorem dX11_reads_4 : decode cX11_reads 4 = .ok (.iload_n 1, 1) := by decide +kernel
theorem dX11_reads_5 : decode cX11_reads 5 = .ok (.invokestatic 106, 3) := by decide +kernel
theorem dX11_reads_8 : decode cX11_reads 8 = .ok (.ifCond .eq 13, 3) := by decide +kernel
theorem dX11_reads_11 : decode cX11_reads 11 = .ok (.aload_n 0, 1) := by decide +kernel
theorem dX11_reads_12 : decode cX11_reads 12 = .ok (.iload_n 1, 1) := by decide +kernel
theorem dX11_reads_13 : decode cX11_reads 13 = .ok (.invokevirtual 110, 3) := by decide +kernel
theorem dX11_reads_16 : decode cX11_reads 16 = .ok (.iconst 2, 1) := by decide +kernel
theorem dX11_reads_17 : decode cX11_reads 17 = .ok (.idiv, 1) := by decide +kernel
theorem dX11_reads_18 : decode cX11_reads 18 = .ok (.goto 8, 3) := by decide +kernel
theorem dX11_reads_21 : decode cX11_reads 21 = .ok (.aload_n 0, 1) := by decide +kernel
theorem dX11_reads_22 : decode cX11_reads 22 = .ok (.iload_n 1, 1) := by decide +kernel
theorem dX11_reads_23 : decode cX11_reads 23 = .ok (.invokevirtual 110, 3) := by decide +kernel
theorem dX11_reads_26 : decode cX11_reads 26 = .ok (.ireturn, 1) := by decide +kernel
set_option maxRecDepth 20000 in
theorem ggX11_go_X11_reads : GoodIn wsX11_go wsX11_reads := goodIn_r _ [8, 9, 10, 11, 7, 12, 13, 14, 15, 16, 17, 18, 19, 20, 21, 22, 23, 24, 25, 26, 27, 28, 29, 30, 31, 32, 33, 34, 35, 36, 37, 38, 39, 40, 41, 42, 43, 44, 45, 46, 47, 48, 49, 50, 51, 52, 53, 54] (by decide +kernel) (by decide +kernel)
set_option maxRecDepth 20000 in
theorem gX11_go_X11_reads : GoodIn wsX11_go (wsV RX11 113 RX11 yX11_reads wsX11_reads) := goodIn_app (goodIn_of _ (by decide +kernel)) ggX11_go_X11_reads
theorem dX11_go_0 : decode cX11_go 0 = .ok (.iconst 0, 1) := by decide +kernel
theorem dX11_go_1 : decode cX11_go 1 = .ok (.istore_n 1, 1) := by decide +kernel
theorem dX11_go_2 : decode cX11_go 2 = .ok (.iconst 0, 1) := by decide +kernel
theorem dX11_go_3 : decode cX11_go 3 = .ok (.istore_n 2, 1) := by decide +kernel
theorem dX11_go_4 : decode cX11_go 4 = .ok (.iload_n 2, 1) := by decide +kernel
theorem dX11_go_5 : decode cX11_go 5 = .ok (.aload_n 0, 1) := by decide +kernel
theorem dX11_go_6 : decode cX11_go 6 = .ok (.getfield 82, 3) := by decide +kernel
theorem dX11_go_9 : decode cX11_go 9 = .ok (.if_icmp .ge 36, 3) := by decide +kernel
theorem dX11_go_12 : decode cX11_go 12 = .ok (.iload_n 1, 1) := by decide +kernel
theorem dX11_go_13 : decode cX11_go 13 = .ok (.iconst 1, 1) := by decide +kernel
theorem dX11_go_14 : decode cX11_go 14 = .ok (.aload_n 0, 1) := by decide +kernel
theorem dX11_go_15 : decode cX11_go 15 = .ok (.aload_n 0, 1) := by decide +kernel
theorem dX11_go_16 : decode cX11_go 16 = .ok (.getfield 16, 3) := by decide +kernel
theorem dX11_go_19 : decode cX11_go 19 = .ok (.iload_n 2, 1) := by decide +kernel
theorem dX11_go_20 : decode cX11_go 20 = .ok (.iaload, 1) := by decide +kernel
theorem dX11_go_21 : decode cX11_go 21 = .ok (.invokevirtual 113, 3) := by decide +kernel
theorem dX11_go_24 : decode cX11_go 24 = .ok (.iadd, 1) := by decide +kernel
theorem dX11_go_25 : decode cX11_go 25 = .ok (.iadd, 1) := by decide +kernel
theorem dX11_go_26 : decode cX11_go 26 = .ok (.istore_n 1, 1) := by decide +kernel
theorem dX11_go_27 : decode cX11_go 27 = .ok (.aload_n 0, 1) := by decide +kernel
theorem dX11_go_28 : decode cX11_go 28 = .ok (.getfield 29, 3) := by decide +kernel
theorem dX11_go_31 : decode cX11_go 31 = .ok (.aload_n 0, 1) := by decide +kernel
theorem dX11_go_32 : decode cX11_go 32 = .ok (.getfield 16, 3) := by decide +kernel
theorem dX11_go_35 : decode cX11_go 35 = .ok (.iload_n 2, 1) := by decide +kernel
theorem dX11_go_36 : decode cX11_go 36 = .ok (.iaload, 1) := by decide +kernel
theorem dX11_go_37 : decode cX11_go 37 = .ok (.iload_n 1, 1) := by decide +kernel
theorem dX11_go_38 : decode cX11_go 38 = .ok (.iastore, 1) := by decide +kernel
theorem dX11_go_39 : decode cX11_go 39 = .ok (.iinc 2 1, 3) := by decide +kernel
theorem dX11_go_42 : decode cX11_go 42 = .ok (.goto (-38), 3) := by decide +kernel
theorem dX11_go_45 : decode cX11_go 45 = .ok (.return_, 1) := by decide +kernel
theorem dX11_isSour_0 : decode cX11_isSour 0 = .ok (.aload_n 0, 1) := by decide +kernel
theorem dX11_isSour_1 : decode cX11_isSour 1 = .ok (.getfield 29, 3) := by decide +kernel
theorem dX11_isSour_4 : decode cX11_isSour 4 = .ok (.iload_n 1, 1) := by decide +kernel
theorem dX11_isSour_5 : decode cX11_isSour 5 = .ok (.iaload, 1) := by decide +kernel
theorem dX11_isSour_6 : decode cX11_isSour 6 = .ok (.aload_n 0, 1) := by decide +kernel
theorem dX11_isSour_7 : decode cX11_isSour 7 = .ok (.getfield 7, 3) := by decide +kernel
theorem dX11_isSour_10 : decode cX11_isSour 10 = .ok (.iload_n 1, 1) := by decide +kernel
theorem dX11_isSour_11 : decode cX11_isSour 11 = .ok (.iaload, 1) := by decide +kernel
theorem dX11_isSour_12 : decode cX11_isSour 12 = .ok (.iconst 2, 1) := by decide +kernel
theorem dX11_isSour_13 : decode cX11_isSour 13 = .ok (.if_icmp .ne 7, 3) := by decide +kernel
theorem dX11_isSour_16 : decode cX11_isSour 16 = .ok (.iconst 2, 1) := by decide +kernel
theorem dX11_isSour_17 : decode cX11_isSour 17 = .ok (.goto 4, 3) := by decide +kernel
theorem dX11_isSour_20 : decode cX11_isSour 20 = .ok (.iconst 4, 1) := by decide +kernel
theorem dX11_isSour_21 : decode cX11_isSour 21 = .ok (.aload_n 0, 1) := by decide +kernel
theorem dX11_isSour_22 : decode cX11_isSour 22 = .ok (.getfield 85, 3) := by decide +kernel
theorem dX11_isSour_25 : decode cX11_isSour 25 = .ok (.imul, 1) := by decide +kernel
theorem dX11_isSour_26 : decode cX11_isSour 26 = .ok (.if_icmp .le 7, 3) := by decide +kernel
theorem dX11_isSour_29 : decode cX11_isSour 29 = .ok (.iconst 1, 1) := by decide +kernel
theorem dX11_isSour_30 : decode cX11_isSour 30 = .ok (.goto 4, 3) := by decide +kernel
theorem dX11_isSour_33 : decode cX11_isSour 33 = .ok (.iconst 0, 1) := by decide +kernel
theorem dX11_isSour_34 : decode cX11_isSour 34 = .ok (.ireturn, 1) := by decide +kernel
set_option maxRecDepth 20000 in
theorem ggX11_isAhead_X11_isHouse : GoodIn wsX11_isAhead wsX11_isHouse := goodIn_r _ [6, 7, 8, 9, 5, 10, 11, 12, 13, 14, 15, 16, 17, 18, 19, 20, 21, 22, 23, 24, 25, 26, 27, 28, 29, 30, 31, 32, 33, 34, 35, 36, 37, 38, 39, 40, 41, 42, 43, 44, 45, 46] (by decide +kernel) (by decide +kernel)
set_option maxRecDepth 20000 in
theorem gX11_isAhead_X11_isHouse : GoodIn wsX11_isAhead (wsV RX11 116 RX11 yX11_isHouse wsX11_isHouse) := goodIn_app (goodIn_of _ (by decide +kernel)) ggX11_isAhead_X11_isHouse
theorem dX11_isAhead_0 : decode cX11_isAhead 0 = .ok (.aload_n 0, 1) := by decide +kernel
theorem dX11_isAhead_1 : decode cX11_isAhead 1 = .ok (.iload_n 1, 1) := by decide +kernel
theorem dX11_isAhead_2 : decode cX11_isAhead 2 = .ok (.invokevirtual 116, 3) := by decide +kernel
theorem dX11_isAhead_5 : decode cX11_isAhead 5 = .ok (.ifCond .eq 25, 3) := by decide +kernel
theorem dX11_isAhead_8 : decode cX11_isAhead 8 = .ok (.aload_n 0, 1) := by decide +kernel
theorem dX11_isAhead_9 : decode cX11_isAhead 9 = .ok (.getfield 29, 3) := by decide +kernel
theorem dX11_isAhead_12 : decode cX11_isAhead 12 = .ok (.iload_n 1, 1) := by decide +kernel
theorem dX11_isAhead_13 : decode cX11_isAhead 13 = .ok (.iaload, 1) := by decide +kernel
theorem dX11_isAhead_14 : decode cX11_isAhead 14 = .ok (.aload_n 0, 1) := by decide +kernel
theorem dX11_isAhead_15 : decode cX11_isAhead 15 = .ok (.getfield 29, 3) := by decide +kernel
theorem dX11_isAhead_18 : decode cX11_isAhead 18 = .ok (.iload_n 2, 1) := by decide +kernel
theorem dX11_isAhead_19 : decode cX11_isAhead 19 = .ok (.iaload, 1) := by decide +kernel
theorem dX11_isAhead_20 : decode cX11_isAhead 20 = .ok (.bipush 6, 2) := by decide +kernel
theorem dX11_isAhead_22 : decode cX11_isAhead 22 = .ok (.isub, 1) := by decide +kernel
theorem dX11_isAhead_23 : decode cX11_isAhead 23 = .ok (.if_icmp .gt 7, 3) := by decide +kernel
theorem dX11_isAhead_26 : decode cX11_isAhead 26 = .ok (.iconst 1, 1) := by decide +kernel
theorem dX11_isAhead_27 : decode cX11_isAhead 27 = .ok (.goto 4, 3) := by decide +kernel
theorem dX11_isAhead_30 : decode cX11_isAhead 30 = .ok (.iconst 0, 1) := by decide +kernel
theorem dX11_isAhead_31 : decode cX11_isAhead 31 = .ok (.ireturn, 1) := by decide +kernel
set_option maxRecDepth 20000 in
theorem ggX11_hears_X11_isAhead : GoodIn wsX11_hears wsX11_isAhead := goodIn_r _ [6, 7, 8, 9, 10, 5, 11, 12, 13, 14, 15, 16, 17, 18, 19, 20, 21, 22, 23, 24, 25, 26, 27, 28, 29, 30, 31, 32, 33, 34, 35, 36, 37, 38, 39, 40, 41, 42, 43, 44, 45, 46, 47, 48, 49, 50, 51] (by decide +kernel) (by decide +kernel)
set_option maxRecDepth 20000 in
theorem gX11_hears_X11_isAhead : GoodIn wsX11_hears (wsV RX11 120 RX11 yX11_isAhead wsX11_isAhead) := goodIn_app (goodIn_of _ (by decide +kernel)) ggX11_hears_X11_isAhead
theorem dX11_hears_0 : decode cX11_hears 0 = .ok (.aload_n 0, 1) := by decide +kernel
theorem dX11_hears_1 : decode cX11_hears 1 = .ok (.getfield 7, 3) := by decide +kernel
theorem dX11_hears_4 : decode cX11_hears 4 = .ok (.iload_n 1, 1) := by decide +kernel
theorem dX11_hears_5 : decode cX11_hears 5 = .ok (.iaload, 1) := by decide +kernel
theorem dX11_hears_6 : decode cX11_hears 6 = .ok (.iconst 2, 1) := by decide +kernel
theorem dX11_hears_7 : decode cX11_hears 7 = .ok (.if_icmp .eq 29, 3) := by decide +kernel
theorem dX11_hears_10 : decode cX11_hears 10 = .ok (.aload_n 0, 1) := by decide +kernel
theorem dX11_hears_11 : decode cX11_hears 11 = .ok (.iload_n 1, 1) := by decide +kernel
theorem dX11_hears_12 : decode cX11_hears 12 = .ok (.iconst 1, 1) := by decide +kernel
theorem dX11_hears_13 : decode cX11_hears 13 = .ok (.isub, 1) := by decide +kernel
theorem dX11_hears_14 : decode cX11_hears 14 = .ok (.iload_n 1, 1) := by decide +kernel
theorem dX11_hears_15 : decode cX11_hears 15 = .ok (.invokevirtual 120, 3) := by decide +kernel
theorem dX11_hears_18 : decode cX11_hears 18 = .ok (.ifCond .ne 14, 3) := by decide +kernel
theorem dX11_hears_21 : decode cX11_hears 21 = .ok (.aload_n 0, 1) := by decide +kernel
theorem dX11_hears_22 : decode cX11_hears 22 = .ok (.iload_n 1, 1) := by decide +kernel
theorem dX11_hears_23 : decode cX11_hears 23 = .ok (.iconst 1, 1) := by decide +kernel
theorem dX11_hears_24 : decode cX11_hears 24 = .ok (.iadd, 1) := by decide +kernel
theorem dX11_hears_25 : decode cX11_hears 25 = .ok (.iload_n 1, 1) := by decide +kernel
theorem dX11_hears_26 : decode cX11_hears 26 = .ok (.invokevirtual 120, 3) := by decide +kernel
theorem dX11_hears_29 : decode cX11_hears 29 = .ok (.ifCond .eq 7, 3) := by decide +kernel
theorem dX11_hears_32 : decode cX11_hears 32 = .ok (.iconst 1, 1) := by decide +kernel
theorem dX11_hears_33 : decode cX11_hears 33 = .ok (.goto 4, 3) := by decide +kernel
theorem dX11_hears_36 : decode cX11_hears 36 = .ok (.iconst 0, 1) := by decide +kernel
theorem dX11_hears_37 : decode cX11_hears 37 = .ok (.ireturn, 1) := by decide +kernel
set_option maxRecDepth 20000 in
theorem ggX11_sourNow_X11_go : GoodIn wsX11_sourNow wsX11_go := goodIn_r _ [6, 1, 7, 8, 9, 10, 11, 5, 12, 13, 14, 15, 16, 17, 18, 19, 20, 21, 22, 28, 29, 30, 31, 32, 33, 34, 35, 36, 37, 38, 39, 40, 41, 42, 43, 44, 45, 46, 47, 48, 49, 50, 51, 52, 53, 54, 55, 56, 57, 58, 59, 60, 61, 62, 63] (by decide +kernel) (by decide +kernel)
set_option maxRecDepth 20000 in
theorem gX11_sourNow_X11_go : GoodIn wsX11_sourNow (wsV RX11 123 RX11 yX11_go wsX11_go) := goodIn_app (goodIn_of _ (by decide +kernel)) ggX11_sourNow_X11_go
set_option maxRecDepth 20000 in
theorem ggX11_sourNow_X11_isSour : GoodIn wsX11_sourNow wsX11_isSour := goodIn_r _ [26, 8, 22, 27, 28, 29, 30, 31, 32, 33, 34, 35, 36, 37, 38, 39, 40, 41, 42, 43, 44, 45, 46, 47, 48, 49, 50, 51, 52, 53, 54, 55, 56, 57, 58, 59, 60, 61, 62, 63] (by decide +kernel) (by decide +kernel)
set_option maxRecDepth 20000 in
theorem gX11_sourNow_X11_isSour : GoodIn wsX11_sourNow (wsV RX11 126 RX11 yX11_isSour wsX11_isSour) := goodIn_app (goodIn_of _ (by decide +kernel)) ggX11_sourNow_X11_isSour
theorem dX11_sourNow_0 : decode cX11_sourNow 0 = .ok (.aload_n 0, 1) := by decide +kernel
theorem dX11_sourNow_1 : decode cX11_sourNow 1 = .ok (.invokevirtual 123, 3) := by decide +kernel
theorem dX11_sourNow_4 : decode cX11_sourNow 4 = .ok (.iconst 0, 1) := by decide +kernel
theorem dX11_sourNow_5 : decode cX11_sourNow 5 = .ok (.istore_n 1, 1) := by decide +kernel
theorem dX11_sourNow_6 : decode cX11_sourNow 6 = .ok (.iconst 0, 1) := by decide +kernel
theorem dX11_sourNow_7 : decode cX11_sourNow 7 = .ok (.istore_n 2, 1) := by decide +kernel
theorem dX11_sourNow_8 : decode cX11_sourNow 8 = .ok (.iload_n 2, 1) := by decide +kernel
theorem dX11_sourNow_9 : decode cX11_sourNow 9 = .ok (.aload_n 0, 1) := by decide +kernel
theorem dX11_sourNow_10 : decode cX11_sourNow 10 = .ok (.getfield 82, 3) := by decide +kernel
theorem dX11_sourNow_13 : decode cX11_sourNow 13 = .ok (.if_icmp .ge 25, 3) := by decide +kernel
theorem dX11_sourNow_16 : decode cX11_sourNow 16 = .ok (.iload_n 1, 1) := by decide +kernel
theorem dX11_sourNow_17 : decode cX11_sourNow 17 = .ok (.aload_n 0, 1) := by decide +kernel
theorem dX11_sourNow_18 : decode cX11_sourNow 18 = .ok (.iload_n 2, 1) := by decide +kernel
theorem dX11_sourNow_19 : decode cX11_sourNow 19 = .ok (.invokevirtual 126, 3) := by decide +kernel
theorem dX11_sourNow_22 : decode cX11_sourNow 22 = .ok (.ifCond .eq 7, 3) := by decide +kernel
theorem dX11_sourNow_25 : decode cX11_sourNow 25 = .ok (.iconst 1, 1) := by decide +kernel
theorem dX11_sourNow_26 : decode cX11_sourNow 26 = .ok (.goto 4, 3) := by decide +kernel
theorem dX11_sourNow_29 : decode cX11_sourNow 29 = .ok (.iconst 0, 1) := by decide +kernel
theorem dX11_sourNow_30 : decode cX11_sourNow 30 = .ok (.iadd, 1) := by decide +kernel
theorem dX11_sourNow_31 : decode cX11_sourNow 31 = .ok (.istore_n 1, 1) := by decide +kernel
theorem dX11_sourNow_32 : decode cX11_sourNow 32 = .ok (.iinc 2 1, 3) := by decide +kernel
theorem dX11_sourNow_35 : decode cX11_sourNow 35 = .ok (.goto (-27), 3) := by decide +kernel
theorem dX11_sourNow_38 : decode cX11_sourNow 38 = .ok (.iload_n 1, 1) := by decide +kernel
theorem dX11_sourNow_39 : decode cX11_sourNow 39 = .ok (.ireturn, 1) := by decide +kernel
set_option maxRecDepth 20000 in
theorem ggX11_hearNow_X11_go : GoodIn wsX11_hearNow wsX11_go := goodIn_r _ [6, 1, 7, 8, 9, 10, 11, 5, 12, 13, 14, 15, 16, 17, 18, 19, 20, 21, 22, 38, 39, 40, 41, 42, 43, 44, 45, 46, 47, 48, 49, 50, 51, 52, 53, 54, 55, 56, 57, 58, 59, 60, 61, 62, 63, 64, 65, 66, 67, 68, 69, 70, 71, 72, 73] (by decide +kernel) (by decide +kernel)
set_option maxRecDepth 20000 in
theorem gX11_hearNow_X11_go : GoodIn wsX11_hearNow (wsV RX11 123 RX11 yX11_go wsX11_go) := goodIn_app (goodIn_of _ (by decide +kernel)) ggX11_hearNow_X11_go
set_option maxRecDepth 20000 in
theorem ggX11_hearNow_X11_hears : GoodIn wsX11_hearNow wsX11_hears := goodIn_r _ [26, 22, 27, 28, 29, 5, 30, 8, 31, 32, 33, 34, 1, 35, 36, 37, 38, 39, 40, 41, 42, 43, 44, 45, 46, 47, 48, 49, 50, 51, 52, 53, 54, 55, 56, 57, 58, 59, 60, 61, 62, 63, 64, 65, 66, 67, 68, 69, 70, 71, 72, 73] (by decide +kernel) (by decide +kernel)
set_option maxRecDepth 20000 in
theorem gX11_hearNow_X11_hears : GoodIn wsX11_hearNow (wsV RX11 129 RX11 yX11_hears wsX11_hears) := goodIn_app (goodIn_of _ (by decide +kernel)) ggX11_hearNow_X11_hears
theorem dX11_hearNow_0 : decode cX11_hearNow 0 = .ok (.aload_n 0, 1) := by decide +kernel
theorem dX11_hearNow_1 : decode cX11_hearNow 1 = .ok (.invokevirtual 123, 3) := by decide +kernel
theorem dX11_hearNow_4 : decode cX11_hearNow 4 = .ok (.iconst 0, 1) := by decide +kernel
theorem dX11_hearNow_5 : decode cX11_hearNow 5 = .ok (.istore_n 1, 1) := by decide +kernel
theorem dX11_hearNow_6 : decode cX11_hearNow 6 = .ok (.iconst 0, 1) := by decide +kernel
theorem dX11_hearNow_7 : decode cX11_hearNow 7 = .ok (.istore_n 2, 1) := by decide +kernel
theorem dX11_hearNow_8 : decode cX11_hearNow 8 = .ok (.iload_n 2, 1) := by decide +kernel
theorem dX11_hearNow_9 : decode cX11_hearNow 9 = .ok (.aload_n 0, 1) := by decide +kernel
theorem dX11_hearNow_10 : decode cX11_hearNow 10 = .ok (.getfield 82, 3) := by decide +kernel
theorem dX11_hearNow_13 : decode cX11_hearNow 13 = .ok (.if_icmp .ge 25, 3) := by decide +kernel
theorem dX11_hearNow_16 : decode cX11_hearNow 16 = .ok (.iload_n 1, 1) := by decide +kernel
theorem dX11_hearNow_17 : decode cX11_hearNow 17 = .ok (.aload_n 0, 1) := by decide +kernel
theorem dX11_hearNow_18 : decode cX11_hearNow 18 = .ok (.iload_n 2, 1) := by decide +kernel
theorem dX11_hearNow_19 : decode cX11_hearNow 19 = .ok (.invokevirtual 129, 3) := by decide +kernel
theorem dX11_hearNow_22 : decode cX11_hearNow 22 = .ok (.ifCond .eq 7, 3) := by decide +kernel
theorem dX11_hearNow_25 : decode cX11_hearNow 25 = .ok (.iconst 1, 1) := by decide +kernel
theorem dX11_hearNow_26 : decode cX11_hearNow 26 = .ok (.goto 4, 3) := by decide +kernel
theorem dX11_hearNow_29 : decode cX11_hearNow 29 = .ok (.iconst 0, 1) := by decide +kernel
theorem dX11_hearNow_30 : decode cX11_hearNow 30 = .ok (.iadd, 1) := by decide +kernel
theorem dX11_hearNow_31 : decode cX11_hearNow 31 = .ok (.istore_n 1, 1) := by decide +kernel
theorem dX11_hearNow_32 : decode cX11_hearNow 32 = .ok (.iinc 2 1, 3) := by decide +kernel
theorem dX11_hearNow_35 : decode cX11_hearNow 35 = .ok (.goto (-27), 3) := by decide +kernel
theorem dX11_hearNow_38 : decode cX11_hearNow 38 = .ok (.iload_n 1, 1) := by decide +kernel
theorem dX11_hearNow_39 : decode cX11_hearNow 39 = .ok (.ireturn, 1) := by decide +kernel
set_option maxRecDepth 20000 in
theorem ggX11_wrongNow_X11_sourNow : GoodIn wsX11_wrongNow wsX11_sourNow := goodIn_r _ [5, 6, 7, 8, 9, 4, 10, 11, 12, 13, 14, 15, 16, 17, 18, 19, 20, 21, 22, 23, 24, 25, 26, 27, 28, 29, 30, 31, 51, 52, 53, 54, 55, 56, 57, 58, 59, 60, 61, 62, 63, 64, 65, 66, 67, 68, 69, 70, 71, 72, 73, 74, 75, 76, 77, 78, 79, 80, 81, 82, 83, 84, 85, 86] (by decide +kernel) (by decide +kernel)
set_option maxRecDepth 20000 in
theorem gX11_wrongNow_X11_sourNow : GoodIn wsX11_wrongNow (wsV RX11 132 RX11 yX11_sourNow wsX11_sourNow) := goodIn_app (goodIn_of _ (by decide +kernel)) ggX11_wrongNow_X11_sourNow
set_option maxRecDepth 20000 in
theorem ggX11_wrongNow_X11_hearNow : GoodIn wsX11_wrongNow wsX11_hearNow := goodIn_r _ [35, 6, 7, 8, 9, 4, 10, 11, 12, 13, 14, 15, 16, 17, 18, 19, 20, 21, 22, 23, 24, 25, 26, 36, 37, 38, 39, 40, 41, 42, 43, 44, 45, 46, 47, 48, 49, 50, 51, 52, 53, 54, 55, 56, 57, 58, 59, 60, 61, 62, 63, 64, 65, 66, 67, 68, 69, 70, 71, 72, 73, 74, 75, 76, 77, 78, 79, 80, 81, 82, 83, 84, 85, 86] (by decide +kernel) (by decide +kernel)
set_option maxRecDepth 20000 in
theorem gX11_wrongNow_X11_hearNow : GoodIn wsX11_wrongNow (wsV RX11 135 RX11 yX11_hearNow wsX11_hearNow) := goodIn_app (goodIn_of _ (by decide +kernel)) ggX11_wrongNow_X11_hearNow
theorem dX11_wrongNow_0 : decode cX11_wrongNow 0 = .ok (.aload_n 0, 1) := by decide +kernel
theorem dX11_wrongNow_1 : decode cX11_wrongNow 1 = .ok (.invokevirtual 132, 3) := by decide +kernel
theorem dX11_wrongNow_4 : decode cX11_wrongNow 4 = .ok (.aload_n 0, 1) := by decide +kernel
theorem dX11_wrongNow_5 : decode cX11_wrongNow 5 = .ok (.invokevirtual 135, 3) := by decide +kernel
theorem dX11_wrongNow_8 : decode cX11_wrongNow 8 = .ok (.iadd, 1) := by decide +kernel
theorem dX11_wrongNow_9 : decode cX11_wrongNow 9 = .ok (.ireturn, 1) := by decide +kernel
theorem dX11_placeOf_0 : decode cX11_placeOf 0 = .ok (.iconst (-1), 1) := by decide +kernel
theorem dX11_placeOf_1 : decode cX11_placeOf 1 = .ok (.istore_n 2, 1) := by decide +kernel
theorem dX11_placeOf_2 : decode cX11_placeOf 2 = .ok (.iconst 0, 1) := by decide +kernel
theorem dX11_placeOf_3 : decode cX11_placeOf 3 = .ok (.istore_n 3, 1) := by decide +kernel
theorem dX11_placeOf_4 : decode cX11_placeOf 4 = .ok (.iload_n 3, 1) := by decide +kernel
theorem dX11_placeOf_5 : decode cX11_placeOf 5 = .ok (.aload_n 0, 1) := by decide +kernel
theorem dX11_placeOf_6 : decode cX11_placeOf 6 = .ok (.getfield 82, 3) := by decide +kernel
theorem dX11_placeOf_9 : decode cX11_placeOf 9 = .ok (.if_icmp .ge 25, 3) := by decide +kernel
theorem dX11_placeOf_12 : decode cX11_placeOf 12 = .ok (.aload_n 0, 1) := by decide +kernel
theorem dX11_placeOf_13 : decode cX11_placeOf 13 = .ok (.getfield 16, 3) := by decide +kernel
theorem dX11_placeOf_16 : decode cX11_placeOf 16 = .ok (.iload_n 3, 1) := by decide +kernel
theorem dX11_placeOf_17 : decode cX11_placeOf 17 = .ok (.iaload, 1) := by decide +kernel
theorem dX11_placeOf_18 : decode cX11_placeOf 18 = .ok (.iload_n 1, 1) := by decide +kernel
theorem dX11_placeOf_19 : decode cX11_placeOf 19 = .ok (.if_icmp .ne 7, 3) := by decide +kernel
theorem dX11_placeOf_22 : decode cX11_placeOf 22 = .ok (.iload_n 3, 1) := by decide +kernel
theorem dX11_placeOf_23 : decode cX11_placeOf 23 = .ok (.goto 4, 3) := by decide +kernel
theorem dX11_placeOf_26 : decode cX11_placeOf 26 = .ok (.iload_n 2, 1) := by decide +kernel
theorem dX11_placeOf_27 : decode cX11_placeOf 27 = .ok (.istore_n 2, 1) := by decide +kernel
theorem dX11_placeOf_28 : decode cX11_placeOf 28 = .ok (.iinc 3 1, 3) := by decide +kernel
theorem dX11_placeOf_31 : decode cX11_placeOf 31 = .ok (.goto (-27), 3) := by decide +kernel
theorem dX11_placeOf_34 : decode cX11_placeOf 34 = .ok (.iload_n 2, 1) := by decide +kernel
theorem dX11_placeOf_35 : decode cX11_placeOf 35 = .ok (.ireturn, 1) := by decide +kernel
set_option maxRecDepth 20000 in
theorem ggX11_mostOf_X11_wrongNow : GoodIn wsX11_mostOf wsX11_wrongNow := goodIn_r _ [6, 7, 8, 9, 5, 10, 11, 12, 13, 14, 15, 16, 17, 18, 19, 20, 21, 22, 23, 24, 25, 26, 27, 28, 29, 1, 30, 31, 32, 33, 34, 35, 36, 37, 38, 39, 40, 41, 42, 43, 44, 45, 46, 47, 48, 49, 50, 51, 52, 53, 54, 55, 56, 57, 58, 59, 60, 61, 62, 63, 64, 65, 66, 67, 68, 69, 70, 71, 72, 73, 74, 75, 76, 77, 78, 79, 80, 81, 82, 83, 84, 85, 86, 87, 88, 89, 90] (by decide +kernel) (by decide +kernel)
set_option maxRecDepth 20000 in
theorem gX11_mostOf_X11_wrongNow : GoodIn wsX11_mostOf (wsV RX11 138 RX11 yX11_wrongNow wsX11_wrongNow) := goodIn_app (goodIn_of _ (by decide +kernel)) ggX11_mostOf_X11_wrongNow
theorem dX11_mostOf_0 : decode cX11_mostOf 0 = .ok (.aload_n 0, 1) := by decide +kernel
theorem dX11_mostOf_1 : decode cX11_mostOf 1 = .ok (.getfield 13, 3) := by decide +kernel
theorem dX11_mostOf_4 : decode cX11_mostOf 4 = .ok (.iload_n 1, 1) := by decide +kernel
theorem dX11_mostOf_5 : decode cX11_mostOf 5 = .ok (.iaload, 1) := by decide +kernel
theorem dX11_mostOf_6 : decode cX11_mostOf 6 = .ok (.istore_n 2, 1) := by decide +kernel
theorem dX11_mostOf_7 : decode cX11_mostOf 7 = .ok (.aload_n 0, 1) := by decide +kernel
theorem dX11_mostOf_8 : decode cX11_mostOf 8 = .ok (.getfield 13, 3) := by decide +kernel
theorem dX11_mostOf_11 : decode cX11_mostOf 11 = .ok (.iload_n 1, 1) := by decide +kernel
theorem dX11_mostOf_12 : decode cX11_mostOf 12 = .ok (.iconst 0, 1) := by decide +kernel
theorem dX11_mostOf_13 : decode cX11_mostOf 13 = .ok (.iastore, 1) := by decide +kernel
theorem dX11_mostOf_14 : decode cX11_mostOf 14 = .ok (.aload_n 0, 1) := by decide +kernel
theorem dX11_mostOf_15 : decode cX11_mostOf 15 = .ok (.invokevirtual 138, 3) := by decide +kernel
theorem dX11_mostOf_18 : decode cX11_mostOf 18 = .ok (.istore_n 3, 1) := by decide +kernel
theorem dX11_mostOf_19 : decode cX11_mostOf 19 = .ok (.iconst 0, 1) := by decide +kernel
theorem dX11_mostOf_20 : decode cX11_mostOf 20 = .ok (.istore 4, 2) := by decide +kernel
theorem dX11_mostOf_22 : decode cX11_mostOf 22 = .ok (.iconst 1, 1) := by decide +kernel
theorem dX11_mostOf_23 : decode cX11_mostOf 23 = .ok (.istore 5, 2) := by decide +kernel
theorem dX11_mostOf_25 : decode cX11_mostOf 25 = .ok (.iload 5, 2) := by decide +kernel
theorem dX11_mostOf_27 : decode cX11_mostOf 27 = .ok (.bipush 9, 2) := by decide +kernel
theorem dX11_mostOf_29 : decode cX11_mostOf 29 = .ok (.if_icmp .gt 34, 3) := by decide +kernel
theorem dX11_mostOf_32 : decode cX11_mostOf 32 = .ok (.aload_n 0, 1) := by decide +kernel
theorem dX11_mostOf_33 : decode cX11_mostOf 33 = .ok (.getfield 13, 3) := by decide +kernel
theorem dX11_mostOf_36 : decode cX11_mostOf 36 = .ok (.iload_n 1, 1) := by decide +kernel
theorem dX11_mostOf_37 : decode cX11_mostOf 37 = .ok (.iload 5, 2) := by decide +kernel
theorem dX11_mostOf_39 : decode cX11_mostOf 39 = .ok (.iastore, 1) := by decide +kernel
theorem dX11_mostOf_40 : decode cX11_mostOf 40 = .ok (.aload_n 0, 1) := by decide +kernel
theorem dX11_mostOf_41 : decode cX11_mostOf 41 = .ok (.invokevirtual 138, 3) := by decide +kernel
theorem dX11_mostOf_44 : decode cX11_mostOf 44 = .ok (.iload_n 3, 1) := by decide +kernel
theorem dX11_mostOf_45 : decode cX11_mostOf 45 = .ok (.if_icmp .gt 8, 3) := by decide +kernel
theorem dX11_mostOf_48 : decode cX11_mostOf 48 = .ok (.iload 5, 2) := by decide +kernel
theorem dX11_mostOf_50 : decode cX11_mostOf 50 = .ok (.goto 5, 3) := by decide +kernel
theorem dX11_mostOf_53 : decode cX11_mostOf 53 = .ok (.iload 4, 2) := by decide +kernel
theorem dX11_mostOf_55 : decode cX11_mostOf 55 = .ok (.istore 4, 2) := by decide +kernel
theorem dX11_mostOf_57 : decode cX11_mostOf 57 = .ok (.iinc 5 1, 3) := by decide +kernel
theorem dX11_mostOf_60 : decode cX11_mostOf 60 = .ok (.goto (-35), 3) := by decide +kernel
theorem dX11_mostOf_63 : decode cX11_mostOf 63 = .ok (.aload_n 0, 1) := by decide +kernel
theorem dX11_mostOf_64 : decode cX11_mostOf 64 = .ok (.getfield 13, 3) := by decide +kernel
theorem dX11_mostOf_67 : decode cX11_mostOf 67 = .ok (.iload_n 1, 1) := by decide +kernel
theorem dX11_mostOf_68 : decode cX11_mostOf 68 = .ok (.iload_n 2, 1) := by decide +kernel
theorem dX11_mostOf_69 : decode cX11_mostOf 69 = .ok (.iastore, 1) := by decide +kernel
theorem dX11_mostOf_70 : decode cX11_mostOf 70 = .ok (.iload 4, 2) := by decide +kernel
theorem dX11_mostOf_72 : decode cX11_mostOf 72 = .ok (.ireturn, 1) := by decide +kernel
set_option maxRecDepth 20000 in
theorem ggX11_houseNow_X11_go : GoodIn wsX11_houseNow wsX11_go := goodIn_r _ [9, 10, 11, 4, 12, 13, 14, 8, 15, 3, 16, 17, 18, 19, 20, 21, 22, 2, 1, 63, 64, 65, 66, 67, 68, 69, 70, 71, 72, 73, 74, 75, 76, 77, 78, 79, 80, 81, 82, 83, 84, 85, 86, 87, 88, 89, 90, 91, 92, 93, 94, 95, 96, 97, 98] (by decide +kernel) (by decide +kernel)
set_option maxRecDepth 20000 in
theorem gX11_houseNow_X11_go : GoodIn wsX11_houseNow (wsV RX11 123 RX11 yX11_go wsX11_go) := goodIn_app (goodIn_of _ (by decide +kernel)) ggX11_houseNow_X11_go
set_option maxRecDepth 20000 in
theorem ggX11_houseNow_X11_reads : GoodIn wsX11_houseNow wsX11_reads := goodIn_r _ [15, 3, 16, 17, 8, 18, 19, 20, 21, 22, 2, 1, 63, 64, 65, 66, 67, 68, 69, 70, 71, 72, 73, 74, 75, 76, 77, 78, 79, 80, 81, 82, 83, 84, 85, 86, 87, 88, 89, 90, 91, 92, 93, 94, 95, 96, 97, 98] (by decide +kernel) (by decide +kernel)
set_option maxRecDepth 20000 in
theorem gX11_houseNow_X11_reads : GoodIn wsX11_houseNow (wsV RX11 113 RX11 yX11_reads wsX11_reads) := goodIn_app (goodIn_of _ (by decide +kernel)) ggX11_houseNow_X11_reads
set_option maxRecDepth 20000 in
theorem ggX11_houseNow_X11_placeOf : GoodIn wsX11_houseNow wsX11_placeOf := goodIn_r _ [26, 10, 11, 63, 64, 65, 66, 67, 68, 69, 70, 71, 72, 73, 74, 75, 76, 77, 78, 79, 80, 81, 82, 83, 84, 85, 86, 87, 88, 89, 90, 91, 92, 93, 94, 95, 96, 97, 98] (by decide +kernel) (by decide +kernel)
set_option maxRecDepth 20000 in
theorem gX11_houseNow_X11_placeOf : GoodIn wsX11_houseNow (wsV RX11 141 RX11 yX11_placeOf wsX11_placeOf) := goodIn_app (goodIn_of _ (by decide +kernel)) ggX11_houseNow_X11_placeOf
set_option maxRecDepth 20000 in
theorem ggX11_houseNow_X11_isSour : GoodIn wsX11_houseNow wsX11_isSour := goodIn_r _ [30, 4, 1, 31, 63, 64, 65, 66, 67, 68, 69, 70, 71, 72, 73, 74, 75, 76, 77, 78, 79, 80, 81, 82, 83, 84, 85, 86, 87, 88, 89, 90, 91, 92, 93, 94, 95, 96, 97, 98] (by decide +kernel) (by decide +kernel)
set_option maxRecDepth 20000 in
theorem gX11_houseNow_X11_isSour : GoodIn wsX11_houseNow (wsV RX11 126 RX11 yX11_isSour wsX11_isSour) := goodIn_app (goodIn_of _ (by decide +kernel)) ggX11_houseNow_X11_isSour
set_option maxRecDepth 20000 in
theorem ggX11_houseNow_X11_hears : GoodIn wsX11_houseNow wsX11_hears := goodIn_r _ [35, 1, 36, 37, 38, 8, 39, 4, 40, 41, 42, 43, 10, 44, 45, 46, 63, 64, 65, 66, 67, 68, 69, 70, 71, 72, 73, 74, 75, 76, 77, 78, 79, 80, 81, 82, 83, 84, 85, 86, 87, 88, 89, 90, 91, 92, 93, 94, 95, 96, 97, 98] (by decide +kernel) (by decide +kernel)
set_option maxRecDepth 20000 in
theorem gX11_houseNow_X11_hears : GoodIn wsX11_houseNow (wsV RX11 129 RX11 yX11_hears wsX11_hears) := goodIn_app (goodIn_of _ (by decide +kernel)) ggX11_houseNow_X11_hears
set_option maxRecDepth 20000 in
theorem ggX11_houseNow_X11_mostOf : GoodIn wsX11_houseNow wsX11_mostOf := goodIn_r _ [50, 2, 51, 52, 53, 8, 54, 55, 56, 57, 58, 10, 5, 6, 7, 9, 11, 4, 12, 13, 14, 15, 3, 16, 17, 18, 19, 20, 21, 22, 1, 27, 28, 29, 30, 31, 59, 60, 61, 62, 32, 33, 34, 35, 36, 37, 38, 39, 40, 41, 42, 43, 44, 45, 46, 63, 64, 65, 66, 67, 68, 69, 70, 71, 72, 73, 74, 75, 76, 77, 78, 79, 80, 81, 82, 83, 84, 85, 86, 87, 88, 89, 90, 91, 92, 93, 94, 95, 96, 97, 98] (by decide +kernel) (by decide +kernel)
set_option maxRecDepth 20000 in
theorem gX11_houseNow_X11_mostOf : GoodIn wsX11_houseNow (wsV RX11 144 RX11 yX11_mostOf wsX11_mostOf) := goodIn_app (goodIn_of _ (by decide +kernel)) ggX11_houseNow_X11_mostOf
theorem dX11_houseNow_0 : decode cX11_houseNow 0 = .ok (.aload_n 0, 1) := by decide +kernel
theorem dX11_houseNow_1 : decode cX11_houseNow 1 = .ok (.invokevirtual 123, 3) := by decide +kernel
theorem dX11_houseNow_4 : decode cX11_houseNow 4 = .ok (.iload_n 2, 1) := by decide +kernel
theorem dX11_houseNow_5 : decode cX11_houseNow 5 = .ok (.tableswitch 117 0 7 #[47, 54, 61, 70, 76, 82, 89, 103], 47) := by decide +kernel
theorem dX11_houseNow_52 : decode cX11_houseNow 52 = .ok (.aload_n 0, 1) := by decide +kernel
theorem dX11_houseNow_53 : decode cX11_houseNow 53 = .ok (.getfield 7, 3) := by decide +kernel
theorem dX11_houseNow_56 : decode cX11_houseNow 56 = .ok (.iload_n 1, 1) := by decide +kernel
theorem dX11_houseNow_57 : decode cX11_houseNow 57 = .ok (.iaload, 1) := by decide +kernel
theorem dX11_houseNow_58 : decode cX11_houseNow 58 = .ok (.ireturn, 1) := by decide +kernel
theorem dX11_houseNow_59 : decode cX11_houseNow 59 = .ok (.aload_n 0, 1) := by decide +kernel
theorem dX11_houseNow_60 : decode cX11_houseNow 60 = .ok (.getfield 13, 3) := by decide +kernel
theorem dX11_houseNow_63 : decode cX11_houseNow 63 = .ok (.iload_n 1, 1) := by decide +kernel
theorem dX11_houseNow_64 : decode cX11_houseNow 64 = .ok (.iaload, 1) := by decide +kernel
theorem dX11_houseNow_65 : decode cX11_houseNow 65 = .ok (.ireturn, 1) := by decide +kernel
theorem dX11_houseNow_66 : decode cX11_houseNow 66 = .ok (.aload_n 0, 1) := by decide +kernel
theorem dX11_houseNow_67 : decode cX11_houseNow 67 = .ok (.getfield 91, 3) := by decide +kernel
theorem dX11_houseNow_70 : decode cX11_houseNow 70 = .ok (.iload_n 1, 1) := by decide +kernel
theorem dX11_houseNow_71 : decode cX11_houseNow 71 = .ok (.ishr, 1) := by decide +kernel
theorem dX11_houseNow_72 : decode cX11_houseNow 72 = .ok (.iconst 1, 1) := by decide +kernel
theorem dX11_houseNow_73 : decode cX11_houseNow 73 = .ok (.iand, 1) := by decide +kernel
theorem dX11_houseNow_74 : decode cX11_houseNow 74 = .ok (.ireturn, 1) := by decide +kernel
theorem dX11_houseNow_75 : decode cX11_houseNow 75 = .ok (.aload_n 0, 1) := by decide +kernel
theorem dX11_houseNow_76 : decode cX11_houseNow 76 = .ok (.iload_n 1, 1) := by decide +kernel
theorem dX11_houseNow_77 : decode cX11_houseNow 77 = .ok (.invokevirtual 113, 3) := by decide +kernel
theorem dX11_houseNow_80 : decode cX11_houseNow 80 = .ok (.ireturn, 1) := by decide +kernel
theorem dX11_houseNow_81 : decode cX11_houseNow 81 = .ok (.aload_n 0, 1) := by decide +kernel
theorem dX11_houseNow_82 : decode cX11_houseNow 82 = .ok (.iload_n 1, 1) := by decide +kernel
theorem dX11_houseNow_83 : decode cX11_houseNow 83 = .ok (.invokevirtual 141, 3) := by decide +kernel
theorem dX11_houseNow_86 : decode cX11_houseNow 86 = .ok (.ireturn, 1) := by decide +kernel
theorem dX11_houseNow_87 : decode cX11_houseNow 87 = .ok (.aload_n 0, 1) := by decide +kernel
theorem dX11_houseNow_88 : decode cX11_houseNow 88 = .ok (.getfield 29, 3) := by decide +kernel
theorem dX11_houseNow_91 : decode cX11_houseNow 91 = .ok (.iload_n 1, 1) := by decide +kernel
theorem dX11_houseNow_92 : decode cX11_houseNow 92 = .ok (.iaload, 1) := by decide +kernel
theorem dX11_houseNow_93 : decode cX11_houseNow 93 = .ok (.ireturn, 1) := by decide +kernel
theorem dX11_houseNow_94 : decode cX11_houseNow 94 = .ok (.aload_n 0, 1) := by decide +kernel
theorem dX11_houseNow_95 : decode cX11_houseNow 95 = .ok (.iload_n 1, 1) := by decide +kernel
theorem dX11_houseNow_96 : decode cX11_houseNow 96 = .ok (.invokevirtual 126, 3) := by decide +kernel
theorem dX11_houseNow_99 : decode cX11_houseNow 99 = .ok (.ifCond .eq 7, 3) := by decide +kernel
theorem dX11_houseNow_102 : decode cX11_houseNow 102 = .ok (.iconst 1, 1) := by decide +kernel
theorem dX11_houseNow_103 : decode cX11_houseNow 103 = .ok (.goto 4, 3) := by decide +kernel
theorem dX11_houseNow_106 : decode cX11_houseNow 106 = .ok (.iconst 0, 1) := by decide +kernel
theorem dX11_houseNow_107 : decode cX11_houseNow 107 = .ok (.ireturn, 1) := by decide +kernel
theorem dX11_houseNow_108 : decode cX11_houseNow 108 = .ok (.aload_n 0, 1) := by decide +kernel
theorem dX11_houseNow_109 : decode cX11_houseNow 109 = .ok (.iload_n 1, 1) := by decide +kernel
theorem dX11_houseNow_110 : decode cX11_houseNow 110 = .ok (.invokevirtual 129, 3) := by decide +kernel
theorem dX11_houseNow_113 : decode cX11_houseNow 113 = .ok (.ifCond .eq 7, 3) := by decide +kernel
theorem dX11_houseNow_116 : decode cX11_houseNow 116 = .ok (.iconst 1, 1) := by decide +kernel
theorem dX11_houseNow_117 : decode cX11_houseNow 117 = .ok (.goto 4, 3) := by decide +kernel
theorem dX11_houseNow_120 : decode cX11_houseNow 120 = .ok (.iconst 0, 1) := by decide +kernel
theorem dX11_houseNow_121 : decode cX11_houseNow 121 = .ok (.ireturn, 1) := by decide +kernel
theorem dX11_houseNow_122 : decode cX11_houseNow 122 = .ok (.aload_n 0, 1) := by decide +kernel
theorem dX11_houseNow_123 : decode cX11_houseNow 123 = .ok (.iload_n 1, 1) := by decide +kernel
theorem dX11_houseNow_124 : decode cX11_houseNow 124 = .ok (.invokevirtual 144, 3) := by decide +kernel
theorem dX11_houseNow_127 : decode cX11_houseNow 127 = .ok (.ireturn, 1) := by decide +kernel
set_option maxRecDepth 20000 in
theorem ggX11_about_X11_isHouse : GoodIn wsX11_about wsX11_isHouse := goodIn_r _ [5, 6, 7, 8, 4, 9, 67, 68, 69, 70, 71, 72, 73, 74, 75, 76, 77, 78, 79, 80, 81, 82, 83, 84, 85, 86, 87, 88, 89, 90, 91, 92, 93, 94, 95, 96, 97, 98, 99, 100, 101, 102] (by decide +kernel) (by decide +kernel)
set_option maxRecDepth 20000 in
theorem gX11_about_X11_isHouse : GoodIn wsX11_about (wsV RX11 116 RX11 yX11_isHouse wsX11_isHouse) := goodIn_app (goodIn_of _ (by decide +kernel)) ggX11_about_X11_isHouse
set_option maxRecDepth 20000 in
theorem ggX11_about_X11_within : GoodIn wsX11_about wsX11_within := goodIn_r _ [9] (by decide +kernel) (by decide +kernel)
set_option maxRecDepth 20000 in
theorem gX11_about_X11_within : GoodIn wsX11_about (va_wsS RX11 56 yX11_within wsX11_within) := goodIn_app (goodIn_of _ (by decide +kernel)) ggX11_about_X11_within
set_option maxRecDepth 20000 in
theorem ggX11_about_X11_houseNow : GoodIn wsX11_about wsX11_houseNow := goodIn_r _ [13, 14, 15, 16, 17, 18, 19, 20, 4, 21, 6, 22, 23, 24, 25, 26, 27, 28, 29, 30, 31, 32, 33, 34, 35, 36, 37, 38, 39, 40, 41, 42, 43, 44, 45, 46, 47, 48, 49, 50, 1, 2, 3, 5, 7, 8, 9, 51, 52, 53, 54, 55, 56, 57, 58, 59, 60, 61, 62, 63, 64, 65, 66, 67, 68, 69, 70, 71, 72, 73, 74, 75, 76, 77, 78, 79, 80, 81, 82, 83, 84, 85, 86, 87, 88, 89, 90, 91, 92, 93, 94, 95, 96, 97, 98, 99, 100, 101, 102] (by decide +kernel) (by decide +kernel)
set_option maxRecDepth 20000 in
theorem gX11_about_X11_houseNow : GoodIn wsX11_about (wsV RX11 147 RX11 yX11_houseNow wsX11_houseNow) := goodIn_app (goodIn_of _ (by decide +kernel)) ggX11_about_X11_houseNow
theorem dX11_about_0 : decode cX11_about 0 = .ok (.aload_n 0, 1) := by decide +kernel
theorem dX11_about_1 : decode cX11_about 1 = .ok (.iload_n 1, 1) := by decide +kernel
theorem dX11_about_2 : decode cX11_about 2 = .ok (.invokevirtual 116, 3) := by decide +kernel
theorem dX11_about_5 : decode cX11_about 5 = .ok (.ifCond .ne 8, 3) := by decide +kernel
theorem dX11_about_8 : decode cX11_about 8 = .ok (.bipush (-101), 2) := by decide +kernel
theorem dX11_about_10 : decode cX11_about 10 = .ok (.goto 24, 3) := by decide +kernel
theorem dX11_about_13 : decode cX11_about 13 = .ok (.iload_n 2, 1) := by decide +kernel
theorem dX11_about_14 : decode cX11_about 14 = .ok (.iconst 0, 1) := by decide +kernel
theorem dX11_about_15 : decode cX11_about 15 = .ok (.bipush 8, 2) := by decide +kernel
theorem dX11_about_17 : decode cX11_about 17 = .ok (.invokestatic 56, 3) := by decide +kernel
theorem dX11_about_20 : decode cX11_about 20 = .ok (.ifCond .eq 12, 3) := by decide +kernel
theorem dX11_about_23 : decode cX11_about 23 = .ok (.aload_n 0, 1) := by decide +kernel
theorem dX11_about_24 : decode cX11_about 24 = .ok (.iload_n 1, 1) := by decide +kernel
theorem dX11_about_25 : decode cX11_about 25 = .ok (.iload_n 2, 1) := by decide +kernel
theorem dX11_about_26 : decode cX11_about 26 = .ok (.invokevirtual 147, 3) := by decide +kernel
theorem dX11_about_29 : decode cX11_about 29 = .ok (.goto 5, 3) := by decide +kernel
theorem dX11_about_32 : decode cX11_about 32 = .ok (.bipush (-102), 2) := by decide +kernel
theorem dX11_about_34 : decode cX11_about 34 = .ok (.ireturn, 1) := by decide +kernel
set_option maxRecDepth 20000 in
theorem ggX11_as_X11_isHouse : GoodIn wsX11_as wsX11_isHouse := goodIn_r _ [6, 7, 8, 9, 5, 10, 11, 12, 13, 14, 15, 16, 17, 18, 19, 20, 21, 22, 23, 24, 25, 26, 27, 28, 29, 30, 31, 32, 33, 34, 35, 36, 37, 38, 39, 40, 41, 42, 43, 44, 45, 46] (by decide +kernel) (by decide +kernel)
set_option maxRecDepth 20000 in
theorem gX11_as_X11_isHouse : GoodIn wsX11_as (wsV RX11 116 RX11 yX11_isHouse wsX11_isHouse) := goodIn_app (goodIn_of _ (by decide +kernel)) ggX11_as_X11_isHouse
set_option maxRecDepth 20000 in
theorem ggX11_as_X11_within : GoodIn wsX11_as wsX11_within := goodIn_r _ [10] (by decide +kernel) (by decide +kernel)
set_option maxRecDepth 20000 in
theorem gX11_as_X11_within : GoodIn wsX11_as (va_wsS RX11 56 yX11_within wsX11_within) := goodIn_app (goodIn_of _ (by decide +kernel)) ggX11_as_X11_within
theorem dX11_as_0 : decode cX11_as 0 = .ok (.aload_n 0, 1) := by decide +kernel
theorem dX11_as_1 : decode cX11_as 1 = .ok (.iload_n 1, 1) := by decide +kernel
theorem dX11_as_2 : decode cX11_as 2 = .ok (.invokevirtual 116, 3) := by decide +kernel
theorem dX11_as_5 : decode cX11_as 5 = .ok (.ifCond .ne 6, 3) := by decide +kernel
theorem dX11_as_8 : decode cX11_as 8 = .ok (.bipush (-101), 2) := by decide +kernel
theorem dX11_as_10 : decode cX11_as 10 = .ok (.ireturn, 1) := by decide +kernel
theorem dX11_as_11 : decode cX11_as 11 = .ok (.iload_n 2, 1) := by decide +kernel
theorem dX11_as_12 : decode cX11_as 12 = .ok (.iconst 0, 1) := by decide +kernel
theorem dX11_as_13 : decode cX11_as 13 = .ok (.iconst 4, 1) := by decide +kernel
theorem dX11_as_14 : decode cX11_as 14 = .ok (.invokestatic 56, 3) := by decide +kernel
theorem dX11_as_17 : decode cX11_as 17 = .ok (.ifCond .ne 6, 3) := by decide +kernel
theorem dX11_as_20 : decode cX11_as 20 = .ok (.bipush (-102), 2) := by decide +kernel
theorem dX11_as_22 : decode cX11_as 22 = .ok (.ireturn, 1) := by decide +kernel
theorem dX11_as_23 : decode cX11_as 23 = .ok (.aload_n 0, 1) := by decide +kernel
theorem dX11_as_24 : decode cX11_as 24 = .ok (.getfield 7, 3) := by decide +kernel
theorem dX11_as_27 : decode cX11_as 27 = .ok (.iload_n 1, 1) := by decide +kernel
theorem dX11_as_28 : decode cX11_as 28 = .ok (.iaload, 1) := by decide +kernel
theorem dX11_as_29 : decode cX11_as 29 = .ok (.istore_n 3, 1) := by decide +kernel
theorem dX11_as_30 : decode cX11_as 30 = .ok (.iload_n 2, 1) := by decide +kernel
theorem dX11_as_31 : decode cX11_as 31 = .ok (.ifCond .eq 18, 3) := by decide +kernel
theorem dX11_as_34 : decode cX11_as 34 = .ok (.iload_n 3, 1) := by decide +kernel
theorem dX11_as_35 : decode cX11_as 35 = .ok (.iload_n 2, 1) := by decide +kernel
theorem dX11_as_36 : decode cX11_as 36 = .ok (.if_icmp .eq 13, 3) := by decide +kernel
theorem dX11_as_39 : decode cX11_as 39 = .ok (.iload_n 2, 1) := by decide +kernel
theorem dX11_as_40 : decode cX11_as 40 = .ok (.iconst 1, 1) := by decide +kernel
theorem dX11_as_41 : decode cX11_as 41 = .ok (.if_icmp .ne 12, 3) := by decide +kernel
theorem dX11_as_44 : decode cX11_as 44 = .ok (.iload_n 3, 1) := by decide +kernel
theorem dX11_as_45 : decode cX11_as 45 = .ok (.iconst 4, 1) := by decide +kernel
theorem dX11_as_46 : decode cX11_as 46 = .ok (.if_icmp .ne 7, 3) := by decide +kernel
theorem dX11_as_49 : decode cX11_as 49 = .ok (.iload_n 1, 1) := by decide +kernel
theorem dX11_as_50 : decode cX11_as 50 = .ok (.goto 4, 3) := by decide +kernel
theorem dX11_as_53 : decode cX11_as 53 = .ok (.iconst (-1), 1) := by decide +kernel
theorem dX11_as_54 : decode cX11_as 54 = .ok (.ireturn, 1) := by decide +kernel
set_option maxRecDepth 20000 in
theorem ggX11_letters_X11_isHouse : GoodIn wsX11_letters wsX11_isHouse := goodIn_r _ [6, 7, 8, 9, 5, 10, 11, 12, 13, 14, 15, 16, 17, 18, 19, 20, 21, 22, 23, 24, 25, 26, 27, 28, 29, 30, 31, 32, 33, 34, 35, 36, 37, 38, 39, 40, 41, 42, 43, 44, 45, 46] (by decide +kernel) (by decide +kernel)
set_option maxRecDepth 20000 in
theorem gX11_letters_X11_isHouse : GoodIn wsX11_letters (wsV RX11 116 RX11 yX11_isHouse wsX11_isHouse) := goodIn_app (goodIn_of _ (by decide +kernel)) ggX11_letters_X11_isHouse
set_option maxRecDepth 20000 in
theorem ggX11_letters_X11_within : GoodIn wsX11_letters wsX11_within := goodIn_r _ [10] (by decide +kernel) (by decide +kernel)
set_option maxRecDepth 20000 in
theorem gX11_letters_X11_within : GoodIn wsX11_letters (va_wsS RX11 56 yX11_within wsX11_within) := goodIn_app (goodIn_of _ (by decide +kernel)) ggX11_letters_X11_within
theorem dX11_letters_0 : decode cX11_letters 0 = .ok (.aload_n 0, 1) := by decide +kernel
theorem dX11_letters_1 : decode cX11_letters 1 = .ok (.iload_n 1, 1) := by decide +kernel
theorem dX11_letters_2 : decode cX11_letters 2 = .ok (.invokevirtual 116, 3) := by decide +kernel
theorem dX11_letters_5 : decode cX11_letters 5 = .ok (.ifCond .ne 6, 3) := by decide +kernel
theorem dX11_letters_8 : decode cX11_letters 8 = .ok (.bipush (-101), 2) := by decide +kernel
theorem dX11_letters_10 : decode cX11_letters 10 = .ok (.ireturn, 1) := by decide +kernel
theorem dX11_letters_11 : decode cX11_letters 11 = .ok (.iload_n 2, 1) := by decide +kernel
theorem dX11_letters_12 : decode cX11_letters 12 = .ok (.iconst 0, 1) := by decide +kernel
theorem dX11_letters_13 : decode cX11_letters 13 = .ok (.bipush 9, 2) := by decide +kernel
theorem dX11_letters_15 : decode cX11_letters 15 = .ok (.invokestatic 56, 3) := by decide +kernel
theorem dX11_letters_18 : decode cX11_letters 18 = .ok (.ifCond .ne 6, 3) := by decide +kernel
theorem dX11_letters_21 : decode cX11_letters 21 = .ok (.bipush (-102), 2) := by decide +kernel
theorem dX11_letters_23 : decode cX11_letters 23 = .ok (.ireturn, 1) := by decide +kernel
theorem dX11_letters_24 : decode cX11_letters 24 = .ok (.aload_n 0, 1) := by decide +kernel
theorem dX11_letters_25 : decode cX11_letters 25 = .ok (.getfield 13, 3) := by decide +kernel
theorem dX11_letters_28 : decode cX11_letters 28 = .ok (.iload_n 1, 1) := by decide +kernel
theorem dX11_letters_29 : decode cX11_letters 29 = .ok (.iaload, 1) := by decide +kernel
theorem dX11_letters_30 : decode cX11_letters 30 = .ok (.istore_n 3, 1) := by decide +kernel
theorem dX11_letters_31 : decode cX11_letters 31 = .ok (.aload_n 0, 1) := by decide +kernel
theorem dX11_letters_32 : decode cX11_letters 32 = .ok (.getfield 13, 3) := by decide +kernel
theorem dX11_letters_35 : decode cX11_letters 35 = .ok (.iload_n 1, 1) := by decide +kernel
theorem dX11_letters_36 : decode cX11_letters 36 = .ok (.iload_n 2, 1) := by decide +kernel
theorem dX11_letters_37 : decode cX11_letters 37 = .ok (.iastore, 1) := by decide +kernel
theorem dX11_letters_38 : decode cX11_letters 38 = .ok (.iload_n 3, 1) := by decide +kernel
theorem dX11_letters_39 : decode cX11_letters 39 = .ok (.ireturn, 1) := by decide +kernel
set_option maxRecDepth 20000 in
theorem ggX11_leave_X11_isHouse : GoodIn wsX11_leave wsX11_isHouse := goodIn_r _ [6, 7, 8, 9, 5, 10, 11, 12, 13, 14, 15, 16, 17, 18, 19, 20, 21, 22, 23, 24, 25, 26, 27, 28, 29, 30, 31, 32, 33, 34, 35, 36, 37, 38, 39, 40, 41, 42, 43, 44, 45, 46] (by decide +kernel) (by decide +kernel)
set_option maxRecDepth 20000 in
theorem gX11_leave_X11_isHouse : GoodIn wsX11_leave (wsV RX11 116 RX11 yX11_isHouse wsX11_isHouse) := goodIn_app (goodIn_of _ (by decide +kernel)) ggX11_leave_X11_isHouse
theorem dX11_leave_0 : decode cX11_leave 0 = .ok (.aload_n 0, 1) := by decide +kernel
theorem dX11_leave_1 : decode cX11_leave 1 = .ok (.iload_n 1, 1) := by decide +kernel
theorem dX11_leave_2 : decode cX11_leave 2 = .ok (.invokevirtual 116, 3) := by decide +kernel
theorem dX11_leave_5 : decode cX11_leave 5 = .ok (.ifCond .ne 6, 3) := by decide +kernel
theorem dX11_leave_8 : decode cX11_leave 8 = .ok (.bipush (-101), 2) := by decide +kernel
theorem dX11_leave_10 : decode cX11_leave 10 = .ok (.ireturn, 1) := by decide +kernel
theorem dX11_leave_11 : decode cX11_leave 11 = .ok (.aload_n 0, 1) := by decide +kernel
theorem dX11_leave_12 : decode cX11_leave 12 = .ok (.getfield 91, 3) := by decide +kernel
theorem dX11_leave_15 : decode cX11_leave 15 = .ok (.iload_n 1, 1) := by decide +kernel
theorem dX11_leave_16 : decode cX11_leave 16 = .ok (.ishr, 1) := by decide +kernel
theorem dX11_leave_17 : decode cX11_leave 17 = .ok (.iconst 1, 1) := by decide +kernel
theorem dX11_leave_18 : decode cX11_leave 18 = .ok (.iand, 1) := by decide +kernel
theorem dX11_leave_19 : decode cX11_leave 19 = .ok (.istore_n 3, 1) := by decide +kernel
theorem dX11_leave_20 : decode cX11_leave 20 = .ok (.aload_n 0, 1) := by decide +kernel
theorem dX11_leave_21 : decode cX11_leave 21 = .ok (.iload_n 2, 1) := by decide +kernel
theorem dX11_leave_22 : decode cX11_leave 22 = .ok (.ifCond .eq 14, 3) := by decide +kernel
theorem dX11_leave_25 : decode cX11_leave 25 = .ok (.aload_n 0, 1) := by decide +kernel
theorem dX11_leave_26 : decode cX11_leave 26 = .ok (.getfield 91, 3) := by decide +kernel
theorem dX11_leave_29 : decode cX11_leave 29 = .ok (.iconst 1, 1) := by decide +kernel
theorem dX11_leave_30 : decode cX11_leave 30 = .ok (.iload_n 1, 1) := by decide +kernel
theorem dX11_leave_31 : decode cX11_leave 31 = .ok (.ishl, 1) := by decide +kernel
theorem dX11_leave_32 : decode cX11_leave 32 = .ok (.ior, 1) := by decide +kernel
theorem dX11_leave_33 : decode cX11_leave 33 = .ok (.goto 13, 3) := by decide +kernel
theorem dX11_leave_36 : decode cX11_leave 36 = .ok (.aload_n 0, 1) := by decide +kernel
theorem dX11_leave_37 : decode cX11_leave 37 = .ok (.getfield 91, 3) := by decide +kernel
theorem dX11_leave_40 : decode cX11_leave 40 = .ok (.iconst 1, 1) := by decide +kernel
theorem dX11_leave_41 : decode cX11_leave 41 = .ok (.iload_n 1, 1) := by decide +kernel
theorem dX11_leave_42 : decode cX11_leave 42 = .ok (.ishl, 1) := by decide +kernel
theorem dX11_leave_43 : decode cX11_leave 43 = .ok (.iconst (-1), 1) := by decide +kernel
theorem dX11_leave_44 : decode cX11_leave 44 = .ok (.ixor, 1) := by decide +kernel
theorem dX11_leave_45 : decode cX11_leave 45 = .ok (.iand, 1) := by decide +kernel
theorem dX11_leave_46 : decode cX11_leave 46 = .ok (.putfield 91, 3) := by decide +kernel
theorem dX11_leave_49 : decode cX11_leave 49 = .ok (.iload_n 3, 1) := by decide +kernel
theorem dX11_leave_50 : decode cX11_leave 50 = .ok (.ireturn, 1) := by decide +kernel
set_option maxRecDepth 20000 in
theorem ggX11_swap_X11_isHouse : GoodIn wsX11_swap wsX11_isHouse := goodIn_r _ [6, 7, 8, 9, 5, 10, 15, 16, 17, 18, 19, 20, 21, 22, 23, 24, 25, 26, 27, 28, 29, 30, 31, 32, 33, 34, 35, 36, 37, 38, 39, 40, 41, 42, 43, 44, 45, 46, 47, 48, 49, 50] (by decide +kernel) (by decide +kernel)
set_option maxRecDepth 20000 in
theorem gX11_swap_X11_isHouse : GoodIn wsX11_swap (wsV RX11 116 RX11 yX11_isHouse wsX11_isHouse) := goodIn_app (goodIn_of _ (by decide +kernel)) ggX11_swap_X11_isHouse
set_option maxRecDepth 20000 in
theorem ggX11_swap_X11_placeOf : GoodIn wsX11_swap wsX11_placeOf := goodIn_r _ [14, 7, 1, 15, 16, 17, 18, 19, 20, 21, 22, 23, 24, 25, 26, 27, 28, 29, 30, 31, 32, 33, 34, 35, 36, 37, 38, 39, 40, 41, 42, 43, 44, 45, 46, 47, 48, 49, 50] (by decide +kernel) (by decide +kernel)
set_option maxRecDepth 20000 in
theorem gX11_swap_X11_placeOf : GoodIn wsX11_swap (wsV RX11 141 RX11 yX11_placeOf wsX11_placeOf) := goodIn_app (goodIn_of _ (by decide +kernel)) ggX11_swap_X11_placeOf
theorem dX11_swap_0 : decode cX11_swap 0 = .ok (.aload_n 0, 1) := by decide +kernel
theorem dX11_swap_1 : decode cX11_swap 1 = .ok (.iload_n 1, 1) := by decide +kernel
theorem dX11_swap_2 : decode cX11_swap 2 = .ok (.invokevirtual 116, 3) := by decide +kernel
theorem dX11_swap_5 : decode cX11_swap 5 = .ok (.ifCond .eq 11, 3) := by decide +kernel
theorem dX11_swap_8 : decode cX11_swap 8 = .ok (.aload_n 0, 1) := by decide +kernel
theorem dX11_swap_9 : decode cX11_swap 9 = .ok (.iload_n 2, 1) := by decide +kernel
theorem dX11_swap_10 : decode cX11_swap 10 = .ok (.invokevirtual 116, 3) := by decide +kernel
theorem dX11_swap_13 : decode cX11_swap 13 = .ok (.ifCond .ne 6, 3) := by decide +kernel
theorem dX11_swap_16 : decode cX11_swap 16 = .ok (.bipush (-101), 2) := by decide +kernel
theorem dX11_swap_18 : decode cX11_swap 18 = .ok (.ireturn, 1) := by decide +kernel
theorem dX11_swap_19 : decode cX11_swap 19 = .ok (.aload_n 0, 1) := by decide +kernel
theorem dX11_swap_20 : decode cX11_swap 20 = .ok (.iload_n 1, 1) := by decide +kernel
theorem dX11_swap_21 : decode cX11_swap 21 = .ok (.invokevirtual 141, 3) := by decide +kernel
theorem dX11_swap_24 : decode cX11_swap 24 = .ok (.istore_n 3, 1) := by decide +kernel
theorem dX11_swap_25 : decode cX11_swap 25 = .ok (.aload_n 0, 1) := by decide +kernel
theorem dX11_swap_26 : decode cX11_swap 26 = .ok (.iload_n 2, 1) := by decide +kernel
theorem dX11_swap_27 : decode cX11_swap 27 = .ok (.invokevirtual 141, 3) := by decide +kernel
theorem dX11_swap_30 : decode cX11_swap 30 = .ok (.istore 4, 2) := by decide +kernel
theorem dX11_swap_32 : decode cX11_swap 32 = .ok (.aload_n 0, 1) := by decide +kernel
theorem dX11_swap_33 : decode cX11_swap 33 = .ok (.getfield 16, 3) := by decide +kernel
theorem dX11_swap_36 : decode cX11_swap 36 = .ok (.iload_n 3, 1) := by decide +kernel
theorem dX11_swap_37 : decode cX11_swap 37 = .ok (.iload_n 2, 1) := by decide +kernel
theorem dX11_swap_38 : decode cX11_swap 38 = .ok (.iastore, 1) := by decide +kernel
theorem dX11_swap_39 : decode cX11_swap 39 = .ok (.aload_n 0, 1) := by decide +kernel
theorem dX11_swap_40 : decode cX11_swap 40 = .ok (.getfield 16, 3) := by decide +kernel
theorem dX11_swap_43 : decode cX11_swap 43 = .ok (.iload 4, 2) := by decide +kernel
theorem dX11_swap_45 : decode cX11_swap 45 = .ok (.iload_n 1, 1) := by decide +kernel
theorem dX11_swap_46 : decode cX11_swap 46 = .ok (.iastore, 1) := by decide +kernel
theorem dX11_swap_47 : decode cX11_swap 47 = .ok (.iload_n 3, 1) := by decide +kernel
theorem dX11_swap_48 : decode cX11_swap 48 = .ok (.ireturn, 1) := by decide +kernel
set_option maxRecDepth 20000 in
theorem ggX11_day_X11_sourNow : GoodIn wsX11_day wsX11_sourNow := goodIn_r _ [11, 1, 12, 13, 14, 10, 15, 16, 17, 18, 19, 20, 21, 22, 23, 24, 25, 26, 27, 28, 29, 4, 5, 30, 31, 32, 33, 34, 54, 55, 56, 57, 58, 59, 60, 61, 62, 63, 64, 65, 66, 67, 68, 69, 70, 71, 72, 73, 74, 75, 76, 77, 78, 79, 80, 81, 82, 83, 84, 85, 86, 87, 88, 89] (by decide +kernel) (by decide +kernel)
set_option maxRecDepth 20000 in
theorem gX11_day_X11_sourNow : GoodIn wsX11_day (wsV RX11 132 RX11 yX11_sourNow wsX11_sourNow) := goodIn_app (goodIn_of _ (by decide +kernel)) ggX11_day_X11_sourNow
set_option maxRecDepth 20000 in
theorem ggX11_day_X11_hearNow : GoodIn wsX11_day wsX11_hearNow := goodIn_r _ [38, 1, 12, 13, 14, 10, 15, 16, 17, 18, 19, 20, 21, 22, 23, 24, 25, 26, 27, 28, 29, 4, 5, 39, 40, 41, 42, 43, 44, 45, 46, 47, 48, 49, 50, 51, 52, 53, 54, 55, 56, 57, 58, 59, 60, 61, 62, 63, 64, 65, 66, 67, 68, 69, 70, 71, 72, 73, 74, 75, 76, 77, 78, 79, 80, 81, 82, 83, 84, 85, 86, 87, 88, 89] (by decide +kernel) (by decide +kernel)
set_option maxRecDepth 20000 in
theorem gX11_day_X11_hearNow : GoodIn wsX11_day (wsV RX11 135 RX11 yX11_hearNow wsX11_hearNow) := goodIn_app (goodIn_of _ (by decide +kernel)) ggX11_day_X11_hearNow
theorem dX11_day_0 : decode cX11_day 0 = .ok (.aload_n 0, 1) := by decide +kernel
theorem dX11_day_1 : decode cX11_day 1 = .ok (.getfield 82, 3) := by decide +kernel
theorem dX11_day_4 : decode cX11_day 4 = .ok (.ifCond .ne 6, 3) := by decide +kernel
theorem dX11_day_7 : decode cX11_day 7 = .ok (.bipush (-103), 2) := by decide +kernel
theorem dX11_day_9 : decode cX11_day 9 = .ok (.ireturn, 1) := by decide +kernel
theorem dX11_day_10 : decode cX11_day 10 = .ok (.aload_n 0, 1) := by decide +kernel
theorem dX11_day_11 : decode cX11_day 11 = .ok (.invokevirtual 132, 3) := by decide +kernel
theorem dX11_day_14 : decode cX11_day 14 = .ok (.istore_n 1, 1) := by decide +kernel
theorem dX11_day_15 : decode cX11_day 15 = .ok (.aload_n 0, 1) := by decide +kernel
theorem dX11_day_16 : decode cX11_day 16 = .ok (.invokevirtual 135, 3) := by decide +kernel
theorem dX11_day_19 : decode cX11_day 19 = .ok (.istore_n 2, 1) := by decide +kernel
theorem dX11_day_20 : decode cX11_day 20 = .ok (.aload_n 0, 1) := by decide +kernel
theorem dX11_day_21 : decode cX11_day 21 = .ok (.dup, 1) := by decide +kernel
theorem dX11_day_22 : decode cX11_day 22 = .ok (.getfield 97, 3) := by decide +kernel
theorem dX11_day_25 : decode cX11_day 25 = .ok (.iload_n 1, 1) := by decide +kernel
theorem dX11_day_26 : decode cX11_day 26 = .ok (.iadd, 1) := by decide +kernel
theorem dX11_day_27 : decode cX11_day 27 = .ok (.putfield 97, 3) := by decide +kernel
theorem dX11_day_30 : decode cX11_day 30 = .ok (.aload_n 0, 1) := by decide +kernel
theorem dX11_day_31 : decode cX11_day 31 = .ok (.dup, 1) := by decide +kernel
theorem dX11_day_32 : decode cX11_day 32 = .ok (.getfield 100, 3) := by decide +kernel
theorem dX11_day_35 : decode cX11_day 35 = .ok (.iload_n 2, 1) := by decide +kernel
theorem dX11_day_36 : decode cX11_day 36 = .ok (.iadd, 1) := by decide +kernel
theorem dX11_day_37 : decode cX11_day 37 = .ok (.putfield 100, 3) := by decide +kernel
theorem dX11_day_40 : decode cX11_day 40 = .ok (.iconst 0, 1) := by decide +kernel
theorem dX11_day_41 : decode cX11_day 41 = .ok (.istore_n 3, 1) := by decide +kernel
theorem dX11_day_42 : decode cX11_day 42 = .ok (.iload_n 3, 1) := by decide +kernel
theorem dX11_day_43 : decode cX11_day 43 = .ok (.aload_n 0, 1) := by decide +kernel
theorem dX11_day_44 : decode cX11_day 44 = .ok (.getfield 82, 3) := by decide +kernel
theorem dX11_day_47 : decode cX11_day 47 = .ok (.if_icmp .ge 37, 3) := by decide +kernel
theorem dX11_day_50 : decode cX11_day 50 = .ok (.aload_n 0, 1) := by decide +kernel
theorem dX11_day_51 : decode cX11_day 51 = .ok (.getfield 13, 3) := by decide +kernel
theorem dX11_day_54 : decode cX11_day 54 = .ok (.iload_n 3, 1) := by decide +kernel
theorem dX11_day_55 : decode cX11_day 55 = .ok (.aload_n 0, 1) := by decide +kernel
theorem dX11_day_56 : decode cX11_day 56 = .ok (.getfield 7, 3) := by decide +kernel
theorem dX11_day_59 : decode cX11_day 59 = .ok (.iload_n 3, 1) := by decide +kernel
theorem dX11_day_60 : decode cX11_day 60 = .ok (.iaload, 1) := by decide +kernel
theorem dX11_day_61 : decode cX11_day 61 = .ok (.iconst 3, 1) := by decide +kernel
theorem dX11_day_62 : decode cX11_day 62 = .ok (.if_icmp .ne 14, 3) := by decide +kernel
theorem dX11_day_65 : decode cX11_day 65 = .ok (.aload_n 0, 1) := by decide +kernel
theorem dX11_day_66 : decode cX11_day 66 = .ok (.getfield 13, 3) := by decide +kernel
theorem dX11_day_69 : decode cX11_day 69 = .ok (.iload_n 3, 1) := by decide +kernel
theorem dX11_day_70 : decode cX11_day 70 = .ok (.iaload, 1) := by decide +kernel
theorem dX11_day_71 : decode cX11_day 71 = .ok (.iconst 2, 1) := by decide +kernel
theorem dX11_day_72 : decode cX11_day 72 = .ok (.idiv, 1) := by decide +kernel
theorem dX11_day_73 : decode cX11_day 73 = .ok (.goto 4, 3) := by decide +kernel
theorem dX11_day_76 : decode cX11_day 76 = .ok (.iconst 0, 1) := by decide +kernel
theorem dX11_day_77 : decode cX11_day 77 = .ok (.iastore, 1) := by decide +kernel
theorem dX11_day_78 : decode cX11_day 78 = .ok (.iinc 3 1, 3) := by decide +kernel
theorem dX11_day_81 : decode cX11_day 81 = .ok (.goto (-39), 3) := by decide +kernel
theorem dX11_day_84 : decode cX11_day 84 = .ok (.aload_n 0, 1) := by decide +kernel
theorem dX11_day_85 : decode cX11_day 85 = .ok (.dup, 1) := by decide +kernel
theorem dX11_day_86 : decode cX11_day 86 = .ok (.getfield 94, 3) := by decide +kernel
theorem dX11_day_89 : decode cX11_day 89 = .ok (.iconst 1, 1) := by decide +kernel
theorem dX11_day_90 : decode cX11_day 90 = .ok (.iadd, 1) := by decide +kernel
theorem dX11_day_91 : decode cX11_day 91 = .ok (.putfield 94, 3) := by decide +kernel
theorem dX11_day_94 : decode cX11_day 94 = .ok (.iload_n 1, 1) := by decide +kernel
theorem dX11_day_95 : decode cX11_day 95 = .ok (.iload_n 2, 1) := by decide +kernel
theorem dX11_day_96 : decode cX11_day 96 = .ok (.iadd, 1) := by decide +kernel
theorem dX11_day_97 : decode cX11_day 97 = .ok (.ireturn, 1) := by decide +kernel
set_option maxRecDepth 20000 in
theorem ggX11_nextOrder_X11_change : GoodIn wsX11_nextOrder wsX11_change := goodIn_r _ [7, 2, 8, 9, 10, 11, 12, 13, 14, 15, 16, 17, 18, 19, 20, 21, 22, 23, 24, 25, 26, 27, 28, 29, 30, 31, 32, 33, 34, 35, 36, 37, 38, 39, 40, 41, 42, 43] (by decide +kernel) (by decide +kernel)
set_option maxRecDepth 20000 in
theorem gX11_nextOrder_X11_change : GoodIn wsX11_nextOrder (wsV RX11 151 RX11 yX11_change wsX11_change) := goodIn_app (goodIn_of _ (by decide +kernel)) ggX11_nextOrder_X11_change
theorem dX11_nextOrder_0 : decode cX11_nextOrder 0 = .ok (.aload_n 0, 1) := by decide +kernel
theorem dX11_nextOrder_1 : decode cX11_nextOrder 1 = .ok (.getfield 82, 3) := by decide +kernel
theorem dX11_nextOrder_4 : decode cX11_nextOrder 4 = .ok (.iconst 2, 1) := by decide +kernel
theorem dX11_nextOrder_5 : decode cX11_nextOrder 5 = .ok (.isub, 1) := by decide +kernel
theorem dX11_nextOrder_6 : decode cX11_nextOrder 6 = .ok (.istore_n 1, 1) := by decide +kernel
theorem dX11_nextOrder_7 : decode cX11_nextOrder 7 = .ok (.iload_n 1, 1) := by decide +kernel
theorem dX11_nextOrder_8 : decode cX11_nextOrder 8 = .ok (.ifCond .lt 26, 3) := by decide +kernel
theorem dX11_nextOrder_11 : decode cX11_nextOrder 11 = .ok (.aload_n 0, 1) := by decide +kernel
theorem dX11_nextOrder_12 : decode cX11_nextOrder 12 = .ok (.getfield 16, 3) := by decide +kernel
theorem dX11_nextOrder_15 : decode cX11_nextOrder 15 = .ok (.iload_n 1, 1) := by decide +kernel
theorem dX11_nextOrder_16 : decode cX11_nextOrder 16 = .ok (.iaload, 1) := by decide +kernel
theorem dX11_nextOrder_17 : decode cX11_nextOrder 17 = .ok (.aload_n 0, 1) := by decide +kernel
theorem dX11_nextOrder_18 : decode cX11_nextOrder 18 = .ok (.getfield 16, 3) := by decide +kernel
theorem dX11_nextOrder_21 : decode cX11_nextOrder 21 = .ok (.iload_n 1, 1) := by decide +kernel
theorem dX11_nextOrder_22 : decode cX11_nextOrder 22 = .ok (.iconst 1, 1) := by decide +kernel
theorem dX11_nextOrder_23 : decode cX11_nextOrder 23 = .ok (.iadd, 1) := by decide +kernel
theorem dX11_nextOrder_24 : decode cX11_nextOrder 24 = .ok (.iaload, 1) := by decide +kernel
theorem dX11_nextOrder_25 : decode cX11_nextOrder 25 = .ok (.if_icmp .le 9, 3) := by decide +kernel
theorem dX11_nextOrder_28 : decode cX11_nextOrder 28 = .ok (.iinc 1 (-1), 3) := by decide +kernel
theorem dX11_nextOrder_31 : decode cX11_nextOrder 31 = .ok (.goto (-24), 3) := by decide +kernel
theorem dX11_nextOrder_34 : decode cX11_nextOrder 34 = .ok (.iload_n 1, 1) := by decide +kernel
theorem dX11_nextOrder_35 : decode cX11_nextOrder 35 = .ok (.ifCond .ge 5, 3) := by decide +kernel
theorem dX11_nextOrder_38 : decode cX11_nextOrder 38 = .ok (.iconst 0, 1) := by decide +kernel
theorem dX11_nextOrder_39 : decode cX11_nextOrder 39 = .ok (.ireturn, 1) := by decide +kernel
theorem dX11_nextOrder_40 : decode cX11_nextOrder 40 = .ok (.aload_n 0, 1) := by decide +kernel
theorem dX11_nextOrder_41 : decode cX11_nextOrder 41 = .ok (.getfield 82, 3) := by decide +kernel
theorem dX11_nextOrder_44 : decode cX11_nextOrder 44 = .ok (.iconst 1, 1) := by decide +kernel
theorem dX11_nextOrder_45 : decode cX11_nextOrder 45 = .ok (.isub, 1) := by decide +kernel
theorem dX11_nextOrder_46 : decode cX11_nextOrder 46 = .ok (.istore_n 2, 1) := by decide +kernel
theorem dX11_nextOrder_47 : decode cX11_nextOrder 47 = .ok (.aload_n 0, 1) := by decide +kernel
theorem dX11_nextOrder_48 : decode cX11_nextOrder 48 = .ok (.getfield 16, 3) := by decide +kernel
theorem dX11_nextOrder_51 : decode cX11_nextOrder 51 = .ok (.iload_n 2, 1) := by decide +kernel
theorem dX11_nextOrder_52 : decode cX11_nextOrder 52 = .ok (.iaload, 1) := by decide +kernel
theorem dX11_nextOrder_53 : decode cX11_nextOrder 53 = .ok (.aload_n 0, 1) := by decide +kernel
theorem dX11_nextOrder_54 : decode cX11_nextOrder 54 = .ok (.getfield 16, 3) := by decide +kernel
theorem dX11_nextOrder_57 : decode cX11_nextOrder 57 = .ok (.iload_n 1, 1) := by decide +kernel
theorem dX11_nextOrder_58 : decode cX11_nextOrder 58 = .ok (.iaload, 1) := by decide +kernel
theorem dX11_nextOrder_59 : decode cX11_nextOrder 59 = .ok (.if_icmp .ge 9, 3) := by decide +kernel
theorem dX11_nextOrder_62 : decode cX11_nextOrder 62 = .ok (.iinc 2 (-1), 3) := by decide +kernel
theorem dX11_nextOrder_65 : decode cX11_nextOrder 65 = .ok (.goto (-18), 3) := by decide +kernel
theorem dX11_nextOrder_68 : decode cX11_nextOrder 68 = .ok (.aload_n 0, 1) := by decide +kernel
theorem dX11_nextOrder_69 : decode cX11_nextOrder 69 = .ok (.iload_n 1, 1) := by decide +kernel
theorem dX11_nextOrder_70 : decode cX11_nextOrder 70 = .ok (.iload_n 2, 1) := by decide +kernel
theorem dX11_nextOrder_71 : decode cX11_nextOrder 71 = .ok (.invokevirtual 151, 3) := by decide +kernel
theorem dX11_nextOrder_74 : decode cX11_nextOrder 74 = .ok (.iload_n 1, 1) := by decide +kernel
theorem dX11_nextOrder_75 : decode cX11_nextOrder 75 = .ok (.iconst 1, 1) := by decide +kernel
theorem dX11_nextOrder_76 : decode cX11_nextOrder 76 = .ok (.iadd, 1) := by decide +kernel
theorem dX11_nextOrder_77 : decode cX11_nextOrder 77 = .ok (.istore_n 3, 1) := by decide +kernel
theorem dX11_nextOrder_78 : decode cX11_nextOrder 78 = .ok (.aload_n 0, 1) := by decide +kernel
theorem dX11_nextOrder_79 : decode cX11_nextOrder 79 = .ok (.getfield 82, 3) := by decide +kernel
theorem dX11_nextOrder_82 : decode cX11_nextOrder 82 = .ok (.iconst 1, 1) := by decide +kernel
theorem dX11_nextOrder_83 : decode cX11_nextOrder 83 = .ok (.isub, 1) := by decide +kernel
theorem dX11_nextOrder_84 : decode cX11_nextOrder 84 = .ok (.istore 4, 2) := by decide +kernel
theorem dX11_nextOrder_86 : decode cX11_nextOrder 86 = .ok (.iload_n 3, 1) := by decide +kernel
theorem dX11_nextOrder_87 : decode cX11_nextOrder 87 = .ok (.iload 4, 2) := by decide +kernel
theorem dX11_nextOrder_89 : decode cX11_nextOrder 89 = .ok (.if_icmp .ge 19, 3) := by decide +kernel
theorem dX11_nextOrder_92 : decode cX11_nextOrder 92 = .ok (.aload_n 0, 1) := by decide +kernel
theorem dX11_nextOrder_93 : decode cX11_nextOrder 93 = .ok (.iload_n 3, 1) := by decide +kernel
theorem dX11_nextOrder_94 : decode cX11_nextOrder 94 = .ok (.iload 4, 2) := by decide +kernel
theorem dX11_nextOrder_96 : decode cX11_nextOrder 96 = .ok (.invokevirtual 151, 3) := by decide +kernel
theorem dX11_nextOrder_99 : decode cX11_nextOrder 99 = .ok (.iinc 3 1, 3) := by decide +kernel
theorem dX11_nextOrder_102 : decode cX11_nextOrder 102 = .ok (.iinc 4 (-1), 3) := by decide +kernel
theorem dX11_nextOrder_105 : decode cX11_nextOrder 105 = .ok (.goto (-19), 3) := by decide +kernel
theorem dX11_nextOrder_108 : decode cX11_nextOrder 108 = .ok (.iconst 1, 1) := by decide +kernel
theorem dX11_nextOrder_109 : decode cX11_nextOrder 109 = .ok (.ireturn, 1) := by decide +kernel
theorem dX11_change_0 : decode cX11_change 0 = .ok (.aload_n 0, 1) := by decide +kernel
theorem dX11_change_1 : decode cX11_change 1 = .ok (.getfield 16, 3) := by decide +kernel
theorem dX11_change_4 : decode cX11_change 4 = .ok (.iload_n 1, 1) := by decide +kernel
theorem dX11_change_5 : decode cX11_change 5 = .ok (.iaload, 1) := by decide +kernel
theorem dX11_change_6 : decode cX11_change 6 = .ok (.istore_n 3, 1) := by decide +kernel
theorem dX11_change_7 : decode cX11_change 7 = .ok (.aload_n 0, 1) := by decide +kernel
theorem dX11_change_8 : decode cX11_change 8 = .ok (.getfield 16, 3) := by decide +kernel
theorem dX11_change_11 : decode cX11_change 11 = .ok (.iload_n 1, 1) := by decide +kernel
theorem dX11_change_12 : decode cX11_change 12 = .ok (.aload_n 0, 1) := by decide +kernel
theorem dX11_change_13 : decode cX11_change 13 = .ok (.getfield 16, 3) := by decide +kernel
theorem dX11_change_16 : decode cX11_change 16 = .ok (.iload_n 2, 1) := by decide +kernel
theorem dX11_change_17 : decode cX11_change 17 = .ok (.iaload, 1) := by decide +kernel
theorem dX11_change_18 : decode cX11_change 18 = .ok (.iastore, 1) := by decide +kernel
theorem dX11_change_19 : decode cX11_change 19 = .ok (.aload_n 0, 1) := by decide +kernel
theorem dX11_change_20 : decode cX11_change 20 = .ok (.getfield 16, 3) := by decide +kernel
theorem dX11_change_23 : decode cX11_change 23 = .ok (.iload_n 2, 1) := by decide +kernel
theorem dX11_change_24 : decode cX11_change 24 = .ok (.iload_n 3, 1) := by decide +kernel
theorem dX11_change_25 : decode cX11_change 25 = .ok (.iastore, 1) := by decide +kernel
theorem dX11_change_26 : decode cX11_change 26 = .ok (.return_, 1) := by decide +kernel
set_option maxRecDepth 20000 in
theorem ggX11_bestNow_X11_wrongNow : GoodIn wsX11_bestNow wsX11_wrongNow := goodIn_r _ [10, 11, 12, 13, 9, 14, 3, 15, 16, 17, 18, 2, 19, 20, 21, 22, 23, 24, 25, 26, 27, 28, 29, 30, 31, 32, 33, 34, 35, 36, 37, 38, 39, 40, 41, 42, 43, 44, 45, 46, 47, 48, 49, 50, 51, 52, 53, 54, 55, 56, 57, 66, 67, 68, 69, 70, 71, 72, 73, 74, 75, 76, 77, 78, 79, 80, 81, 82, 83, 84, 85, 86, 87, 88, 89, 90, 91, 92, 93, 94, 95, 96, 97, 98, 99, 100, 101] (by decide +kernel) (by decide +kernel)
set_option maxRecDepth 20000 in
theorem gX11_bestNow_X11_wrongNow : GoodIn wsX11_bestNow (wsV RX11 138 RX11 yX11_wrongNow wsX11_wrongNow) := goodIn_app (goodIn_of _ (by decide +kernel)) ggX11_bestNow_X11_wrongNow
set_option maxRecDepth 20000 in
theorem ggX11_bestNow_X11_nextOrder : GoodIn wsX11_bestNow wsX11_nextOrder := goodIn_r _ [61, 3, 2, 62, 63, 64, 9, 65, 66, 67, 68, 69, 70, 71, 72, 73, 74, 75, 76, 77, 78, 79, 80, 81, 82, 83, 84, 85, 86, 87, 88, 89, 90, 91, 92, 93, 94, 95, 96, 97, 98, 99, 100, 101] (by decide +kernel) (by decide +kernel)
set_option maxRecDepth 20000 in
theorem gX11_bestNow_X11_nextOrder : GoodIn wsX11_bestNow (wsV RX11 156 RX11 yX11_nextOrder wsX11_nextOrder) := goodIn_app (goodIn_of _ (by decide +kernel)) ggX11_bestNow_X11_nextOrder
theorem dX11_bestNow_0 : decode cX11_bestNow 0 = .ok (.iconst 0, 1) := by decide +kernel
theorem dX11_bestNow_1 : decode cX11_bestNow 1 = .ok (.istore_n 2, 1) := by decide +kernel
theorem dX11_bestNow_2 : decode cX11_bestNow 2 = .ok (.iload_n 2, 1) := by decide +kernel
theorem dX11_bestNow_3 : decode cX11_bestNow 3 = .ok (.bipush 6, 2) := by decide +kernel
theorem dX11_bestNow_5 : decode cX11_bestNow 5 = .ok (.if_icmp .ge 21, 3) := by decide +kernel
theorem dX11_bestNow_8 : decode cX11_bestNow 8 = .ok (.aload_n 0, 1) := by decide +kernel
theorem dX11_bestNow_9 : decode cX11_bestNow 9 = .ok (.getfield 32, 3) := by decide +kernel
theorem dX11_bestNow_12 : decode cX11_bestNow 12 = .ok (.iload_n 2, 1) := by decide +kernel
theorem dX11_bestNow_13 : decode cX11_bestNow 13 = .ok (.aload_n 0, 1) := by decide +kernel
theorem dX11_bestNow_14 : decode cX11_bestNow 14 = .ok (.getfield 16, 3) := by decide +kernel
theorem dX11_bestNow_17 : decode cX11_bestNow 17 = .ok (.iload_n 2, 1) := by decide +kernel
theorem dX11_bestNow_18 : decode cX11_bestNow 18 = .ok (.iaload, 1) := by decide +kernel
theorem dX11_bestNow_19 : decode cX11_bestNow 19 = .ok (.iastore, 1) := by decide +kernel
theorem dX11_bestNow_20 : decode cX11_bestNow 20 = .ok (.iinc 2 1, 3) := by decide +kernel
theorem dX11_bestNow_23 : decode cX11_bestNow 23 = .ok (.goto (-21), 3) := by decide +kernel
theorem dX11_bestNow_26 : decode cX11_bestNow 26 = .ok (.iconst 0, 1) := by decide +kernel
theorem dX11_bestNow_27 : decode cX11_bestNow 27 = .ok (.istore_n 2, 1) := by decide +kernel
theorem dX11_bestNow_28 : decode cX11_bestNow 28 = .ok (.iload_n 2, 1) := by decide +kernel
theorem dX11_bestNow_29 : decode cX11_bestNow 29 = .ok (.aload_n 0, 1) := by decide +kernel
theorem dX11_bestNow_30 : decode cX11_bestNow 30 = .ok (.getfield 82, 3) := by decide +kernel
theorem dX11_bestNow_33 : decode cX11_bestNow 33 = .ok (.if_icmp .ge 16, 3) := by decide +kernel
theorem dX11_bestNow_36 : decode cX11_bestNow 36 = .ok (.aload_n 0, 1) := by decide +kernel
theorem dX11_bestNow_37 : decode cX11_bestNow 37 = .ok (.getfield 16, 3) := by decide +kernel
theorem dX11_bestNow_40 : decode cX11_bestNow 40 = .ok (.iload_n 2, 1) := by decide +kernel
theorem dX11_bestNow_41 : decode cX11_bestNow 41 = .ok (.iload_n 2, 1) := by decide +kernel
theorem dX11_bestNow_42 : decode cX11_bestNow 42 = .ok (.iastore, 1) := by decide +kernel
theorem dX11_bestNow_43 : decode cX11_bestNow 43 = .ok (.iinc 2 1, 3) := by decide +kernel
theorem dX11_bestNow_46 : decode cX11_bestNow 46 = .ok (.goto (-18), 3) := by decide +kernel
theorem dX11_bestNow_49 : decode cX11_bestNow 49 = .ok (.ldc 155, 2) := by decide +kernel
theorem dX11_bestNow_51 : decode cX11_bestNow 51 = .ok (.istore_n 2, 1) := by decide +kernel
theorem dX11_bestNow_52 : decode cX11_bestNow 52 = .ok (.iconst 1, 1) := by decide +kernel
theorem dX11_bestNow_53 : decode cX11_bestNow 53 = .ok (.istore_n 3, 1) := by decide +kernel
theorem dX11_bestNow_54 : decode cX11_bestNow 54 = .ok (.iload_n 3, 1) := by decide +kernel
theorem dX11_bestNow_55 : decode cX11_bestNow 55 = .ok (.ifCond .eq 58, 3) := by decide +kernel
theorem dX11_bestNow_58 : decode cX11_bestNow 58 = .ok (.aload_n 0, 1) := by decide +kernel
theorem dX11_bestNow_59 : decode cX11_bestNow 59 = .ok (.invokevirtual 138, 3) := by decide +kernel
theorem dX11_bestNow_62 : decode cX11_bestNow 62 = .ok (.istore 4, 2) := by decide +kernel
theorem dX11_bestNow_64 : decode cX11_bestNow 64 = .ok (.iload 4, 2) := by decide +kernel
theorem dX11_bestNow_66 : decode cX11_bestNow 66 = .ok (.iload_n 2, 1) := by decide +kernel
theorem dX11_bestNow_67 : decode cX11_bestNow 67 = .ok (.if_icmp .ge 38, 3) := by decide +kernel
theorem dX11_bestNow_70 : decode cX11_bestNow 70 = .ok (.iload 4, 2) := by decide +kernel
theorem dX11_bestNow_72 : decode cX11_bestNow 72 = .ok (.istore_n 2, 1) := by decide +kernel
theorem dX11_bestNow_73 : decode cX11_bestNow 73 = .ok (.iconst 0, 1) := by decide +kernel
theorem dX11_bestNow_74 : decode cX11_bestNow 74 = .ok (.istore 5, 2) := by decide +kernel
theorem dX11_bestNow_76 : decode cX11_bestNow 76 = .ok (.iload 5, 2) := by decide +kernel
theorem dX11_bestNow_78 : decode cX11_bestNow 78 = .ok (.aload_n 0, 1) := by decide +kernel
theorem dX11_bestNow_79 : decode cX11_bestNow 79 = .ok (.getfield 82, 3) := by decide +kernel
theorem dX11_bestNow_82 : decode cX11_bestNow 82 = .ok (.if_icmp .ge 23, 3) := by decide +kernel
theorem dX11_bestNow_85 : decode cX11_bestNow 85 = .ok (.aload_n 0, 1) := by decide +kernel
theorem dX11_bestNow_86 : decode cX11_bestNow 86 = .ok (.getfield 35, 3) := by decide +kernel
theorem dX11_bestNow_89 : decode cX11_bestNow 89 = .ok (.iload 5, 2) := by decide +kernel
theorem dX11_bestNow_91 : decode cX11_bestNow 91 = .ok (.aload_n 0, 1) := by decide +kernel
theorem dX11_bestNow_92 : decode cX11_bestNow 92 = .ok (.getfield 16, 3) := by decide +kernel
theorem dX11_bestNow_95 : decode cX11_bestNow 95 = .ok (.iload 5, 2) := by decide +kernel
theorem dX11_bestNow_97 : decode cX11_bestNow 97 = .ok (.iaload, 1) := by decide +kernel
theorem dX11_bestNow_98 : decode cX11_bestNow 98 = .ok (.iastore, 1) := by decide +kernel
theorem dX11_bestNow_99 : decode cX11_bestNow 99 = .ok (.iinc 5 1, 3) := by decide +kernel
theorem dX11_bestNow_102 : decode cX11_bestNow 102 = .ok (.goto (-26), 3) := by decide +kernel
theorem dX11_bestNow_105 : decode cX11_bestNow 105 = .ok (.aload_n 0, 1) := by decide +kernel
theorem dX11_bestNow_106 : decode cX11_bestNow 106 = .ok (.invokevirtual 156, 3) := by decide +kernel
theorem dX11_bestNow_109 : decode cX11_bestNow 109 = .ok (.istore_n 3, 1) := by decide +kernel
theorem dX11_bestNow_110 : decode cX11_bestNow 110 = .ok (.goto (-56), 3) := by decide +kernel
theorem dX11_bestNow_113 : decode cX11_bestNow 113 = .ok (.iconst 0, 1) := by decide +kernel
theorem dX11_bestNow_114 : decode cX11_bestNow 114 = .ok (.istore 4, 2) := by decide +kernel
theorem dX11_bestNow_116 : decode cX11_bestNow 116 = .ok (.iload 4, 2) := by decide +kernel
theorem dX11_bestNow_118 : decode cX11_bestNow 118 = .ok (.bipush 6, 2) := by decide +kernel
theorem dX11_bestNow_120 : decode cX11_bestNow 120 = .ok (.if_icmp .ge 23, 3) := by decide +kernel
theorem dX11_bestNow_123 : decode cX11_bestNow 123 = .ok (.aload_n 0, 1) := by decide +kernel
theorem dX11_bestNow_124 : decode cX11_bestNow 124 = .ok (.getfield 16, 3) := by decide +kernel
theorem dX11_bestNow_127 : decode cX11_bestNow 127 = .ok (.iload 4, 2) := by decide +kernel
theorem dX11_bestNow_129 : decode cX11_bestNow 129 = .ok (.aload_n 0, 1) := by decide +kernel
theorem dX11_bestNow_130 : decode cX11_bestNow 130 = .ok (.getfield 32, 3) := by decide +kernel
theorem dX11_bestNow_133 : decode cX11_bestNow 133 = .ok (.iload 4, 2) := by decide +kernel
theorem dX11_bestNow_135 : decode cX11_bestNow 135 = .ok (.iaload, 1) := by decide +kernel
theorem dX11_bestNow_136 : decode cX11_bestNow 136 = .ok (.iastore, 1) := by decide +kernel
theorem dX11_bestNow_137 : decode cX11_bestNow 137 = .ok (.iinc 4 1, 3) := by decide +kernel
theorem dX11_bestNow_140 : decode cX11_bestNow 140 = .ok (.goto (-24), 3) := by decide +kernel
theorem dX11_bestNow_143 : decode cX11_bestNow 143 = .ok (.iload_n 1, 1) := by decide +kernel
theorem dX11_bestNow_144 : decode cX11_bestNow 144 = .ok (.ifCond .ne 7, 3) := by decide +kernel
theorem dX11_bestNow_147 : decode cX11_bestNow 147 = .ok (.iload_n 2, 1) := by decide +kernel
theorem dX11_bestNow_148 : decode cX11_bestNow 148 = .ok (.goto 27, 3) := by decide +kernel
theorem dX11_bestNow_151 : decode cX11_bestNow 151 = .ok (.iload_n 1, 1) := by decide +kernel
theorem dX11_bestNow_152 : decode cX11_bestNow 152 = .ok (.bipush 10, 2) := by decide +kernel
theorem dX11_bestNow_154 : decode cX11_bestNow 154 = .ok (.isub, 1) := by decide +kernel
theorem dX11_bestNow_155 : decode cX11_bestNow 155 = .ok (.aload_n 0, 1) := by decide +kernel
theorem dX11_bestNow_156 : decode cX11_bestNow 156 = .ok (.getfield 82, 3) := by decide +kernel
theorem dX11_bestNow_159 : decode cX11_bestNow 159 = .ok (.if_icmp .ge 15, 3) := by decide +kernel
theorem dX11_bestNow_162 : decode cX11_bestNow 162 = .ok (.aload_n 0, 1) := by decide +kernel
theorem dX11_bestNow_163 : decode cX11_bestNow 163 = .ok (.getfield 35, 3) := by decide +kernel
theorem dX11_bestNow_166 : decode cX11_bestNow 166 = .ok (.iload_n 1, 1) := by decide +kernel
theorem dX11_bestNow_167 : decode cX11_bestNow 167 = .ok (.bipush 10, 2) := by decide +kernel
theorem dX11_bestNow_169 : decode cX11_bestNow 169 = .ok (.isub, 1) := by decide +kernel
theorem dX11_bestNow_170 : decode cX11_bestNow 170 = .ok (.iaload, 1) := by decide +kernel
theorem dX11_bestNow_171 : decode cX11_bestNow 171 = .ok (.goto 4, 3) := by decide +kernel
theorem dX11_bestNow_174 : decode cX11_bestNow 174 = .ok (.iconst (-1), 1) := by decide +kernel
theorem dX11_bestNow_175 : decode cX11_bestNow 175 = .ok (.ireturn, 1) := by decide +kernel
set_option maxRecDepth 20000 in
theorem ggX11_best_X11_within : GoodIn wsX11_best wsX11_within := goodIn_r _ [6] (by decide +kernel) (by decide +kernel)
set_option maxRecDepth 20000 in
theorem gX11_best_X11_within : GoodIn wsX11_best (va_wsS RX11 56 yX11_within wsX11_within) := goodIn_app (goodIn_of _ (by decide +kernel)) ggX11_best_X11_within
set_option maxRecDepth 20000 in
theorem ggX11_best_X11_bestNow : GoodIn wsX11_best wsX11_bestNow := goodIn_r _ [10, 11, 12, 1, 13, 14, 15, 16, 17, 5, 18, 19, 20, 21, 22, 23, 24, 25, 26, 27, 28, 29, 30, 31, 32, 33, 34, 35, 36, 37, 38, 39, 40, 41, 42, 43, 44, 45, 46, 47, 48, 49, 50, 51, 52, 53, 54, 55, 56, 57, 58, 59, 60, 61, 62, 3, 4, 6, 63, 64, 65, 66, 67, 68, 69, 70, 71, 72, 73, 74, 75, 76, 77, 78, 79, 80, 81, 82, 83, 84, 85, 86, 87, 88, 89, 90, 91, 92, 93, 94, 95, 96, 97, 98, 99, 100, 101, 102, 103, 104, 105, 106] (by decide +kernel) (by decide +kernel)
set_option maxRecDepth 20000 in
theorem gX11_best_X11_bestNow : GoodIn wsX11_best (wsV RX11 163 RX11 yX11_bestNow wsX11_bestNow) := goodIn_app (goodIn_of _ (by decide +kernel)) ggX11_best_X11_bestNow
theorem dX11_best_0 : decode cX11_best 0 = .ok (.iload_n 1, 1) := by decide +kernel
theorem dX11_best_1 : decode cX11_best 1 = .ok (.ifCond .eq 17, 3) := by decide +kernel
theorem dX11_best_4 : decode cX11_best 4 = .ok (.iload_n 1, 1) := by decide +kernel
theorem dX11_best_5 : decode cX11_best 5 = .ok (.bipush 10, 2) := by decide +kernel
theorem dX11_best_7 : decode cX11_best 7 = .ok (.bipush 15, 2) := by decide +kernel
theorem dX11_best_9 : decode cX11_best 9 = .ok (.invokestatic 56, 3) := by decide +kernel
theorem dX11_best_12 : decode cX11_best 12 = .ok (.ifCond .ne 6, 3) := by decide +kernel
theorem dX11_best_15 : decode cX11_best 15 = .ok (.bipush (-102), 2) := by decide +kernel
theorem dX11_best_17 : decode cX11_best 17 = .ok (.ireturn, 1) := by decide +kernel
theorem dX11_best_18 : decode cX11_best 18 = .ok (.aload_n 0, 1) := by decide +kernel
theorem dX11_best_19 : decode cX11_best 19 = .ok (.getfield 82, 3) := by decide +kernel
theorem dX11_best_22 : decode cX11_best 22 = .ok (.ifCond .eq 12, 3) := by decide +kernel
theorem dX11_best_25 : decode cX11_best 25 = .ok (.aload_n 0, 1) := by decide +kernel
theorem dX11_best_26 : decode cX11_best 26 = .ok (.getfield 160, 3) := by decide +kernel
theorem dX11_best_29 : decode cX11_best 29 = .ok (.bipush 30, 2) := by decide +kernel
theorem dX11_best_31 : decode cX11_best 31 = .ok (.if_icmp .ne 6, 3) := by decide +kernel
theorem dX11_best_34 : decode cX11_best 34 = .ok (.bipush (-103), 2) := by decide +kernel
theorem dX11_best_36 : decode cX11_best 36 = .ok (.ireturn, 1) := by decide +kernel
theorem dX11_best_37 : decode cX11_best 37 = .ok (.aload_n 0, 1) := by decide +kernel
theorem dX11_best_38 : decode cX11_best 38 = .ok (.dup, 1) := by decide +kernel
theorem dX11_best_39 : decode cX11_best 39 = .ok (.getfield 160, 3) := by decide +kernel
theorem dX11_best_42 : decode cX11_best 42 = .ok (.iconst 1, 1) := by decide +kernel
theorem dX11_best_43 : decode cX11_best 43 = .ok (.iadd, 1) := by decide +kernel
theorem dX11_best_44 : decode cX11_best 44 = .ok (.putfield 160, 3) := by decide +kernel
theorem dX11_best_47 : decode cX11_best 47 = .ok (.aload_n 0, 1) := by decide +kernel
theorem dX11_best_48 : decode cX11_best 48 = .ok (.iload_n 1, 1) := by decide +kernel
theorem dX11_best_49 : decode cX11_best 49 = .ok (.invokevirtual 163, 3) := by decide +kernel
theorem dX11_best_52 : decode cX11_best 52 = .ok (.ireturn, 1) := by decide +kernel
set_option maxRecDepth 20000 in
theorem ggX11_known_X11_isHouse : GoodIn wsX11_known wsX11_isHouse := goodIn_r _ [8, 9, 10, 11, 7, 12, 13, 14, 15, 16, 17, 18, 19, 20, 21, 22, 23, 24, 25, 26, 27, 28, 29, 30, 31, 32, 33, 34, 35, 36, 37, 38, 39, 40, 41, 42, 43, 44, 45, 46, 47, 48] (by decide +kernel) (by decide +kernel)
set_option maxRecDepth 20000 in
theorem gX11_known_X11_isHouse : GoodIn wsX11_known (wsV RX11 116 RX11 yX11_isHouse wsX11_isHouse) := goodIn_app (goodIn_of _ (by decide +kernel)) ggX11_known_X11_isHouse
set_option maxRecDepth 20000 in
theorem ggX11_known_X11_within : GoodIn wsX11_known wsX11_within := goodIn_r _ [12] (by decide +kernel) (by decide +kernel)
set_option maxRecDepth 20000 in
theorem gX11_known_X11_within : GoodIn wsX11_known (va_wsS RX11 56 yX11_within wsX11_within) := goodIn_app (goodIn_of _ (by decide +kernel)) ggX11_known_X11_within
theorem dX11_known_0 : decode cX11_known 0 = .ok (.aload_n 0, 1) := by decide +kernel
theorem dX11_known_1 : decode cX11_known 1 = .ok (.iload_n 1, 1) := by decide +kernel
theorem dX11_known_2 : decode cX11_known 2 = .ok (.invokevirtual 116, 3) := by decide +kernel
theorem dX11_known_5 : decode cX11_known 5 = .ok (.ifCond .ne 6, 3) := by decide +kernel
theorem dX11_known_8 : decode cX11_known 8 = .ok (.bipush (-101), 2) := by decide +kernel
theorem dX11_known_10 : decode cX11_known 10 = .ok (.ireturn, 1) := by decide +kernel
theorem dX11_known_11 : decode cX11_known 11 = .ok (.iload_n 2, 1) := by decide +kernel
theorem dX11_known_12 : decode cX11_known 12 = .ok (.iconst 1, 1) := by decide +kernel
theorem dX11_known_13 : decode cX11_known 13 = .ok (.sipush 150, 3) := by decide +kernel
theorem dX11_known_16 : decode cX11_known 16 = .ok (.invokestatic 56, 3) := by decide +kernel
theorem dX11_known_19 : decode cX11_known 19 = .ok (.ifCond .ne 6, 3) := by decide +kernel
theorem dX11_known_22 : decode cX11_known 22 = .ok (.bipush (-102), 2) := by decide +kernel
theorem dX11_known_24 : decode cX11_known 24 = .ok (.ireturn, 1) := by decide +kernel
theorem dX11_known_25 : decode cX11_known 25 = .ok (.aload_n 0, 1) := by decide +kernel
theorem dX11_known_26 : decode cX11_known 26 = .ok (.getfield 103, 3) := by decide +kernel
theorem dX11_known_29 : decode cX11_known 29 = .ok (.bipush 6, 2) := by decide +kernel
theorem dX11_known_31 : decode cX11_known 31 = .ok (.if_icmp .ne 6, 3) := by decide +kernel
theorem dX11_known_34 : decode cX11_known 34 = .ok (.bipush (-104), 2) := by decide +kernel
theorem dX11_known_36 : decode cX11_known 36 = .ok (.ireturn, 1) := by decide +kernel
theorem dX11_known_37 : decode cX11_known 37 = .ok (.aload_n 0, 1) := by decide +kernel
theorem dX11_known_38 : decode cX11_known 38 = .ok (.getfield 19, 3) := by decide +kernel
theorem dX11_known_41 : decode cX11_known 41 = .ok (.aload_n 0, 1) := by decide +kernel
theorem dX11_known_42 : decode cX11_known 42 = .ok (.getfield 103, 3) := by decide +kernel
theorem dX11_known_45 : decode cX11_known 45 = .ok (.iload_n 1, 1) := by decide +kernel
theorem dX11_known_46 : decode cX11_known 46 = .ok (.iastore, 1) := by decide +kernel
theorem dX11_known_47 : decode cX11_known 47 = .ok (.aload_n 0, 1) := by decide +kernel
theorem dX11_known_48 : decode cX11_known 48 = .ok (.getfield 22, 3) := by decide +kernel
theorem dX11_known_51 : decode cX11_known 51 = .ok (.aload_n 0, 1) := by decide +kernel
theorem dX11_known_52 : decode cX11_known 52 = .ok (.getfield 103, 3) := by decide +kernel
theorem dX11_known_55 : decode cX11_known 55 = .ok (.iload_n 2, 1) := by decide +kernel
theorem dX11_known_56 : decode cX11_known 56 = .ok (.iastore, 1) := by decide +kernel
theorem dX11_known_57 : decode cX11_known 57 = .ok (.aload_n 0, 1) := by decide +kernel
theorem dX11_known_58 : decode cX11_known 58 = .ok (.dup, 1) := by decide +kernel
theorem dX11_known_59 : decode cX11_known 59 = .ok (.getfield 103, 3) := by decide +kernel
theorem dX11_known_62 : decode cX11_known 62 = .ok (.iconst 1, 1) := by decide +kernel
theorem dX11_known_63 : decode cX11_known 63 = .ok (.iadd, 1) := by decide +kernel
theorem dX11_known_64 : decode cX11_known 64 = .ok (.putfield 103, 3) := by decide +kernel
theorem dX11_known_67 : decode cX11_known 67 = .ok (.aload_n 0, 1) := by decide +kernel
theorem dX11_known_68 : decode cX11_known 68 = .ok (.getfield 103, 3) := by decide +kernel
theorem dX11_known_71 : decode cX11_known 71 = .ok (.ireturn, 1) := by decide +kernel
theorem dX11_forget_0 : decode cX11_forget 0 = .ok (.aload_n 0, 1) := by decide +kernel
theorem dX11_forget_1 : decode cX11_forget 1 = .ok (.getfield 103, 3) := by decide +kernel
theorem dX11_forget_4 : decode cX11_forget 4 = .ok (.istore_n 1, 1) := by decide +kernel
theorem dX11_forget_5 : decode cX11_forget 5 = .ok (.aload_n 0, 1) := by decide +kernel
theorem dX11_forget_6 : decode cX11_forget 6 = .ok (.iconst 0, 1) := by decide +kernel
theorem dX11_forget_7 : decode cX11_forget 7 = .ok (.putfield 103, 3) := by decide +kernel
theorem dX11_forget_10 : decode cX11_forget 10 = .ok (.iload_n 1, 1) := by decide +kernel
theorem dX11_forget_11 : decode cX11_forget 11 = .ok (.ireturn, 1) := by decide +kernel
set_option maxRecDepth 20000 in
theorem ggX11_isKnown_X11_go : GoodIn wsX11_isKnown wsX11_go := goodIn_r _ [10, 11, 12, 3, 13, 14, 15, 9, 16, 1, 17, 18, 19, 20, 21, 22, 23, 24, 25, 26, 27, 28, 29, 30, 31, 32, 33, 34, 35, 36, 37, 38, 39, 40, 41, 42, 43, 44, 45, 46, 47, 48, 49, 50, 51, 52, 53, 54, 55, 56, 57, 58, 59, 60, 61] (by decide +kernel) (by decide +kernel)
set_option maxRecDepth 20000 in
theorem gX11_isKnown_X11_go : GoodIn wsX11_isKnown (wsV RX11 123 RX11 yX11_go wsX11_go) := goodIn_app (goodIn_of _ (by decide +kernel)) ggX11_isKnown_X11_go
theorem dX11_isKnown_0 : decode cX11_isKnown 0 = .ok (.aload_n 0, 1) := by decide +kernel
theorem dX11_isKnown_1 : decode cX11_isKnown 1 = .ok (.getfield 91, 3) := by decide +kernel
theorem dX11_isKnown_4 : decode cX11_isKnown 4 = .ok (.istore_n 2, 1) := by decide +kernel
theorem dX11_isKnown_5 : decode cX11_isKnown 5 = .ok (.aload_n 0, 1) := by decide +kernel
theorem dX11_isKnown_6 : decode cX11_isKnown 6 = .ok (.iload_n 1, 1) := by decide +kernel
theorem dX11_isKnown_7 : decode cX11_isKnown 7 = .ok (.putfield 91, 3) := by decide +kernel
theorem dX11_isKnown_10 : decode cX11_isKnown 10 = .ok (.aload_n 0, 1) := by decide +kernel
theorem dX11_isKnown_11 : decode cX11_isKnown 11 = .ok (.invokevirtual 123, 3) := by decide +kernel
theorem dX11_isKnown_14 : decode cX11_isKnown 14 = .ok (.aload_n 0, 1) := by decide +kernel
theorem dX11_isKnown_15 : decode cX11_isKnown 15 = .ok (.iload_n 2, 1) := by decide +kernel
theorem dX11_isKnown_16 : decode cX11_isKnown 16 = .ok (.putfield 91, 3) := by decide +kernel
theorem dX11_isKnown_19 : decode cX11_isKnown 19 = .ok (.iconst 1, 1) := by decide +kernel
theorem dX11_isKnown_20 : decode cX11_isKnown 20 = .ok (.istore_n 3, 1) := by decide +kernel
theorem dX11_isKnown_21 : decode cX11_isKnown 21 = .ok (.iconst 0, 1) := by decide +kernel
theorem dX11_isKnown_22 : decode cX11_isKnown 22 = .ok (.istore 4, 2) := by decide +kernel
theorem dX11_isKnown_24 : decode cX11_isKnown 24 = .ok (.iload 4, 2) := by decide +kernel
theorem dX11_isKnown_26 : decode cX11_isKnown 26 = .ok (.aload_n 0, 1) := by decide +kernel
theorem dX11_isKnown_27 : decode cX11_isKnown 27 = .ok (.getfield 103, 3) := by decide +kernel
theorem dX11_isKnown_30 : decode cX11_isKnown 30 = .ok (.if_icmp .ge 41, 3) := by decide +kernel
theorem dX11_isKnown_33 : decode cX11_isKnown 33 = .ok (.iload_n 3, 1) := by decide +kernel
theorem dX11_isKnown_34 : decode cX11_isKnown 34 = .ok (.ifCond .eq 29, 3) := by decide +kernel
theorem dX11_isKnown_37 : decode cX11_isKnown 37 = .ok (.aload_n 0, 1) := by decide +kernel
theorem dX11_isKnown_38 : decode cX11_isKnown 38 = .ok (.getfield 29, 3) := by decide +kernel
theorem dX11_isKnown_41 : decode cX11_isKnown 41 = .ok (.aload_n 0, 1) := by decide +kernel
theorem dX11_isKnown_42 : decode cX11_isKnown 42 = .ok (.getfield 19, 3) := by decide +kernel
theorem dX11_isKnown_45 : decode cX11_isKnown 45 = .ok (.iload 4, 2) := by decide +kernel
theorem dX11_isKnown_47 : decode cX11_isKnown 47 = .ok (.iaload, 1) := by decide +kernel
theorem dX11_isKnown_48 : decode cX11_isKnown 48 = .ok (.iaload, 1) := by decide +kernel
theorem dX11_isKnown_49 : decode cX11_isKnown 49 = .ok (.aload_n 0, 1) := by decide +kernel
theorem dX11_isKnown_50 : decode cX11_isKnown 50 = .ok (.getfield 22, 3) := by decide +kernel
theorem dX11_isKnown_53 : decode cX11_isKnown 53 = .ok (.iload 4, 2) := by decide +kernel
theorem dX11_isKnown_55 : decode cX11_isKnown 55 = .ok (.iaload, 1) := by decide +kernel
theorem dX11_isKnown_56 : decode cX11_isKnown 56 = .ok (.if_icmp .ne 7, 3) := by decide +kernel
theorem dX11_isKnown_59 : decode cX11_isKnown 59 = .ok (.iconst 1, 1) := by decide +kernel
theorem dX11_isKnown_60 : decode cX11_isKnown 60 = .ok (.goto 4, 3) := by decide +kernel
theorem dX11_isKnown_63 : decode cX11_isKnown 63 = .ok (.iconst 0, 1) := by decide +kernel
theorem dX11_isKnown_64 : decode cX11_isKnown 64 = .ok (.istore_n 3, 1) := by decide +kernel
theorem dX11_isKnown_65 : decode cX11_isKnown 65 = .ok (.iinc 4 1, 3) := by decide +kernel
theorem dX11_isKnown_68 : decode cX11_isKnown 68 = .ok (.goto (-44), 3) := by decide +kernel
theorem dX11_isKnown_71 : decode cX11_isKnown 71 = .ok (.iload_n 3, 1) := by decide +kernel
theorem dX11_isKnown_72 : decode cX11_isKnown 72 = .ok (.ireturn, 1) := by decide +kernel
set_option maxRecDepth 20000 in
theorem ggX11_setsNow_X11_isKnown : GoodIn wsX11_setsNow wsX11_isKnown := goodIn_r _ [6, 7, 8, 9, 10, 11, 12, 13, 14, 5, 15, 1, 16, 17, 18, 19, 20, 21, 22, 23, 24, 25, 26, 27, 28, 29, 30, 31, 32, 33, 34, 35, 36, 37, 38, 39, 40, 41, 42, 43, 44, 45, 46, 47, 48, 49, 50, 51, 52, 53, 54, 55, 56, 57, 58, 59, 60, 61, 62, 63, 64, 65] (by decide +kernel) (by decide +kernel)
set_option maxRecDepth 20000 in
theorem gX11_setsNow_X11_isKnown : GoodIn wsX11_setsNow (wsV RX11 166 RX11 yX11_isKnown wsX11_isKnown) := goodIn_app (goodIn_of _ (by decide +kernel)) ggX11_setsNow_X11_isKnown
theorem dX11_setsNow_0 : decode cX11_setsNow 0 = .ok (.iconst 0, 1) := by decide +kernel
theorem dX11_setsNow_1 : decode cX11_setsNow 1 = .ok (.istore_n 2, 1) := by decide +kernel
theorem dX11_setsNow_2 : decode cX11_setsNow 2 = .ok (.iconst (-1), 1) := by decide +kernel
theorem dX11_setsNow_3 : decode cX11_setsNow 3 = .ok (.istore_n 3, 1) := by decide +kernel
theorem dX11_setsNow_4 : decode cX11_setsNow 4 = .ok (.iconst 1, 1) := by decide +kernel
theorem dX11_setsNow_5 : decode cX11_setsNow 5 = .ok (.aload_n 0, 1) := by decide +kernel
theorem dX11_setsNow_6 : decode cX11_setsNow 6 = .ok (.getfield 82, 3) := by decide +kernel
theorem dX11_setsNow_9 : decode cX11_setsNow 9 = .ok (.ishl, 1) := by decide +kernel
theorem dX11_setsNow_10 : decode cX11_setsNow 10 = .ok (.iconst 1, 1) := by decide +kernel
theorem dX11_setsNow_11 : decode cX11_setsNow 11 = .ok (.isub, 1) := by decide +kernel
theorem dX11_setsNow_12 : decode cX11_setsNow 12 = .ok (.istore 4, 2) := by decide +kernel
theorem dX11_setsNow_14 : decode cX11_setsNow 14 = .ok (.iload 4, 2) := by decide +kernel
theorem dX11_setsNow_16 : decode cX11_setsNow 16 = .ok (.ifCond .lt 42, 3) := by decide +kernel
theorem dX11_setsNow_19 : decode cX11_setsNow 19 = .ok (.aload_n 0, 1) := by decide +kernel
theorem dX11_setsNow_20 : decode cX11_setsNow 20 = .ok (.iload 4, 2) := by decide +kernel
theorem dX11_setsNow_22 : decode cX11_setsNow 22 = .ok (.invokevirtual 166, 3) := by decide +kernel
theorem dX11_setsNow_25 : decode cX11_setsNow 25 = .ok (.istore 5, 2) := by decide +kernel
theorem dX11_setsNow_27 : decode cX11_setsNow 27 = .ok (.iload_n 2, 1) := by decide +kernel
theorem dX11_setsNow_28 : decode cX11_setsNow 28 = .ok (.iload 5, 2) := by decide +kernel
theorem dX11_setsNow_30 : decode cX11_setsNow 30 = .ok (.ifCond .eq 7, 3) := by decide +kernel
theorem dX11_setsNow_33 : decode cX11_setsNow 33 = .ok (.iconst 1, 1) := by decide +kernel
theorem dX11_setsNow_34 : decode cX11_setsNow 34 = .ok (.goto 4, 3) := by decide +kernel
theorem dX11_setsNow_37 : decode cX11_setsNow 37 = .ok (.iconst 0, 1) := by decide +kernel
theorem dX11_setsNow_38 : decode cX11_setsNow 38 = .ok (.iadd, 1) := by decide +kernel
theorem dX11_setsNow_39 : decode cX11_setsNow 39 = .ok (.istore_n 2, 1) := by decide +kernel
theorem dX11_setsNow_40 : decode cX11_setsNow 40 = .ok (.iload 5, 2) := by decide +kernel
theorem dX11_setsNow_42 : decode cX11_setsNow 42 = .ok (.ifCond .eq 8, 3) := by decide +kernel
theorem dX11_setsNow_45 : decode cX11_setsNow 45 = .ok (.iload 4, 2) := by decide +kernel
theorem dX11_setsNow_47 : decode cX11_setsNow 47 = .ok (.goto 4, 3) := by decide +kernel
theorem dX11_setsNow_50 : decode cX11_setsNow 50 = .ok (.iload_n 3, 1) := by decide +kernel
theorem dX11_setsNow_51 : decode cX11_setsNow 51 = .ok (.istore_n 3, 1) := by decide +kernel
theorem dX11_setsNow_52 : decode cX11_setsNow 52 = .ok (.iinc 4 (-1), 3) := by decide +kernel
theorem dX11_setsNow_55 : decode cX11_setsNow 55 = .ok (.goto (-41), 3) := by decide +kernel
theorem dX11_setsNow_58 : decode cX11_setsNow 58 = .ok (.iload_n 1, 1) := by decide +kernel
theorem dX11_setsNow_59 : decode cX11_setsNow 59 = .ok (.ifCond .ne 7, 3) := by decide +kernel
theorem dX11_setsNow_62 : decode cX11_setsNow 62 = .ok (.iload_n 2, 1) := by decide +kernel
theorem dX11_setsNow_63 : decode cX11_setsNow 63 = .ok (.goto 4, 3) := by decide +kernel
theorem dX11_setsNow_66 : decode cX11_setsNow 66 = .ok (.iload_n 3, 1) := by decide +kernel
theorem dX11_setsNow_67 : decode cX11_setsNow 67 = .ok (.ireturn, 1) := by decide +kernel
set_option maxRecDepth 20000 in
theorem ggX11_sets_X11_within : GoodIn wsX11_sets wsX11_within := goodIn_r _ [5] (by decide +kernel) (by decide +kernel)
set_option maxRecDepth 20000 in
theorem gX11_sets_X11_within : GoodIn wsX11_sets (va_wsS RX11 56 yX11_within wsX11_within) := goodIn_app (goodIn_of _ (by decide +kernel)) ggX11_sets_X11_within
set_option maxRecDepth 20000 in
theorem ggX11_sets_X11_setsNow : GoodIn wsX11_sets wsX11_setsNow := goodIn_r _ [9, 1, 10, 11, 12, 4, 13, 14, 15, 16, 17, 18, 19, 20, 21, 22, 23, 24, 25, 26, 27, 28, 29, 30, 31, 32, 33, 34, 35, 36, 37, 38, 39, 40, 41, 42, 43, 44, 45, 46, 47, 48, 49, 50, 51, 52, 53, 54, 55, 56, 57, 58, 59, 60, 61, 62, 63, 64, 65, 66, 67, 68, 69, 70, 71, 72] (by decide +kernel) (by decide +kernel)
set_option maxRecDepth 20000 in
theorem gX11_sets_X11_setsNow : GoodIn wsX11_sets (wsV RX11 169 RX11 yX11_setsNow wsX11_setsNow) := goodIn_app (goodIn_of _ (by decide +kernel)) ggX11_sets_X11_setsNow
theorem dX11_sets_0 : decode cX11_sets 0 = .ok (.iload_n 1, 1) := by decide +kernel
theorem dX11_sets_1 : decode cX11_sets 1 = .ok (.iconst 0, 1) := by decide +kernel
theorem dX11_sets_2 : decode cX11_sets 2 = .ok (.iconst 1, 1) := by decide +kernel
theorem dX11_sets_3 : decode cX11_sets 3 = .ok (.invokestatic 56, 3) := by decide +kernel
theorem dX11_sets_6 : decode cX11_sets 6 = .ok (.ifCond .ne 6, 3) := by decide +kernel
theorem dX11_sets_9 : decode cX11_sets 9 = .ok (.bipush (-102), 2) := by decide +kernel
theorem dX11_sets_11 : decode cX11_sets 11 = .ok (.ireturn, 1) := by decide +kernel
theorem dX11_sets_12 : decode cX11_sets 12 = .ok (.aload_n 0, 1) := by decide +kernel
theorem dX11_sets_13 : decode cX11_sets 13 = .ok (.getfield 82, 3) := by decide +kernel
theorem dX11_sets_16 : decode cX11_sets 16 = .ok (.ifCond .ne 8, 3) := by decide +kernel
theorem dX11_sets_19 : decode cX11_sets 19 = .ok (.bipush (-103), 2) := by decide +kernel
theorem dX11_sets_21 : decode cX11_sets 21 = .ok (.goto 8, 3) := by decide +kernel
theorem dX11_sets_24 : decode cX11_sets 24 = .ok (.aload_n 0, 1) := by decide +kernel
theorem dX11_sets_25 : decode cX11_sets 25 = .ok (.iload_n 1, 1) := by decide +kernel
theorem dX11_sets_26 : decode cX11_sets 26 = .ok (.invokevirtual 169, 3) := by decide +kernel
theorem dX11_sets_29 : decode cX11_sets 29 = .ok (.ireturn, 1) := by decide +kernel
set_option maxRecDepth 20000 in
theorem ggX11_worstOf_X11_isKnown : GoodIn wsX11_worstOf wsX11_isKnown := goodIn_r _ [8, 9, 10, 3, 11, 12, 13, 14, 15, 7, 16, 2, 17, 18, 19, 20, 21, 22, 23, 24, 25, 26, 27, 28, 29, 30, 31, 32, 33, 34, 35, 36, 37, 38, 39, 40, 41, 42, 43, 44, 45, 46, 47, 48, 49, 50, 51, 52, 53, 54, 55, 56, 57, 58, 59, 60, 61, 62, 63, 64, 65, 66] (by decide +kernel) (by decide +kernel)
set_option maxRecDepth 20000 in
theorem gX11_worstOf_X11_isKnown : GoodIn wsX11_worstOf (wsV RX11 166 RX11 yX11_isKnown wsX11_isKnown) := goodIn_app (goodIn_of _ (by decide +kernel)) ggX11_worstOf_X11_isKnown
theorem dX11_worstOf_0 : decode cX11_worstOf 0 = .ok (.iconst 0, 1) := by decide +kernel
theorem dX11_worstOf_1 : decode cX11_worstOf 1 = .ok (.istore_n 2, 1) := by decide +kernel
theorem dX11_worstOf_2 : decode cX11_worstOf 2 = .ok (.iload_n 2, 1) := by decide +kernel
theorem dX11_worstOf_3 : decode cX11_worstOf 3 = .ok (.sipush 150, 3) := by decide +kernel
theorem dX11_worstOf_6 : decode cX11_worstOf 6 = .ok (.if_icmp .gt 16, 3) := by decide +kernel
theorem dX11_worstOf_9 : decode cX11_worstOf 9 = .ok (.aload_n 0, 1) := by decide +kernel
theorem dX11_worstOf_10 : decode cX11_worstOf 10 = .ok (.getfield 38, 3) := by decide +kernel
theorem dX11_worstOf_13 : decode cX11_worstOf 13 = .ok (.iload_n 2, 1) := by decide +kernel
theorem dX11_worstOf_14 : decode cX11_worstOf 14 = .ok (.iconst 0, 1) := by decide +kernel
theorem dX11_worstOf_15 : decode cX11_worstOf 15 = .ok (.iastore, 1) := by decide +kernel
theorem dX11_worstOf_16 : decode cX11_worstOf 16 = .ok (.iinc 2 1, 3) := by decide +kernel
theorem dX11_worstOf_19 : decode cX11_worstOf 19 = .ok (.goto (-17), 3) := by decide +kernel
theorem dX11_worstOf_22 : decode cX11_worstOf 22 = .ok (.iconst 0, 1) := by decide +kernel
theorem dX11_worstOf_23 : decode cX11_worstOf 23 = .ok (.istore_n 2, 1) := by decide +kernel
theorem dX11_worstOf_24 : decode cX11_worstOf 24 = .ok (.iconst 0, 1) := by decide +kernel
theorem dX11_worstOf_25 : decode cX11_worstOf 25 = .ok (.istore_n 3, 1) := by decide +kernel
theorem dX11_worstOf_26 : decode cX11_worstOf 26 = .ok (.iload_n 3, 1) := by decide +kernel
theorem dX11_worstOf_27 : decode cX11_worstOf 27 = .ok (.iconst 1, 1) := by decide +kernel
theorem dX11_worstOf_28 : decode cX11_worstOf 28 = .ok (.aload_n 0, 1) := by decide +kernel
theorem dX11_worstOf_29 : decode cX11_worstOf 29 = .ok (.getfield 82, 3) := by decide +kernel
theorem dX11_worstOf_32 : decode cX11_worstOf 32 = .ok (.ishl, 1) := by decide +kernel
theorem dX11_worstOf_33 : decode cX11_worstOf 33 = .ok (.if_icmp .ge 63, 3) := by decide +kernel
theorem dX11_worstOf_36 : decode cX11_worstOf 36 = .ok (.aload_n 0, 1) := by decide +kernel
theorem dX11_worstOf_37 : decode cX11_worstOf 37 = .ok (.iload_n 3, 1) := by decide +kernel
theorem dX11_worstOf_38 : decode cX11_worstOf 38 = .ok (.invokevirtual 166, 3) := by decide +kernel
theorem dX11_worstOf_41 : decode cX11_worstOf 41 = .ok (.ifCond .eq 49, 3) := by decide +kernel
theorem dX11_worstOf_44 : decode cX11_worstOf 44 = .ok (.aload_n 0, 1) := by decide +kernel
theorem dX11_worstOf_45 : decode cX11_worstOf 45 = .ok (.getfield 38, 3) := by decide +kernel
theorem dX11_worstOf_48 : decode cX11_worstOf 48 = .ok (.aload_n 0, 1) := by decide +kernel
theorem dX11_worstOf_49 : decode cX11_worstOf 49 = .ok (.getfield 29, 3) := by decide +kernel
theorem dX11_worstOf_52 : decode cX11_worstOf 52 = .ok (.iload_n 1, 1) := by decide +kernel
theorem dX11_worstOf_53 : decode cX11_worstOf 53 = .ok (.iaload, 1) := by decide +kernel
theorem dX11_worstOf_54 : decode cX11_worstOf 54 = .ok (.dup2, 1) := by decide +kernel
theorem dX11_worstOf_55 : decode cX11_worstOf 55 = .ok (.iaload, 1) := by decide +kernel
theorem dX11_worstOf_56 : decode cX11_worstOf 56 = .ok (.iconst 1, 1) := by decide +kernel
theorem dX11_worstOf_57 : decode cX11_worstOf 57 = .ok (.iadd, 1) := by decide +kernel
theorem dX11_worstOf_58 : decode cX11_worstOf 58 = .ok (.iastore, 1) := by decide +kernel
theorem dX11_worstOf_59 : decode cX11_worstOf 59 = .ok (.aload_n 0, 1) := by decide +kernel
theorem dX11_worstOf_60 : decode cX11_worstOf 60 = .ok (.getfield 38, 3) := by decide +kernel
theorem dX11_worstOf_63 : decode cX11_worstOf 63 = .ok (.aload_n 0, 1) := by decide +kernel
theorem dX11_worstOf_64 : decode cX11_worstOf 64 = .ok (.getfield 29, 3) := by decide +kernel
theorem dX11_worstOf_67 : decode cX11_worstOf 67 = .ok (.iload_n 1, 1) := by decide +kernel
theorem dX11_worstOf_68 : decode cX11_worstOf 68 = .ok (.iaload, 1) := by decide +kernel
theorem dX11_worstOf_69 : decode cX11_worstOf 69 = .ok (.iaload, 1) := by decide +kernel
theorem dX11_worstOf_70 : decode cX11_worstOf 70 = .ok (.iload_n 2, 1) := by decide +kernel
theorem dX11_worstOf_71 : decode cX11_worstOf 71 = .ok (.if_icmp .le 17, 3) := by decide +kernel
theorem dX11_worstOf_74 : decode cX11_worstOf 74 = .ok (.aload_n 0, 1) := by decide +kernel
theorem dX11_worstOf_75 : decode cX11_worstOf 75 = .ok (.getfield 38, 3) := by decide +kernel
theorem dX11_worstOf_78 : decode cX11_worstOf 78 = .ok (.aload_n 0, 1) := by decide +kernel
theorem dX11_worstOf_79 : decode cX11_worstOf 79 = .ok (.getfield 29, 3) := by decide +kernel
theorem dX11_worstOf_82 : decode cX11_worstOf 82 = .ok (.iload_n 1, 1) := by decide +kernel
theorem dX11_worstOf_83 : decode cX11_worstOf 83 = .ok (.iaload, 1) := by decide +kernel
theorem dX11_worstOf_84 : decode cX11_worstOf 84 = .ok (.iaload, 1) := by decide +kernel
theorem dX11_worstOf_85 : decode cX11_worstOf 85 = .ok (.goto 4, 3) := by decide +kernel
theorem dX11_worstOf_88 : decode cX11_worstOf 88 = .ok (.iload_n 2, 1) := by decide +kernel
theorem dX11_worstOf_89 : decode cX11_worstOf 89 = .ok (.istore_n 2, 1) := by decide +kernel
theorem dX11_worstOf_90 : decode cX11_worstOf 90 = .ok (.iinc 3 1, 3) := by decide +kernel
theorem dX11_worstOf_93 : decode cX11_worstOf 93 = .ok (.goto (-67), 3) := by decide +kernel
theorem dX11_worstOf_96 : decode cX11_worstOf 96 = .ok (.iload_n 2, 1) := by decide +kernel
theorem dX11_worstOf_97 : decode cX11_worstOf 97 = .ok (.ireturn, 1) := by decide +kernel
set_option maxRecDepth 20000 in
theorem ggX11_askNow_X11_setsNow : GoodIn wsX11_askNow wsX11_setsNow := goodIn_r _ [7, 2, 8, 9, 10, 6, 11, 12, 13, 14, 15, 16, 17, 18, 19, 20, 21, 22, 23, 24, 25, 26, 27, 28, 29, 30, 31, 32, 33, 34, 40, 41, 42, 43, 44, 45, 46, 47, 48, 49, 50, 51, 52, 53, 54, 55, 56, 57, 58, 59, 60, 61, 62, 63, 64, 65, 66, 67, 68, 69, 70, 71, 72, 73, 74, 75] (by decide +kernel) (by decide +kernel)
set_option maxRecDepth 20000 in
theorem gX11_askNow_X11_setsNow : GoodIn wsX11_askNow (wsV RX11 169 RX11 yX11_setsNow wsX11_setsNow) := goodIn_app (goodIn_of _ (by decide +kernel)) ggX11_askNow_X11_setsNow
set_option maxRecDepth 20000 in
theorem ggX11_askNow_X11_worstOf : GoodIn wsX11_askNow wsX11_worstOf := goodIn_r _ [38, 39, 2, 14, 8, 9, 10, 6, 11, 12, 13, 15, 16, 17, 18, 19, 20, 21, 22, 23, 24, 25, 26, 27, 28, 29, 30, 31, 32, 33, 34, 40, 41, 42, 43, 44, 45, 46, 47, 48, 49, 50, 51, 52, 53, 54, 55, 56, 57, 58, 59, 60, 61, 62, 63, 64, 65, 66, 67, 68, 69, 70, 71, 72, 73, 74, 75] (by decide +kernel) (by decide +kernel)
set_option maxRecDepth 20000 in
theorem gX11_askNow_X11_worstOf : GoodIn wsX11_askNow (wsV RX11 172 RX11 yX11_worstOf wsX11_worstOf) := goodIn_app (goodIn_of _ (by decide +kernel)) ggX11_askNow_X11_worstOf
theorem dX11_askNow_0 : decode cX11_askNow 0 = .ok (.iconst (-1), 1) := by decide +kernel
theorem dX11_askNow_1 : decode cX11_askNow 1 = .ok (.istore_n 1, 1) := by decide +kernel
theorem dX11_askNow_2 : decode cX11_askNow 2 = .ok (.aload_n 0, 1) := by decide +kernel
theorem dX11_askNow_3 : decode cX11_askNow 3 = .ok (.iconst 0, 1) := by decide +kernel
theorem dX11_askNow_4 : decode cX11_askNow 4 = .ok (.invokevirtual 169, 3) := by decide +kernel
theorem dX11_askNow_7 : decode cX11_askNow 7 = .ok (.ifCond .ne 7, 3) := by decide +kernel
theorem dX11_askNow_10 : decode cX11_askNow 10 = .ok (.iconst 0, 1) := by decide +kernel
theorem dX11_askNow_11 : decode cX11_askNow 11 = .ok (.goto 5, 3) := by decide +kernel
theorem dX11_askNow_14 : decode cX11_askNow 14 = .ok (.ldc 155, 2) := by decide +kernel
theorem dX11_askNow_16 : decode cX11_askNow 16 = .ok (.istore_n 2, 1) := by decide +kernel
theorem dX11_askNow_17 : decode cX11_askNow 17 = .ok (.iconst 0, 1) := by decide +kernel
theorem dX11_askNow_18 : decode cX11_askNow 18 = .ok (.istore_n 3, 1) := by decide +kernel
theorem dX11_askNow_19 : decode cX11_askNow 19 = .ok (.iload_n 3, 1) := by decide +kernel
theorem dX11_askNow_20 : decode cX11_askNow 20 = .ok (.aload_n 0, 1) := by decide +kernel
theorem dX11_askNow_21 : decode cX11_askNow 21 = .ok (.getfield 82, 3) := by decide +kernel
theorem dX11_askNow_24 : decode cX11_askNow 24 = .ok (.if_icmp .ge 41, 3) := by decide +kernel
theorem dX11_askNow_27 : decode cX11_askNow 27 = .ok (.aload_n 0, 1) := by decide +kernel
theorem dX11_askNow_28 : decode cX11_askNow 28 = .ok (.iload_n 3, 1) := by decide +kernel
theorem dX11_askNow_29 : decode cX11_askNow 29 = .ok (.invokevirtual 172, 3) := by decide +kernel
theorem dX11_askNow_32 : decode cX11_askNow 32 = .ok (.istore 4, 2) := by decide +kernel
theorem dX11_askNow_34 : decode cX11_askNow 34 = .ok (.iload 4, 2) := by decide +kernel
theorem dX11_askNow_36 : decode cX11_askNow 36 = .ok (.iload_n 2, 1) := by decide +kernel
theorem dX11_askNow_37 : decode cX11_askNow 37 = .ok (.if_icmp .ge 7, 3) := by decide +kernel
theorem dX11_askNow_40 : decode cX11_askNow 40 = .ok (.iload_n 3, 1) := by decide +kernel
theorem dX11_askNow_41 : decode cX11_askNow 41 = .ok (.goto 4, 3) := by decide +kernel
theorem dX11_askNow_44 : decode cX11_askNow 44 = .ok (.iload_n 1, 1) := by decide +kernel
theorem dX11_askNow_45 : decode cX11_askNow 45 = .ok (.istore_n 1, 1) := by decide +kernel
theorem dX11_askNow_46 : decode cX11_askNow 46 = .ok (.iload 4, 2) := by decide +kernel
theorem dX11_askNow_48 : decode cX11_askNow 48 = .ok (.iload_n 2, 1) := by decide +kernel
theorem dX11_askNow_49 : decode cX11_askNow 49 = .ok (.if_icmp .ge 8, 3) := by decide +kernel
theorem dX11_askNow_52 : decode cX11_askNow 52 = .ok (.iload 4, 2) := by decide +kernel
theorem dX11_askNow_54 : decode cX11_askNow 54 = .ok (.goto 4, 3) := by decide +kernel
theorem dX11_askNow_57 : decode cX11_askNow 57 = .ok (.iload_n 2, 1) := by decide +kernel
theorem dX11_askNow_58 : decode cX11_askNow 58 = .ok (.istore_n 2, 1) := by decide +kernel
theorem dX11_askNow_59 : decode cX11_askNow 59 = .ok (.iinc 3 1, 3) := by decide +kernel
theorem dX11_askNow_62 : decode cX11_askNow 62 = .ok (.goto (-43), 3) := by decide +kernel
theorem dX11_askNow_65 : decode cX11_askNow 65 = .ok (.iload_n 1, 1) := by decide +kernel
theorem dX11_askNow_66 : decode cX11_askNow 66 = .ok (.ireturn, 1) := by decide +kernel
set_option maxRecDepth 20000 in
theorem ggX11_ask_X11_askNow : GoodIn wsX11_ask wsX11_askNow := goodIn_r _ [6, 7, 1, 8, 9, 10, 5, 11, 12, 13, 14, 15, 16, 17, 18, 19, 20, 21, 22, 23, 24, 25, 26, 27, 28, 29, 30, 31, 32, 33, 34, 35, 36, 37, 38, 39, 40, 41, 42, 43, 44, 45, 46, 47, 48, 49, 50, 51, 52, 53, 54, 55, 56, 57, 58, 59, 60, 61, 62, 63, 64, 65, 66, 67, 68, 69, 70, 71, 72, 73, 74, 75, 76, 77, 78, 79] (by decide +kernel) (by decide +kernel)
set_option maxRecDepth 20000 in
theorem gX11_ask_X11_askNow : GoodIn wsX11_ask (wsV RX11 175 RX11 yX11_askNow wsX11_askNow) := goodIn_app (goodIn_of _ (by decide +kernel)) ggX11_ask_X11_askNow
theorem dX11_ask_0 : decode cX11_ask 0 = .ok (.aload_n 0, 1) := by decide +kernel
theorem dX11_ask_1 : decode cX11_ask 1 = .ok (.getfield 82, 3) := by decide +kernel
theorem dX11_ask_4 : decode cX11_ask 4 = .ok (.ifCond .ne 8, 3) := by decide +kernel
theorem dX11_ask_7 : decode cX11_ask 7 = .ok (.bipush (-103), 2) := by decide +kernel
theorem dX11_ask_9 : decode cX11_ask 9 = .ok (.goto 7, 3) := by decide +kernel
theorem dX11_ask_12 : decode cX11_ask 12 = .ok (.aload_n 0, 1) := by decide +kernel
theorem dX11_ask_13 : decode cX11_ask 13 = .ok (.invokevirtual 175, 3) := by decide +kernel
theorem dX11_ask_16 : decode cX11_ask 16 = .ok (.ireturn, 1) := by decide +kernel
theorem dX11_draw_0 : decode cX11_draw 0 = .ok (.aload_n 0, 1) := by decide +kernel
theorem dX11_draw_1 : decode cX11_draw 1 = .ok (.ldc2_w 178, 3) := by decide +kernel
theorem dX11_draw_4 : decode cX11_draw 4 = .ok (.aload_n 0, 1) := by decide +kernel
theorem dX11_draw_5 : decode cX11_draw 5 = .ok (.getfield 180, 3) := by decide +kernel
theorem dX11_draw_8 : decode cX11_draw 8 = .ok (.lmul, 1) := by decide +kernel
theorem dX11_draw_9 : decode cX11_draw 9 = .ok (.ldc2_w 184, 3) := by decide +kernel
theorem dX11_draw_12 : decode cX11_draw 12 = .ok (.ladd, 1) := by decide +kernel
theorem dX11_draw_13 : decode cX11_draw 13 = .ok (.ldc2_w 186, 3) := by decide +kernel
theorem dX11_draw_16 : decode cX11_draw 16 = .ok (.land, 1) := by decide +kernel
theorem dX11_draw_17 : decode cX11_draw 17 = .ok (.putfield 180, 3) := by decide +kernel
theorem dX11_draw_20 : decode cX11_draw 20 = .ok (.aload_n 0, 1) := by decide +kernel
theorem dX11_draw_21 : decode cX11_draw 21 = .ok (.getfield 180, 3) := by decide +kernel
theorem dX11_draw_24 : decode cX11_draw 24 = .ok (.ldc2_w 188, 3) := by decide +kernel
theorem dX11_draw_27 : decode cX11_draw 27 = .ok (.ldiv, 1) := by decide +kernel
theorem dX11_draw_28 : decode cX11_draw 28 = .ok (.iload_n 1, 1) := by decide +kernel
theorem dX11_draw_29 : decode cX11_draw 29 = .ok (.i2l, 1) := by decide +kernel
theorem dX11_draw_30 : decode cX11_draw 30 = .ok (.lrem, 1) := by decide +kernel
theorem dX11_draw_31 : decode cX11_draw 31 = .ok (.l2i, 1) := by decide +kernel
theorem dX11_draw_32 : decode cX11_draw 32 = .ok (.ireturn, 1) := by decide +kernel
set_option maxRecDepth 20000 in
theorem ggX11_weeksNow_X11_draw : GoodIn wsX11_weeksNow wsX11_draw := goodIn_r _ [9, 10, 3, 11, 12, 13, 61, 62, 63, 64, 65, 66, 67, 68, 69, 70, 71, 72, 73, 74, 75, 76, 77, 78, 79, 80, 81, 82, 83, 84, 85, 86, 87, 88, 89, 90, 91, 92, 93, 94, 95, 96] (by decide +kernel) (by decide +kernel)
set_option maxRecDepth 20000 in
theorem gX11_weeksNow_X11_draw : GoodIn wsX11_weeksNow (wsV RX11 190 RX11 yX11_draw wsX11_draw) := goodIn_app (goodIn_of _ (by decide +kernel)) ggX11_weeksNow_X11_draw
set_option maxRecDepth 20000 in
theorem ggX11_weeksNow_X11_sourNow : GoodIn wsX11_weeksNow wsX11_sourNow := goodIn_r _ [17, 4, 18, 19, 20, 8, 21, 22, 23, 24, 25, 26, 27, 28, 29, 30, 31, 32, 33, 34, 35, 2, 36, 37, 38, 39, 40, 41, 61, 62, 63, 64, 65, 66, 67, 68, 69, 70, 71, 72, 73, 74, 75, 76, 77, 78, 79, 80, 81, 82, 83, 84, 85, 86, 87, 88, 89, 90, 91, 92, 93, 94, 95, 96] (by decide +kernel) (by decide +kernel)
set_option maxRecDepth 20000 in
theorem gX11_weeksNow_X11_sourNow : GoodIn wsX11_weeksNow (wsV RX11 132 RX11 yX11_sourNow wsX11_sourNow) := goodIn_app (goodIn_of _ (by decide +kernel)) ggX11_weeksNow_X11_sourNow
set_option maxRecDepth 20000 in
theorem ggX11_weeksNow_X11_hearNow : GoodIn wsX11_weeksNow wsX11_hearNow := goodIn_r _ [45, 4, 18, 19, 20, 8, 21, 22, 23, 24, 25, 26, 27, 28, 29, 30, 31, 32, 33, 34, 35, 2, 36, 46, 47, 48, 49, 50, 51, 52, 53, 54, 55, 56, 57, 58, 59, 60, 61, 62, 63, 64, 65, 66, 67, 68, 69, 70, 71, 72, 73, 74, 75, 76, 77, 78, 79, 80, 81, 82, 83, 84, 85, 86, 87, 88, 89, 90, 91, 92, 93, 94, 95, 96] (by decide +kernel) (by decide +kernel)
set_option maxRecDepth 20000 in
theorem gX11_weeksNow_X11_hearNow : GoodIn wsX11_weeksNow (wsV RX11 135 RX11 yX11_hearNow wsX11_hearNow) := goodIn_app (goodIn_of _ (by decide +kernel)) ggX11_weeksNow_X11_hearNow
theorem dX11_weeksNow_0 : decode cX11_weeksNow 0 = .ok (.iconst 0, 1) := by decide +kernel
theorem dX11_weeksNow_1 : decode cX11_weeksNow 1 = .ok (.istore 4, 2) := by decide +kernel
theorem dX11_weeksNow_3 : decode cX11_weeksNow 3 = .ok (.iload 4, 2) := by decide +kernel
theorem dX11_weeksNow_5 : decode cX11_weeksNow 5 = .ok (.bipush 6, 2) := by decide +kernel
theorem dX11_weeksNow_7 : decode cX11_weeksNow 7 = .ok (.if_icmp .ge 23, 3) := by decide +kernel
theorem dX11_weeksNow_10 : decode cX11_weeksNow 10 = .ok (.aload_n 0, 1) := by decide +kernel
theorem dX11_weeksNow_11 : decode cX11_weeksNow 11 = .ok (.getfield 41, 3) := by decide +kernel
theorem dX11_weeksNow_14 : decode cX11_weeksNow 14 = .ok (.iload 4, 2) := by decide +kernel
theorem dX11_weeksNow_16 : decode cX11_weeksNow 16 = .ok (.aload_n 0, 1) := by decide +kernel
theorem dX11_weeksNow_17 : decode cX11_weeksNow 17 = .ok (.getfield 13, 3) := by decide +kernel
theorem dX11_weeksNow_20 : decode cX11_weeksNow 20 = .ok (.iload 4, 2) := by decide +kernel
theorem dX11_weeksNow_22 : decode cX11_weeksNow 22 = .ok (.iaload, 1) := by decide +kernel
theorem dX11_weeksNow_23 : decode cX11_weeksNow 23 = .ok (.iastore, 1) := by decide +kernel
theorem dX11_weeksNow_24 : decode cX11_weeksNow 24 = .ok (.iinc 4 1, 3) := by decide +kernel
theorem dX11_weeksNow_27 : decode cX11_weeksNow 27 = .ok (.goto (-24), 3) := by decide +kernel
theorem dX11_weeksNow_30 : decode cX11_weeksNow 30 = .ok (.aload_n 0, 1) := by decide +kernel
theorem dX11_weeksNow_31 : decode cX11_weeksNow 31 = .ok (.iload_n 2, 1) := by decide +kernel
theorem dX11_weeksNow_32 : decode cX11_weeksNow 32 = .ok (.i2l, 1) := by decide +kernel
theorem dX11_weeksNow_33 : decode cX11_weeksNow 33 = .ok (.putfield 180, 3) := by decide +kernel
theorem dX11_weeksNow_36 : decode cX11_weeksNow 36 = .ok (.iconst 0, 1) := by decide +kernel
theorem dX11_weeksNow_37 : decode cX11_weeksNow 37 = .ok (.istore 4, 2) := by decide +kernel
theorem dX11_weeksNow_39 : decode cX11_weeksNow 39 = .ok (.iconst 0, 1) := by decide +kernel
theorem dX11_weeksNow_40 : decode cX11_weeksNow 40 = .ok (.istore 5, 2) := by decide +kernel
theorem dX11_weeksNow_42 : decode cX11_weeksNow 42 = .ok (.iconst 0, 1) := by decide +kernel
theorem dX11_weeksNow_43 : decode cX11_weeksNow 43 = .ok (.istore 6, 2) := by decide +kernel
theorem dX11_weeksNow_45 : decode cX11_weeksNow 45 = .ok (.iload 6, 2) := by decide +kernel
theorem dX11_weeksNow_47 : decode cX11_weeksNow 47 = .ok (.iload_n 1, 1) := by decide +kernel
theorem dX11_weeksNow_48 : decode cX11_weeksNow 48 = .ok (.if_icmp .ge 58, 3) := by decide +kernel
theorem dX11_weeksNow_51 : decode cX11_weeksNow 51 = .ok (.iconst 0, 1) := by decide +kernel
theorem dX11_weeksNow_52 : decode cX11_weeksNow 52 = .ok (.istore 7, 2) := by decide +kernel
theorem dX11_weeksNow_54 : decode cX11_weeksNow 54 = .ok (.iload 7, 2) := by decide +kernel
theorem dX11_weeksNow_56 : decode cX11_weeksNow 56 = .ok (.aload_n 0, 1) := by decide +kernel
theorem dX11_weeksNow_57 : decode cX11_weeksNow 57 = .ok (.getfield 82, 3) := by decide +kernel
theorem dX11_weeksNow_60 : decode cX11_weeksNow 60 = .ok (.if_icmp .ge 22, 3) := by decide +kernel
theorem dX11_weeksNow_63 : decode cX11_weeksNow 63 = .ok (.aload_n 0, 1) := by decide +kernel
theorem dX11_weeksNow_64 : decode cX11_weeksNow 64 = .ok (.getfield 13, 3) := by decide +kernel
theorem dX11_weeksNow_67 : decode cX11_weeksNow 67 = .ok (.iload 7, 2) := by decide +kernel
theorem dX11_weeksNow_69 : decode cX11_weeksNow 69 = .ok (.aload_n 0, 1) := by decide +kernel
theorem dX11_weeksNow_70 : decode cX11_weeksNow 70 = .ok (.bipush 10, 2) := by decide +kernel
theorem dX11_weeksNow_72 : decode cX11_weeksNow 72 = .ok (.invokevirtual 190, 3) := by decide +kernel
theorem dX11_weeksNow_75 : decode cX11_weeksNow 75 = .ok (.iastore, 1) := by decide +kernel
theorem dX11_weeksNow_76 : decode cX11_weeksNow 76 = .ok (.iinc 7 1, 3) := by decide +kernel
theorem dX11_weeksNow_79 : decode cX11_weeksNow 79 = .ok (.goto (-25), 3) := by decide +kernel
theorem dX11_weeksNow_82 : decode cX11_weeksNow 82 = .ok (.iload 4, 2) := by decide +kernel
theorem dX11_weeksNow_84 : decode cX11_weeksNow 84 = .ok (.aload_n 0, 1) := by decide +kernel
theorem dX11_weeksNow_85 : decode cX11_weeksNow 85 = .ok (.invokevirtual 132, 3) := by decide +kernel
theorem dX11_weeksNow_88 : decode cX11_weeksNow 88 = .ok (.iadd, 1) := by decide +kernel
theorem dX11_weeksNow_89 : decode cX11_weeksNow 89 = .ok (.istore 4, 2) := by decide +kernel
theorem dX11_weeksNow_91 : decode cX11_weeksNow 91 = .ok (.iload 5, 2) := by decide +kernel
theorem dX11_weeksNow_93 : decode cX11_weeksNow 93 = .ok (.aload_n 0, 1) := by decide +kernel
theorem dX11_weeksNow_94 : decode cX11_weeksNow 94 = .ok (.invokevirtual 135, 3) := by decide +kernel
theorem dX11_weeksNow_97 : decode cX11_weeksNow 97 = .ok (.iadd, 1) := by decide +kernel
theorem dX11_weeksNow_98 : decode cX11_weeksNow 98 = .ok (.istore 5, 2) := by decide +kernel
theorem dX11_weeksNow_100 : decode cX11_weeksNow 100 = .ok (.iinc 6 1, 3) := by decide +kernel
theorem dX11_weeksNow_103 : decode cX11_weeksNow 103 = .ok (.goto (-58), 3) := by decide +kernel
theorem dX11_weeksNow_106 : decode cX11_weeksNow 106 = .ok (.iconst 0, 1) := by decide +kernel
theorem dX11_weeksNow_107 : decode cX11_weeksNow 107 = .ok (.istore 6, 2) := by decide +kernel
theorem dX11_weeksNow_109 : decode cX11_weeksNow 109 = .ok (.iload 6, 2) := by decide +kernel
theorem dX11_weeksNow_111 : decode cX11_weeksNow 111 = .ok (.bipush 6, 2) := by decide +kernel
theorem dX11_weeksNow_113 : decode cX11_weeksNow 113 = .ok (.if_icmp .ge 23, 3) := by decide +kernel
theorem dX11_weeksNow_116 : decode cX11_weeksNow 116 = .ok (.aload_n 0, 1) := by decide +kernel
theorem dX11_weeksNow_117 : decode cX11_weeksNow 117 = .ok (.getfield 13, 3) := by decide +kernel
theorem dX11_weeksNow_120 : decode cX11_weeksNow 120 = .ok (.iload 6, 2) := by decide +kernel
theorem dX11_weeksNow_122 : decode cX11_weeksNow 122 = .ok (.aload_n 0, 1) := by decide +kernel
theorem dX11_weeksNow_123 : decode cX11_weeksNow 123 = .ok (.getfield 41, 3) := by decide +kernel
theorem dX11_weeksNow_126 : decode cX11_weeksNow 126 = .ok (.iload 6, 2) := by decide +kernel
theorem dX11_weeksNow_128 : decode cX11_weeksNow 128 = .ok (.iaload, 1) := by decide +kernel
theorem dX11_weeksNow_129 : decode cX11_weeksNow 129 = .ok (.iastore, 1) := by decide +kernel
theorem dX11_weeksNow_130 : decode cX11_weeksNow 130 = .ok (.iinc 6 1, 3) := by decide +kernel
theorem dX11_weeksNow_133 : decode cX11_weeksNow 133 = .ok (.goto (-24), 3) := by decide +kernel
theorem dX11_weeksNow_136 : decode cX11_weeksNow 136 = .ok (.iload_n 3, 1) := by decide +kernel
theorem dX11_weeksNow_137 : decode cX11_weeksNow 137 = .ok (.ifCond .ne 8, 3) := by decide +kernel
theorem dX11_weeksNow_140 : decode cX11_weeksNow 140 = .ok (.iload 4, 2) := by decide +kernel
theorem dX11_weeksNow_142 : decode cX11_weeksNow 142 = .ok (.goto 18, 3) := by decide +kernel
theorem dX11_weeksNow_145 : decode cX11_weeksNow 145 = .ok (.iload_n 3, 1) := by decide +kernel
theorem dX11_weeksNow_146 : decode cX11_weeksNow 146 = .ok (.iconst 1, 1) := by decide +kernel
theorem dX11_weeksNow_147 : decode cX11_weeksNow 147 = .ok (.if_icmp .ne 8, 3) := by decide +kernel
theorem dX11_weeksNow_150 : decode cX11_weeksNow 150 = .ok (.iload 5, 2) := by decide +kernel
theorem dX11_weeksNow_152 : decode cX11_weeksNow 152 = .ok (.goto 8, 3) := by decide +kernel
theorem dX11_weeksNow_155 : decode cX11_weeksNow 155 = .ok (.aload_n 0, 1) := by decide +kernel
theorem dX11_weeksNow_156 : decode cX11_weeksNow 156 = .ok (.getfield 180, 3) := by decide +kernel
theorem dX11_weeksNow_159 : decode cX11_weeksNow 159 = .ok (.l2i, 1) := by decide +kernel
theorem dX11_weeksNow_160 : decode cX11_weeksNow 160 = .ok (.ireturn, 1) := by decide +kernel
set_option maxRecDepth 20000 in
theorem ggX11_weeks_X11_within : GoodIn wsX11_weeks wsX11_within := goodIn_r _ [5] (by decide +kernel) (by decide +kernel)
set_option maxRecDepth 20000 in
theorem gX11_weeks_X11_within : GoodIn wsX11_weeks (va_wsS RX11 56 yX11_within wsX11_within) := goodIn_app (goodIn_of _ (by decide +kernel)) ggX11_weeks_X11_within
set_option maxRecDepth 20000 in
theorem ggX11_weeks_X11_weeksNow : GoodIn wsX11_weeks wsX11_weeksNow := goodIn_r _ [9, 10, 11, 12, 1, 13, 14, 15, 4, 16, 17, 18, 19, 20, 21, 22, 23, 24, 25, 26, 27, 28, 29, 30, 31, 32, 33, 34, 35, 36, 37, 38, 39, 40, 41, 42, 43, 44, 45, 46, 47, 48, 49, 50, 51, 52, 53, 54, 55, 56, 57, 58, 59, 60, 61, 62, 63, 64, 2, 3, 5, 65, 66, 67, 68, 69, 70, 71, 72, 73, 74, 75, 76, 77, 78, 79, 80, 81, 82, 83, 84, 85, 86, 87, 88, 89, 90, 91, 92, 93, 94, 95, 96, 97, 98, 99, 100] (by decide +kernel) (by decide +kernel)
set_option maxRecDepth 20000 in
theorem gX11_weeks_X11_weeksNow : GoodIn wsX11_weeks (wsV RX11 193 RX11 yX11_weeksNow wsX11_weeksNow) := goodIn_app (goodIn_of _ (by decide +kernel)) ggX11_weeks_X11_weeksNow
theorem dX11_weeks_0 : decode cX11_weeks 0 = .ok (.iload_n 1, 1) := by decide +kernel
theorem dX11_weeks_1 : decode cX11_weeks 1 = .ok (.iconst 1, 1) := by decide +kernel
theorem dX11_weeks_2 : decode cX11_weeks 2 = .ok (.bipush 60, 2) := by decide +kernel
theorem dX11_weeks_4 : decode cX11_weeks 4 = .ok (.invokestatic 56, 3) := by decide +kernel
theorem dX11_weeks_7 : decode cX11_weeks 7 = .ok (.ifCond .eq 16, 3) := by decide +kernel
theorem dX11_weeks_10 : decode cX11_weeks 10 = .ok (.iload_n 2, 1) := by decide +kernel
theorem dX11_weeks_11 : decode cX11_weeks 11 = .ok (.ifCond .lt 12, 3) := by decide +kernel
theorem dX11_weeks_14 : decode cX11_weeks 14 = .ok (.iload_n 3, 1) := by decide +kernel
theorem dX11_weeks_15 : decode cX11_weeks 15 = .ok (.iconst 0, 1) := by decide +kernel
theorem dX11_weeks_16 : decode cX11_weeks 16 = .ok (.iconst 2, 1) := by decide +kernel
theorem dX11_weeks_17 : decode cX11_weeks 17 = .ok (.invokestatic 56, 3) := by decide +kernel
theorem dX11_weeks_20 : decode cX11_weeks 20 = .ok (.ifCond .ne 6, 3) := by decide +kernel
theorem dX11_weeks_23 : decode cX11_weeks 23 = .ok (.bipush (-102), 2) := by decide +kernel
theorem dX11_weeks_25 : decode cX11_weeks 25 = .ok (.ireturn, 1) := by decide +kernel
theorem dX11_weeks_26 : decode cX11_weeks 26 = .ok (.aload_n 0, 1) := by decide +kernel
theorem dX11_weeks_27 : decode cX11_weeks 27 = .ok (.getfield 82, 3) := by decide +kernel
theorem dX11_weeks_30 : decode cX11_weeks 30 = .ok (.ifCond .ne 8, 3) := by decide +kernel
theorem dX11_weeks_33 : decode cX11_weeks 33 = .ok (.bipush (-103), 2) := by decide +kernel
theorem dX11_weeks_35 : decode cX11_weeks 35 = .ok (.goto 10, 3) := by decide +kernel
theorem dX11_weeks_38 : decode cX11_weeks 38 = .ok (.aload_n 0, 1) := by decide +kernel
theorem dX11_weeks_39 : decode cX11_weeks 39 = .ok (.iload_n 1, 1) := by decide +kernel
theorem dX11_weeks_40 : decode cX11_weeks 40 = .ok (.iload_n 2, 1) := by decide +kernel
theorem dX11_weeks_41 : decode cX11_weeks 41 = .ok (.iload_n 3, 1) := by decide +kernel
theorem dX11_weeks_42 : decode cX11_weeks 42 = .ok (.invokevirtual 193, 3) := by decide +kernel
theorem dX11_weeks_45 : decode cX11_weeks 45 = .ok (.ireturn, 1) := by decide +kernel
theorem dX11_image_0 : decode cX11_image 0 = .ok (.aload_n 0, 1) := by decide +kernel
theorem dX11_image_1 : decode cX11_image 1 = .ok (.getfield 82, 3) := by decide +kernel
theorem dX11_image_4 : decode cX11_image 4 = .ok (.ifCond .ne 6, 3) := by decide +kernel
theorem dX11_image_7 : decode cX11_image 7 = .ok (.bipush (-103), 2) := by decide +kernel
theorem dX11_image_9 : decode cX11_image 9 = .ok (.ireturn, 1) := by decide +kernel
theorem dX11_image_10 : decode cX11_image 10 = .ok (.aload_n 0, 1) := by decide +kernel
theorem dX11_image_11 : decode cX11_image 11 = .ok (.iconst 1, 1) := by decide +kernel
theorem dX11_image_12 : decode cX11_image 12 = .ok (.putfield 197, 3) := by decide +kernel
theorem dX11_image_15 : decode cX11_image 15 = .ok (.aload_n 0, 1) := by decide +kernel
theorem dX11_image_16 : decode cX11_image 16 = .ok (.aload_n 0, 1) := by decide +kernel
theorem dX11_image_17 : decode cX11_image 17 = .ok (.getfield 88, 3) := by decide +kernel
theorem dX11_image_20 : decode cX11_image 20 = .ok (.putfield 200, 3) := by decide +kernel
theorem dX11_image_23 : decode cX11_image 23 = .ok (.aload_n 0, 1) := by decide +kernel
theorem dX11_image_24 : decode cX11_image 24 = .ok (.aload_n 0, 1) := by decide +kernel
theorem dX11_image_25 : decode cX11_image 25 = .ok (.getfield 91, 3) := by decide +kernel
theorem dX11_image_28 : decode cX11_image 28 = .ok (.putfield 203, 3) := by decide +kernel
theorem dX11_image_31 : decode cX11_image 31 = .ok (.aload_n 0, 1) := by decide +kernel
theorem dX11_image_32 : decode cX11_image 32 = .ok (.aload_n 0, 1) := by decide +kernel
theorem dX11_image_33 : decode cX11_image 33 = .ok (.getfield 94, 3) := by decide +kernel
theorem dX11_image_36 : decode cX11_image 36 = .ok (.putfield 206, 3) := by decide +kernel
theorem dX11_image_39 : decode cX11_image 39 = .ok (.aload_n 0, 1) := by decide +kernel
theorem dX11_image_40 : decode cX11_image 40 = .ok (.aload_n 0, 1) := by decide +kernel
theorem dX11_image_41 : decode cX11_image 41 = .ok (.getfield 97, 3) := by decide +kernel
theorem dX11_image_44 : decode cX11_image 44 = .ok (.putfield 209, 3) := by decide +kernel
theorem dX11_image_47 : decode cX11_image 47 = .ok (.aload_n 0, 1) := by decide +kernel
theorem dX11_image_48 : decode cX11_image 48 = .ok (.aload_n 0, 1) := by decide +kernel
theorem dX11_image_49 : decode cX11_image 49 = .ok (.getfield 100, 3) := by decide +kernel
theorem dX11_image_52 : decode cX11_image 52 = .ok (.putfield 212, 3) := by decide +kernel
theorem dX11_image_55 : decode cX11_image 55 = .ok (.aload_n 0, 1) := by decide +kernel
theorem dX11_image_56 : decode cX11_image 56 = .ok (.aload_n 0, 1) := by decide +kernel
theorem dX11_image_57 : decode cX11_image 57 = .ok (.getfield 103, 3) := by decide +kernel
theorem dX11_image_60 : decode cX11_image 60 = .ok (.putfield 215, 3) := by decide +kernel
theorem dX11_image_63 : decode cX11_image 63 = .ok (.iconst 0, 1) := by decide +kernel
theorem dX11_image_64 : decode cX11_image 64 = .ok (.istore_n 1, 1) := by decide +kernel
theorem dX11_image_65 : decode cX11_image 65 = .ok (.iload_n 1, 1) := by decide +kernel
theorem dX11_image_66 : decode cX11_image 66 = .ok (.bipush 6, 2) := by decide +kernel
theorem dX11_image_68 : decode cX11_image 68 = .ok (.if_icmp .ge 57, 3) := by decide +kernel
theorem dX11_image_71 : decode cX11_image 71 = .ok (.aload_n 0, 1) := by decide +kernel
theorem dX11_image_72 : decode cX11_image 72 = .ok (.getfield 44, 3) := by decide +kernel
theorem dX11_image_75 : decode cX11_image 75 = .ok (.iload_n 1, 1) := by decide +kernel
theorem dX11_image_76 : decode cX11_image 76 = .ok (.aload_n 0, 1) := by decide +kernel
theorem dX11_image_77 : decode cX11_image 77 = .ok (.getfield 13, 3) := by decide +kernel
theorem dX11_image_80 : decode cX11_image 80 = .ok (.iload_n 1, 1) := by decide +kernel
theorem dX11_image_81 : decode cX11_image 81 = .ok (.iaload, 1) := by decide +kernel
theorem dX11_image_82 : decode cX11_image 82 = .ok (.iastore, 1) := by decide +kernel
theorem dX11_image_83 : decode cX11_image 83 = .ok (.aload_n 0, 1) := by decide +kernel
theorem dX11_image_84 : decode cX11_image 84 = .ok (.getfield 47, 3) := by decide +kernel
theorem dX11_image_87 : decode cX11_image 87 = .ok (.iload_n 1, 1) := by decide +kernel
theorem dX11_image_88 : decode cX11_image 88 = .ok (.aload_n 0, 1) := by decide +kernel
theorem dX11_image_89 : decode cX11_image 89 = .ok (.getfield 16, 3) := by decide +kernel
theorem dX11_image_92 : decode cX11_image 92 = .ok (.iload_n 1, 1) := by decide +kernel
theorem dX11_image_93 : decode cX11_image 93 = .ok (.iaload, 1) := by decide +kernel
theorem dX11_image_94 : decode cX11_image 94 = .ok (.iastore, 1) := by decide +kernel
theorem dX11_image_95 : decode cX11_image 95 = .ok (.aload_n 0, 1) := by decide +kernel
theorem dX11_image_96 : decode cX11_image 96 = .ok (.getfield 50, 3) := by decide +kernel
theorem dX11_image_99 : decode cX11_image 99 = .ok (.iload_n 1, 1) := by decide +kernel
theorem dX11_image_100 : decode cX11_image 100 = .ok (.aload_n 0, 1) := by decide +kernel
theorem dX11_image_101 : decode cX11_image 101 = .ok (.getfield 19, 3) := by decide +kernel
theorem dX11_image_104 : decode cX11_image 104 = .ok (.iload_n 1, 1) := by decide +kernel
theorem dX11_image_105 : decode cX11_image 105 = .ok (.iaload, 1) := by decide +kernel
theorem dX11_image_106 : decode cX11_image 106 = .ok (.iastore, 1) := by decide +kernel
theorem dX11_image_107 : decode cX11_image 107 = .ok (.aload_n 0, 1) := by decide +kernel
theorem dX11_image_108 : decode cX11_image 108 = .ok (.getfield 53, 3) := by decide +kernel
theorem dX11_image_111 : decode cX11_image 111 = .ok (.iload_n 1, 1) := by decide +kernel
theorem dX11_image_112 : decode cX11_image 112 = .ok (.aload_n 0, 1) := by decide +kernel
theorem dX11_image_113 : decode cX11_image 113 = .ok (.getfield 22, 3) := by decide +kernel
theorem dX11_image_116 : decode cX11_image 116 = .ok (.iload_n 1, 1) := by decide +kernel
theorem dX11_image_117 : decode cX11_image 117 = .ok (.iaload, 1) := by decide +kernel
theorem dX11_image_118 : decode cX11_image 118 = .ok (.iastore, 1) := by decide +kernel
theorem dX11_image_119 : decode cX11_image 119 = .ok (.iinc 1 1, 3) := by decide +kernel
theorem dX11_image_122 : decode cX11_image 122 = .ok (.goto (-57), 3) := by decide +kernel
theorem dX11_image_125 : decode cX11_image 125 = .ok (.aload_n 0, 1) := by decide +kernel
theorem dX11_image_126 : decode cX11_image 126 = .ok (.getfield 94, 3) := by decide +kernel
theorem dX11_image_129 : decode cX11_image 129 = .ok (.ireturn, 1) := by decide +kernel
theorem dX11_restore_0 : decode cX11_restore 0 = .ok (.aload_n 0, 1) := by decide +kernel
theorem dX11_restore_1 : decode cX11_restore 1 = .ok (.getfield 197, 3) := by decide +kernel
theorem dX11_restore_4 : decode cX11_restore 4 = .ok (.ifCond .eq 14, 3) := by decide +kernel
theorem dX11_restore_7 : decode cX11_restore 7 = .ok (.aload_n 0, 1) := by decide +kernel
theorem dX11_restore_8 : decode cX11_restore 8 = .ok (.getfield 200, 3) := by decide +kernel
theorem dX11_restore_11 : decode cX11_restore 11 = .ok (.aload_n 0, 1) := by decide +kernel
theorem dX11_restore_12 : decode cX11_restore 12 = .ok (.getfield 88, 3) := by decide +kernel
theorem dX11_restore_15 : decode cX11_restore 15 = .ok (.if_icmp .eq 6, 3) := by decide +kernel
theorem dX11_restore_18 : decode cX11_restore 18 = .ok (.bipush (-103), 2) := by decide +kernel
theorem dX11_restore_20 : decode cX11_restore 20 = .ok (.ireturn, 1) := by decide +kernel
theorem dX11_restore_21 : decode cX11_restore 21 = .ok (.aload_n 0, 1) := by decide +kernel
theorem dX11_restore_22 : decode cX11_restore 22 = .ok (.aload_n 0, 1) := by decide +kernel
theorem dX11_restore_23 : decode cX11_restore 23 = .ok (.getfield 203, 3) := by decide +kernel
theorem dX11_restore_26 : decode cX11_restore 26 = .ok (.putfield 91, 3) := by decide +kernel
theorem dX11_restore_29 : decode cX11_restore 29 = .ok (.aload_n 0, 1) := by decide +kernel
theorem dX11_restore_30 : decode cX11_restore 30 = .ok (.aload_n 0, 1) := by decide +kernel
theorem dX11_restore_31 : decode cX11_restore 31 = .ok (.getfield 206, 3) := by decide +kernel
theorem dX11_restore_34 : decode cX11_restore 34 = .ok (.putfield 94, 3) := by decide +kernel
theorem dX11_restore_37 : decode cX11_restore 37 = .ok (.aload_n 0, 1) := by decide +kernel
theorem dX11_restore_38 : decode cX11_restore 38 = .ok (.aload_n 0, 1) := by decide +kernel
theorem dX11_restore_39 : decode cX11_restore 39 = .ok (.getfield 209, 3) := by decide +kernel
theorem dX11_restore_42 : decode cX11_restore 42 = .ok (.putfield 97, 3) := by decide +kernel
theorem dX11_restore_45 : decode cX11_restore 45 = .ok (.aload_n 0, 1) := by decide +kernel
theorem dX11_restore_46 : decode cX11_restore 46 = .ok (.aload_n 0, 1) := by decide +kernel
theorem dX11_restore_47 : decode cX11_restore 47 = .ok (.getfield 212, 3) := by decide +kernel
theorem dX11_restore_50 : decode cX11_restore 50 = .ok (.putfield 100, 3) := by decide +kernel
theorem dX11_restore_53 : decode cX11_restore 53 = .ok (.aload_n 0, 1) := by decide +kernel
theorem dX11_restore_54 : decode cX11_restore 54 = .ok (.aload_n 0, 1) := by decide +kernel
theorem dX11_restore_55 : decode cX11_restore 55 = .ok (.getfield 215, 3) := by decide +kernel
theorem dX11_restore_58 : decode cX11_restore 58 = .ok (.putfield 103, 3) := by decide +kernel
theorem dX11_restore_61 : decode cX11_restore 61 = .ok (.iconst 0, 1) := by decide +kernel
theorem dX11_restore_62 : decode cX11_restore 62 = .ok (.istore_n 1, 1) := by decide +kernel
theorem dX11_restore_63 : decode cX11_restore 63 = .ok (.iload_n 1, 1) := by decide +kernel
theorem dX11_restore_64 : decode cX11_restore 64 = .ok (.bipush 6, 2) := by decide +kernel
theorem dX11_restore_66 : decode cX11_restore 66 = .ok (.if_icmp .ge 57, 3) := by decide +kernel
theorem dX11_restore_69 : decode cX11_restore 69 = .ok (.aload_n 0, 1) := by decide +kernel
theorem dX11_restore_70 : decode cX11_restore 70 = .ok (.getfield 13, 3) := by decide +kernel
theorem dX11_restore_73 : decode cX11_restore 73 = .ok (.iload_n 1, 1) := by decide +kernel
theorem dX11_restore_74 : decode cX11_restore 74 = .ok (.aload_n 0, 1) := by decide +kernel
theorem dX11_restore_75 : decode cX11_restore 75 = .ok (.getfield 44, 3) := by decide +kernel
theorem dX11_restore_78 : decode cX11_restore 78 = .ok (.iload_n 1, 1) := by decide +kernel
theorem dX11_restore_79 : decode cX11_restore 79 = .ok (.iaload, 1) := by decide +kernel
theorem dX11_restore_80 : decode cX11_restore 80 = .ok (.iastore, 1) := by decide +kernel
theorem dX11_restore_81 : decode cX11_restore 81 = .ok (.aload_n 0, 1) := by decide +kernel
theorem dX11_restore_82 : decode cX11_restore 82 = .ok (.getfield 16, 3) := by decide +kernel
theorem dX11_restore_85 : decode cX11_restore 85 = .ok (.iload_n 1, 1) := by decide +kernel
theorem dX11_restore_86 : decode cX11_restore 86 = .ok (.aload_n 0, 1) := by decide +kernel
theorem dX11_restore_87 : decode cX11_restore 87 = .ok (.getfield 47, 3) := by decide +kernel
theorem dX11_restore_90 : decode cX11_restore 90 = .ok (.iload_n 1, 1) := by decide +kernel
theorem dX11_restore_91 : decode cX11_restore 91 = .ok (.iaload, 1) := by decide +kernel
theorem dX11_restore_92 : decode cX11_restore 92 = .ok (.iastore, 1) := by decide +kernel
theorem dX11_restore_93 : decode cX11_restore 93 = .ok (.aload_n 0, 1) := by decide +kernel
theorem dX11_restore_94 : decode cX11_restore 94 = .ok (.getfield 19, 3) := by decide +kernel
theorem dX11_restore_97 : decode cX11_restore 97 = .ok (.iload_n 1, 1) := by decide +kernel
theorem dX11_restore_98 : decode cX11_restore 98 = .ok (.aload_n 0, 1) := by decide +kernel
theorem dX11_restore_99 : decode cX11_restore 99 = .ok (.getfield 50, 3) := by decide +kernel
theorem dX11_restore_102 : decode cX11_restore 102 = .ok (.iload_n 1, 1) := by decide +kernel
theorem dX11_restore_103 : decode cX11_restore 103 = .ok (.iaload, 1) := by decide +kernel
theorem dX11_restore_104 : decode cX11_restore 104 = .ok (.iastore, 1) := by decide +kernel
theorem dX11_restore_105 : decode cX11_restore 105 = .ok (.aload_n 0, 1) := by decide +kernel
theorem dX11_restore_106 : decode cX11_restore 106 = .ok (.getfield 22, 3) := by decide +kernel
theorem dX11_restore_109 : decode cX11_restore 109 = .ok (.iload_n 1, 1) := by decide +kernel
theorem dX11_restore_110 : decode cX11_restore 110 = .ok (.aload_n 0, 1) := by decide +kernel
theorem dX11_restore_111 : decode cX11_restore 111 = .ok (.getfield 53, 3) := by decide +kernel
theorem dX11_restore_114 : decode cX11_restore 114 = .ok (.iload_n 1, 1) := by decide +kernel
theorem dX11_restore_115 : decode cX11_restore 115 = .ok (.iaload, 1) := by decide +kernel
theorem dX11_restore_116 : decode cX11_restore 116 = .ok (.iastore, 1) := by decide +kernel
theorem dX11_restore_117 : decode cX11_restore 117 = .ok (.iinc 1 1, 3) := by decide +kernel
theorem dX11_restore_120 : decode cX11_restore 120 = .ok (.goto (-57), 3) := by decide +kernel
theorem dX11_restore_123 : decode cX11_restore 123 = .ok (.aload_n 0, 1) := by decide +kernel
theorem dX11_restore_124 : decode cX11_restore 124 = .ok (.getfield 94, 3) := by decide +kernel
theorem dX11_restore_127 : decode cX11_restore 127 = .ok (.ireturn, 1) := by decide +kernel
set_option maxRecDepth 20000 in
theorem ggX11_wayAll_X11_reads : GoodIn wsX11_wayAll wsX11_reads := goodIn_r _ [6, 7, 8, 9, 5, 10, 11, 12, 13, 14, 15, 16, 17, 18, 19, 20, 21, 22, 23, 24, 25, 26, 27, 28, 29, 30, 31, 32, 33, 34, 35, 36, 37, 38, 39, 40, 41, 42, 43, 44, 45, 46, 47, 48, 49, 50, 51, 52] (by decide +kernel) (by decide +kernel)
set_option maxRecDepth 20000 in
theorem gX11_wayAll_X11_reads : GoodIn wsX11_wayAll (wsV RX11 113 RX11 yX11_reads wsX11_reads) := goodIn_app (goodIn_of _ (by decide +kernel)) ggX11_wayAll_X11_reads
theorem dX11_wayAll_0 : decode cX11_wayAll 0 = .ok (.iconst 0, 1) := by decide +kernel
theorem dX11_wayAll_1 : decode cX11_wayAll 1 = .ok (.istore_n 1, 1) := by decide +kernel
theorem dX11_wayAll_2 : decode cX11_wayAll 2 = .ok (.iconst 0, 1) := by decide +kernel
theorem dX11_wayAll_3 : decode cX11_wayAll 3 = .ok (.istore_n 2, 1) := by decide +kernel
theorem dX11_wayAll_4 : decode cX11_wayAll 4 = .ok (.iload_n 2, 1) := by decide +kernel
theorem dX11_wayAll_5 : decode cX11_wayAll 5 = .ok (.aload_n 0, 1) := by decide +kernel
theorem dX11_wayAll_6 : decode cX11_wayAll 6 = .ok (.getfield 82, 3) := by decide +kernel
theorem dX11_wayAll_9 : decode cX11_wayAll 9 = .ok (.if_icmp .ge 19, 3) := by decide +kernel
theorem dX11_wayAll_12 : decode cX11_wayAll 12 = .ok (.iload_n 1, 1) := by decide +kernel
theorem dX11_wayAll_13 : decode cX11_wayAll 13 = .ok (.iconst 1, 1) := by decide +kernel
theorem dX11_wayAll_14 : decode cX11_wayAll 14 = .ok (.aload_n 0, 1) := by decide +kernel
theorem dX11_wayAll_15 : decode cX11_wayAll 15 = .ok (.iload_n 2, 1) := by decide +kernel
theorem dX11_wayAll_16 : decode cX11_wayAll 16 = .ok (.invokevirtual 113, 3) := by decide +kernel
theorem dX11_wayAll_19 : decode cX11_wayAll 19 = .ok (.iadd, 1) := by decide +kernel
theorem dX11_wayAll_20 : decode cX11_wayAll 20 = .ok (.iadd, 1) := by decide +kernel
theorem dX11_wayAll_21 : decode cX11_wayAll 21 = .ok (.istore_n 1, 1) := by decide +kernel
theorem dX11_wayAll_22 : decode cX11_wayAll 22 = .ok (.iinc 2 1, 3) := by decide +kernel
theorem dX11_wayAll_25 : decode cX11_wayAll 25 = .ok (.goto (-21), 3) := by decide +kernel
theorem dX11_wayAll_28 : decode cX11_wayAll 28 = .ok (.iload_n 1, 1) := by decide +kernel
theorem dX11_wayAll_29 : decode cX11_wayAll 29 = .ok (.ireturn, 1) := by decide +kernel
set_option maxRecDepth 20000 in
theorem ggX11_howMany_X11_sourNow : GoodIn wsX11_howMany wsX11_sourNow := goodIn_r _ [14, 1, 15, 16, 17, 13, 18, 19, 20, 21, 22, 23, 24, 25, 26, 27, 28, 29, 30, 31, 32, 33, 34, 35, 36, 37, 38, 2, 62, 63, 64, 65, 66, 67, 68, 69, 70, 71, 72, 73, 74, 75, 76, 77, 78, 79, 80, 81, 82, 83, 84, 85, 86, 87, 88, 89, 90, 91, 92, 93, 94, 95, 96, 97] (by decide +kernel) (by decide +kernel)
set_option maxRecDepth 20000 in
theorem gX11_howMany_X11_sourNow : GoodIn wsX11_howMany (wsV RX11 132 RX11 yX11_sourNow wsX11_sourNow) := goodIn_app (goodIn_of _ (by decide +kernel)) ggX11_howMany_X11_sourNow
set_option maxRecDepth 20000 in
theorem ggX11_howMany_X11_hearNow : GoodIn wsX11_howMany wsX11_hearNow := goodIn_r _ [42, 1, 15, 16, 17, 13, 18, 19, 20, 21, 22, 23, 24, 25, 26, 27, 28, 29, 30, 31, 32, 33, 34, 43, 44, 45, 46, 47, 48, 49, 50, 51, 52, 53, 54, 55, 56, 57, 62, 63, 64, 65, 66, 67, 68, 69, 70, 71, 72, 73, 74, 75, 76, 77, 78, 79, 80, 81, 82, 83, 84, 85, 86, 87, 88, 89, 90, 91, 92, 93, 94, 95, 96, 97] (by decide +kernel) (by decide +kernel)
set_option maxRecDepth 20000 in
theorem gX11_howMany_X11_hearNow : GoodIn wsX11_howMany (wsV RX11 135 RX11 yX11_hearNow wsX11_hearNow) := goodIn_app (goodIn_of _ (by decide +kernel)) ggX11_howMany_X11_hearNow
set_option maxRecDepth 20000 in
theorem ggX11_howMany_X11_wayAll : GoodIn wsX11_howMany wsX11_wayAll := goodIn_r _ [61, 1, 21, 22, 23, 13, 24, 25, 26, 27, 28, 29, 30, 31, 32, 33, 34, 62, 63, 64, 65, 66, 67, 68, 69, 70, 71, 72, 73, 74, 75, 76, 77, 78, 79, 80, 81, 82, 83, 84, 85, 86, 87, 88, 89, 90, 91, 92, 93, 94, 95, 96, 97] (by decide +kernel) (by decide +kernel)
set_option maxRecDepth 20000 in
theorem gX11_howMany_X11_wayAll : GoodIn wsX11_howMany (wsV RX11 218 RX11 yX11_wayAll wsX11_wayAll) := goodIn_app (goodIn_of _ (by decide +kernel)) ggX11_howMany_X11_wayAll
theorem dX11_howMany_0 : decode cX11_howMany 0 = .ok (.iload_n 1, 1) := by decide +kernel
theorem dX11_howMany_1 : decode cX11_howMany 1 = .ok (.tableswitch 123 0 11 #[63, 68, 73, 78, 83, 88, 93, 98, 103, 108, 113, 118], 63) := by decide +kernel
theorem dX11_howMany_64 : decode cX11_howMany 64 = .ok (.aload_n 0, 1) := by decide +kernel
theorem dX11_howMany_65 : decode cX11_howMany 65 = .ok (.getfield 82, 3) := by decide +kernel
theorem dX11_howMany_68 : decode cX11_howMany 68 = .ok (.ireturn, 1) := by decide +kernel
theorem dX11_howMany_69 : decode cX11_howMany 69 = .ok (.aload_n 0, 1) := by decide +kernel
theorem dX11_howMany_70 : decode cX11_howMany 70 = .ok (.getfield 85, 3) := by decide +kernel
theorem dX11_howMany_73 : decode cX11_howMany 73 = .ok (.ireturn, 1) := by decide +kernel
theorem dX11_howMany_74 : decode cX11_howMany 74 = .ok (.aload_n 0, 1) := by decide +kernel
theorem dX11_howMany_75 : decode cX11_howMany 75 = .ok (.getfield 94, 3) := by decide +kernel
theorem dX11_howMany_78 : decode cX11_howMany 78 = .ok (.ireturn, 1) := by decide +kernel
theorem dX11_howMany_79 : decode cX11_howMany 79 = .ok (.aload_n 0, 1) := by decide +kernel
theorem dX11_howMany_80 : decode cX11_howMany 80 = .ok (.getfield 97, 3) := by decide +kernel
theorem dX11_howMany_83 : decode cX11_howMany 83 = .ok (.ireturn, 1) := by decide +kernel
theorem dX11_howMany_84 : decode cX11_howMany 84 = .ok (.aload_n 0, 1) := by decide +kernel
theorem dX11_howMany_85 : decode cX11_howMany 85 = .ok (.getfield 100, 3) := by decide +kernel
theorem dX11_howMany_88 : decode cX11_howMany 88 = .ok (.ireturn, 1) := by decide +kernel
theorem dX11_howMany_89 : decode cX11_howMany 89 = .ok (.aload_n 0, 1) := by decide +kernel
theorem dX11_howMany_90 : decode cX11_howMany 90 = .ok (.invokevirtual 132, 3) := by decide +kernel
theorem dX11_howMany_93 : decode cX11_howMany 93 = .ok (.ireturn, 1) := by decide +kernel
theorem dX11_howMany_94 : decode cX11_howMany 94 = .ok (.aload_n 0, 1) := by decide +kernel
theorem dX11_howMany_95 : decode cX11_howMany 95 = .ok (.invokevirtual 135, 3) := by decide +kernel
theorem dX11_howMany_98 : decode cX11_howMany 98 = .ok (.ireturn, 1) := by decide +kernel
theorem dX11_howMany_99 : decode cX11_howMany 99 = .ok (.aload_n 0, 1) := by decide +kernel
theorem dX11_howMany_100 : decode cX11_howMany 100 = .ok (.invokevirtual 218, 3) := by decide +kernel
theorem dX11_howMany_103 : decode cX11_howMany 103 = .ok (.ireturn, 1) := by decide +kernel
theorem dX11_howMany_104 : decode cX11_howMany 104 = .ok (.aload_n 0, 1) := by decide +kernel
theorem dX11_howMany_105 : decode cX11_howMany 105 = .ok (.getfield 103, 3) := by decide +kernel
theorem dX11_howMany_108 : decode cX11_howMany 108 = .ok (.ireturn, 1) := by decide +kernel
theorem dX11_howMany_109 : decode cX11_howMany 109 = .ok (.aload_n 0, 1) := by decide +kernel
theorem dX11_howMany_110 : decode cX11_howMany 110 = .ok (.getfield 60, 3) := by decide +kernel
theorem dX11_howMany_113 : decode cX11_howMany 113 = .ok (.ireturn, 1) := by decide +kernel
theorem dX11_howMany_114 : decode cX11_howMany 114 = .ok (.aload_n 0, 1) := by decide +kernel
theorem dX11_howMany_115 : decode cX11_howMany 115 = .ok (.getfield 88, 3) := by decide +kernel
theorem dX11_howMany_118 : decode cX11_howMany 118 = .ok (.ireturn, 1) := by decide +kernel
theorem dX11_howMany_119 : decode cX11_howMany 119 = .ok (.aload_n 0, 1) := by decide +kernel
theorem dX11_howMany_120 : decode cX11_howMany 120 = .ok (.getfield 160, 3) := by decide +kernel
theorem dX11_howMany_123 : decode cX11_howMany 123 = .ok (.ireturn, 1) := by decide +kernel
theorem dX11_howMany_124 : decode cX11_howMany 124 = .ok (.bipush (-102), 2) := by decide +kernel
theorem dX11_howMany_126 : decode cX11_howMany 126 = .ok (.ireturn, 1) := by decide +kernel
set_option maxRecDepth 20000 in
theorem ggX11_count_X11_howMany : GoodIn wsX11_count wsX11_howMany := goodIn_r _ [5, 6, 7, 8, 9, 10, 11, 12, 13, 14, 15, 16, 17, 4, 18, 19, 20, 21, 22, 23, 24, 25, 26, 27, 28, 29, 30, 31, 32, 33, 34, 35, 36, 37, 38, 39, 40, 41, 42, 43, 44, 45, 46, 47, 48, 49, 50, 51, 52, 53, 54, 55, 56, 57, 58, 59, 60, 61, 62, 63, 64, 65, 66, 67, 68, 69, 70, 71, 72, 73, 74, 75, 76, 77, 78, 79, 80, 81, 82, 83, 84, 85, 86, 87, 88, 89, 90, 91, 92, 93, 94, 95, 96, 97, 98, 99, 100, 101] (by decide +kernel) (by decide +kernel)
set_option maxRecDepth 20000 in
theorem gX11_count_X11_howMany : GoodIn wsX11_count (wsV RX11 221 RX11 yX11_howMany wsX11_howMany) := goodIn_app (goodIn_of _ (by decide +kernel)) ggX11_count_X11_howMany
theorem dX11_count_0 : decode cX11_count 0 = .ok (.aload_n 0, 1) := by decide +kernel
theorem dX11_count_1 : decode cX11_count 1 = .ok (.iload_n 1, 1) := by decide +kernel
theorem dX11_count_2 : decode cX11_count 2 = .ok (.invokevirtual 221, 3) := by decide +kernel
theorem dX11_count_5 : decode cX11_count 5 = .ok (.ireturn, 1) := by decide +kernel
theorem dX11_mix_0 : decode cX11_mix 0 = .ok (.aload_n 0, 1) := by decide +kernel
theorem dX11_mix_1 : decode cX11_mix 1 = .ok (.ldc2_w 224, 3) := by decide +kernel
theorem dX11_mix_4 : decode cX11_mix 4 = .ok (.aload_n 0, 1) := by decide +kernel
theorem dX11_mix_5 : decode cX11_mix 5 = .ok (.getfield 226, 3) := by decide +kernel
theorem dX11_mix_8 : decode cX11_mix 8 = .ok (.lmul, 1) := by decide +kernel
theorem dX11_mix_9 : decode cX11_mix 9 = .ok (.lload_n 1, 1) := by decide +kernel
theorem dX11_mix_10 : decode cX11_mix 10 = .ok (.ladd, 1) := by decide +kernel
theorem dX11_mix_11 : decode cX11_mix 11 = .ok (.putfield 226, 3) := by decide +kernel
theorem dX11_mix_14 : decode cX11_mix 14 = .ok (.return_, 1) := by decide +kernel
set_option maxRecDepth 20000 in
theorem ggX11_digest_X11_houseNow : GoodIn wsX11_digest wsX11_houseNow := goodIn_r _ [10, 11, 12, 13, 14, 15, 16, 17, 9, 18, 3, 19, 20, 21, 22, 23, 24, 25, 26, 27, 28, 29, 30, 31, 32, 33, 34, 35, 36, 37, 38, 39, 40, 41, 42, 43, 44, 45, 46, 47, 48, 49, 50, 51, 52, 53, 54, 55, 56, 57, 58, 59, 60, 61, 62, 63, 64, 65, 66, 67, 68, 69, 70, 110, 111, 112, 113, 114, 115, 116, 117, 118, 119, 120, 121, 122, 123, 124, 125, 126, 127, 128, 129, 130, 131, 132, 133, 134, 135, 136, 137, 138, 139, 140, 141, 142, 143, 144, 145] (by decide +kernel) (by decide +kernel)
set_option maxRecDepth 20000 in
theorem gX11_digest_X11_houseNow : GoodIn wsX11_digest (wsV RX11 147 RX11 yX11_houseNow wsX11_houseNow) := goodIn_app (goodIn_of _ (by decide +kernel)) ggX11_digest_X11_houseNow
set_option maxRecDepth 20000 in
theorem ggX11_digest_X11_mix : GoodIn wsX11_digest wsX11_mix := goodIn_r _ [74, 75, 2, 110, 111, 112, 113, 114, 115, 116, 117, 118, 119, 120, 121, 122, 123, 124, 125, 126, 127, 128, 129, 130, 131, 132, 133, 134, 135, 136, 137, 138, 139, 140, 141, 142, 143, 144, 145] (by decide +kernel) (by decide +kernel)
set_option maxRecDepth 20000 in
theorem gX11_digest_X11_mix : GoodIn wsX11_digest (wsV RX11 231 RX11 yX11_mix wsX11_mix) := goodIn_app (goodIn_of _ (by decide +kernel)) ggX11_digest_X11_mix
set_option maxRecDepth 20000 in
theorem ggX11_digest_X11_setsNow : GoodIn wsX11_digest wsX11_setsNow := goodIn_r _ [79, 3, 80, 81, 82, 9, 83, 13, 84, 14, 85, 86, 15, 16, 17, 18, 19, 20, 21, 22, 23, 24, 25, 26, 27, 28, 29, 30, 12, 11, 110, 111, 112, 113, 114, 115, 116, 117, 118, 119, 120, 121, 122, 123, 124, 125, 126, 127, 128, 129, 130, 131, 132, 133, 134, 135, 136, 137, 138, 139, 140, 141, 142, 143, 144, 145] (by decide +kernel) (by decide +kernel)
set_option maxRecDepth 20000 in
theorem gX11_digest_X11_setsNow : GoodIn wsX11_digest (wsV RX11 169 RX11 yX11_setsNow wsX11_setsNow) := goodIn_app (goodIn_of _ (by decide +kernel)) ggX11_digest_X11_setsNow
set_option maxRecDepth 20000 in
theorem ggX11_digest_X11_askNow : GoodIn wsX11_digest wsX11_askNow := goodIn_r _ [90, 91, 3, 76, 77, 78, 9, 79, 80, 81, 82, 83, 13, 84, 14, 85, 86, 15, 16, 17, 18, 19, 20, 21, 22, 23, 24, 25, 26, 27, 28, 29, 30, 12, 11, 92, 93, 94, 95, 96, 110, 111, 112, 113, 114, 115, 116, 117, 118, 119, 120, 121, 122, 123, 124, 125, 126, 127, 128, 129, 130, 131, 132, 133, 134, 135, 136, 137, 138, 139, 140, 141, 142, 143, 144, 145] (by decide +kernel) (by decide +kernel)
set_option maxRecDepth 20000 in
theorem gX11_digest_X11_askNow : GoodIn wsX11_digest (wsV RX11 175 RX11 yX11_askNow wsX11_askNow) := goodIn_app (goodIn_of _ (by decide +kernel)) ggX11_digest_X11_askNow
set_option maxRecDepth 20000 in
theorem ggX11_digest_X11_howMany : GoodIn wsX11_digest wsX11_howMany := goodIn_r _ [100, 3, 39, 101, 102, 103, 84, 4, 104, 105, 63, 64, 65, 9, 66, 15, 16, 17, 18, 19, 14, 20, 21, 22, 23, 13, 24, 25, 26, 27, 28, 29, 30, 12, 11, 35, 36, 37, 38, 67, 68, 69, 70, 40, 41, 42, 43, 44, 45, 46, 47, 48, 49, 50, 51, 52, 53, 54, 106, 107, 108, 109, 110, 111, 112, 113, 114, 115, 116, 117, 118, 119, 120, 121, 122, 123, 124, 125, 126, 127, 128, 129, 130, 131, 132, 133, 134, 135, 136, 137, 138, 139, 140, 141, 142, 143, 144, 145] (by decide +kernel) (by decide +kernel)
set_option maxRecDepth 20000 in
theorem gX11_digest_X11_howMany : GoodIn wsX11_digest (wsV RX11 221 RX11 yX11_howMany wsX11_howMany) := goodIn_app (goodIn_of _ (by decide +kernel)) ggX11_digest_X11_howMany
theorem dX11_digest_0 : decode cX11_digest 0 = .ok (.aload_n 0, 1) := by decide +kernel
theorem dX11_digest_1 : decode cX11_digest 1 = .ok (.ldc2_w 229, 3) := by decide +kernel
theorem dX11_digest_4 : decode cX11_digest 4 = .ok (.putfield 226, 3) := by decide +kernel
theorem dX11_digest_7 : decode cX11_digest 7 = .ok (.iconst 0, 1) := by decide +kernel
theorem dX11_digest_8 : decode cX11_digest 8 = .ok (.istore_n 1, 1) := by decide +kernel
theorem dX11_digest_9 : decode cX11_digest 9 = .ok (.iload_n 1, 1) := by decide +kernel
theorem dX11_digest_10 : decode cX11_digest 10 = .ok (.aload_n 0, 1) := by decide +kernel
theorem dX11_digest_11 : decode cX11_digest 11 = .ok (.getfield 82, 3) := by decide +kernel
theorem dX11_digest_14 : decode cX11_digest 14 = .ok (.if_icmp .ge 34, 3) := by decide +kernel
theorem dX11_digest_17 : decode cX11_digest 17 = .ok (.iconst 0, 1) := by decide +kernel
theorem dX11_digest_18 : decode cX11_digest 18 = .ok (.istore_n 2, 1) := by decide +kernel
theorem dX11_digest_19 : decode cX11_digest 19 = .ok (.iload_n 2, 1) := by decide +kernel
theorem dX11_digest_20 : decode cX11_digest 20 = .ok (.bipush 9, 2) := by decide +kernel
theorem dX11_digest_22 : decode cX11_digest 22 = .ok (.if_icmp .ge 20, 3) := by decide +kernel
theorem dX11_digest_25 : decode cX11_digest 25 = .ok (.aload_n 0, 1) := by decide +kernel
theorem dX11_digest_26 : decode cX11_digest 26 = .ok (.aload_n 0, 1) := by decide +kernel
theorem dX11_digest_27 : decode cX11_digest 27 = .ok (.iload_n 1, 1) := by decide +kernel
theorem dX11_digest_28 : decode cX11_digest 28 = .ok (.iload_n 2, 1) := by decide +kernel
theorem dX11_digest_29 : decode cX11_digest 29 = .ok (.invokevirtual 147, 3) := by decide +kernel
theorem dX11_digest_32 : decode cX11_digest 32 = .ok (.i2l, 1) := by decide +kernel
theorem dX11_digest_33 : decode cX11_digest 33 = .ok (.invokevirtual 231, 3) := by decide +kernel
theorem dX11_digest_36 : decode cX11_digest 36 = .ok (.iinc 2 1, 3) := by decide +kernel
theorem dX11_digest_39 : decode cX11_digest 39 = .ok (.goto (-20), 3) := by decide +kernel
theorem dX11_digest_42 : decode cX11_digest 42 = .ok (.iinc 1 1, 3) := by decide +kernel
theorem dX11_digest_45 : decode cX11_digest 45 = .ok (.goto (-36), 3) := by decide +kernel
theorem dX11_digest_48 : decode cX11_digest 48 = .ok (.aload_n 0, 1) := by decide +kernel
theorem dX11_digest_49 : decode cX11_digest 49 = .ok (.getfield 82, 3) := by decide +kernel
theorem dX11_digest_52 : decode cX11_digest 52 = .ok (.ifCond .le 32, 3) := by decide +kernel
theorem dX11_digest_55 : decode cX11_digest 55 = .ok (.aload_n 0, 1) := by decide +kernel
theorem dX11_digest_56 : decode cX11_digest 56 = .ok (.aload_n 0, 1) := by decide +kernel
theorem dX11_digest_57 : decode cX11_digest 57 = .ok (.iconst 0, 1) := by decide +kernel
theorem dX11_digest_58 : decode cX11_digest 58 = .ok (.invokevirtual 169, 3) := by decide +kernel
theorem dX11_digest_61 : decode cX11_digest 61 = .ok (.i2l, 1) := by decide +kernel
theorem dX11_digest_62 : decode cX11_digest 62 = .ok (.invokevirtual 231, 3) := by decide +kernel
theorem dX11_digest_65 : decode cX11_digest 65 = .ok (.aload_n 0, 1) := by decide +kernel
theorem dX11_digest_66 : decode cX11_digest 66 = .ok (.aload_n 0, 1) := by decide +kernel
theorem dX11_digest_67 : decode cX11_digest 67 = .ok (.iconst 1, 1) := by decide +kernel
theorem dX11_digest_68 : decode cX11_digest 68 = .ok (.invokevirtual 169, 3) := by decide +kernel
theorem dX11_digest_71 : decode cX11_digest 71 = .ok (.i2l, 1) := by decide +kernel
theorem dX11_digest_72 : decode cX11_digest 72 = .ok (.invokevirtual 231, 3) := by decide +kernel
theorem dX11_digest_75 : decode cX11_digest 75 = .ok (.aload_n 0, 1) := by decide +kernel
theorem dX11_digest_76 : decode cX11_digest 76 = .ok (.aload_n 0, 1) := by decide +kernel
theorem dX11_digest_77 : decode cX11_digest 77 = .ok (.invokevirtual 175, 3) := by decide +kernel
theorem dX11_digest_80 : decode cX11_digest 80 = .ok (.i2l, 1) := by decide +kernel
theorem dX11_digest_81 : decode cX11_digest 81 = .ok (.invokevirtual 231, 3) := by decide +kernel
theorem dX11_digest_84 : decode cX11_digest 84 = .ok (.iconst 0, 1) := by decide +kernel
theorem dX11_digest_85 : decode cX11_digest 85 = .ok (.istore_n 1, 1) := by decide +kernel
theorem dX11_digest_86 : decode cX11_digest 86 = .ok (.iload_n 1, 1) := by decide +kernel
theorem dX11_digest_87 : decode cX11_digest 87 = .ok (.aload_n 0, 1) := by decide +kernel
theorem dX11_digest_88 : decode cX11_digest 88 = .ok (.getfield 60, 3) := by decide +kernel
theorem dX11_digest_91 : decode cX11_digest 91 = .ok (.if_icmp .ge 20, 3) := by decide +kernel
theorem dX11_digest_94 : decode cX11_digest 94 = .ok (.aload_n 0, 1) := by decide +kernel
theorem dX11_digest_95 : decode cX11_digest 95 = .ok (.aload_n 0, 1) := by decide +kernel
theorem dX11_digest_96 : decode cX11_digest 96 = .ok (.getfield 25, 3) := by decide +kernel
theorem dX11_digest_99 : decode cX11_digest 99 = .ok (.iload_n 1, 1) := by decide +kernel
theorem dX11_digest_100 : decode cX11_digest 100 = .ok (.baload, 1) := by decide +kernel
theorem dX11_digest_101 : decode cX11_digest 101 = .ok (.i2l, 1) := by decide +kernel
theorem dX11_digest_102 : decode cX11_digest 102 = .ok (.invokevirtual 231, 3) := by decide +kernel
theorem dX11_digest_105 : decode cX11_digest 105 = .ok (.iinc 1 1, 3) := by decide +kernel
theorem dX11_digest_108 : decode cX11_digest 108 = .ok (.goto (-22), 3) := by decide +kernel
theorem dX11_digest_111 : decode cX11_digest 111 = .ok (.iconst 0, 1) := by decide +kernel
theorem dX11_digest_112 : decode cX11_digest 112 = .ok (.istore_n 1, 1) := by decide +kernel
theorem dX11_digest_113 : decode cX11_digest 113 = .ok (.iload_n 1, 1) := by decide +kernel
theorem dX11_digest_114 : decode cX11_digest 114 = .ok (.bipush 12, 2) := by decide +kernel
theorem dX11_digest_116 : decode cX11_digest 116 = .ok (.if_icmp .ge 19, 3) := by decide +kernel
theorem dX11_digest_119 : decode cX11_digest 119 = .ok (.aload_n 0, 1) := by decide +kernel
theorem dX11_digest_120 : decode cX11_digest 120 = .ok (.aload_n 0, 1) := by decide +kernel
theorem dX11_digest_121 : decode cX11_digest 121 = .ok (.iload_n 1, 1) := by decide +kernel
theorem dX11_digest_122 : decode cX11_digest 122 = .ok (.invokevirtual 221, 3) := by decide +kernel
theorem dX11_digest_125 : decode cX11_digest 125 = .ok (.i2l, 1) := by decide +kernel
theorem dX11_digest_126 : decode cX11_digest 126 = .ok (.invokevirtual 231, 3) := by decide +kernel
theorem dX11_digest_129 : decode cX11_digest 129 = .ok (.iinc 1 1, 3) := by decide +kernel
theorem dX11_digest_132 : decode cX11_digest 132 = .ok (.goto (-19), 3) := by decide +kernel
theorem dX11_digest_135 : decode cX11_digest 135 = .ok (.aload_n 0, 1) := by decide +kernel
theorem dX11_digest_136 : decode cX11_digest 136 = .ok (.getfield 226, 3) := by decide +kernel
theorem dX11_digest_139 : decode cX11_digest 139 = .ok (.lreturn, 1) := by decide +kernel
