set_option maxRecDepth 20000 in
theorem ggX4_init_X3_init : GoodIn wsX4_init wsX3_init := goodIn_r _ [34, 35, 2, 3, 36, 37, 38, 65, 66] (by decide +kernel) (by decide +kernel)
set_option maxRecDepth 20000 in
theorem gX4_init_X3_init : GoodIn wsX4_init (wsX3_init) := ggX4_init_X3_init
set_option maxRecDepth 20000 in
theorem ggX4_init_X0_init : GoodIn wsX4_init wsX0_init := goodIn_r _ [41, 42, 2, 3, 25, 43, 67, 68, 69] (by decide +kernel) (by decide +kernel)
set_option maxRecDepth 20000 in
theorem gX4_init_X0_init : GoodIn wsX4_init (wsX0_init) := ggX4_init_X0_init
set_option maxRecDepth 20000 in
theorem ggX4_init_X1_init : GoodIn wsX4_init wsX1_init := goodIn_r _ [46, 47, 2, 3, 48, 37, 49, 50, 51, 70, 71, 72, 73] (by decide +kernel) (by decide +kernel)
set_option maxRecDepth 20000 in
theorem gX4_init_X1_init : GoodIn wsX4_init (wsX1_init) := ggX4_init_X1_init
set_option maxRecDepth 20000 in
theorem ggX4_init_X2_init : GoodIn wsX4_init wsX2_init := goodIn_r _ [53, 54, 2, 3, 25, 55, 56, 74, 75, 76] (by decide +kernel) (by decide +kernel)
set_option maxRecDepth 20000 in
theorem gX4_init_X2_init_n57 : GoodIn wsX4_init (wsX2_init) := ggX4_init_X2_init
theorem dX4_init_0 : decode cX4_init 0 = .ok (.aload_n 0, 1) := by decide +kernel
theorem dX4_init_1 : decode cX4_init 1 = .ok (.invokespecial 1, 3) := by decide +kernel
theorem dX4_init_4 : decode cX4_init 4 = .ok (.aload_n 0, 1) := by decide +kernel
theorem dX4_init_5 : decode cX4_init 5 = .ok (.iconst 2, 1) := by decide +kernel
theorem dX4_init_6 : decode cX4_init 6 = .ok (.bipush 6, 2) := by decide +kernel
theorem dX4_init_8 : decode cX4_init 8 = .ok (.iload_n 1, 1) := by decide +kernel
theorem dX4_init_9 : decode cX4_init 9 = .ok (.invokestatic 9, 3) := by decide +kernel
theorem dX4_init_12 : decode cX4_init 12 = .ok (.invokestatic 15, 3) := by decide +kernel
theorem dX4_init_15 : decode cX4_init 15 = .ok (.putfield 18, 3) := by decide +kernel
theorem dX4_init_18 : decode cX4_init 18 = .ok (.aload_n 0, 1) := by decide +kernel
theorem dX4_init_19 : decode cX4_init 19 = .ok (.iconst 1, 1) := by decide +kernel
theorem dX4_init_20 : decode cX4_init 20 = .ok (.aload_n 0, 1) := by decide +kernel
theorem dX4_init_21 : decode cX4_init 21 = .ok (.getfield 18, 3) := by decide +kernel
theorem dX4_init_24 : decode cX4_init 24 = .ok (.ishl, 1) := by decide +kernel
theorem dX4_init_25 : decode cX4_init 25 = .ok (.putfield 22, 3) := by decide +kernel
theorem dX4_init_28 : decode cX4_init 28 = .ok (.aload_n 0, 1) := by decide +kernel
theorem dX4_init_29 : decode cX4_init 29 = .ok (.bipush 6, 2) := by decide +kernel
theorem dX4_init_31 : decode cX4_init 31 = .ok (.anewarray 25, 3) := by decide +kernel
theorem dX4_init_34 : decode cX4_init 34 = .ok (.putfield 27, 3) := by decide +kernel
theorem dX4_init_37 : decode cX4_init 37 = .ok (.aload_n 0, 1) := by decide +kernel
theorem dX4_init_38 : decode cX4_init 38 = .ok (.bipush 6, 2) := by decide +kernel
theorem dX4_init_40 : decode cX4_init 40 = .ok (.anewarray 31, 3) := by decide +kernel
theorem dX4_init_43 : decode cX4_init 43 = .ok (.putfield 33, 3) := by decide +kernel
theorem dX4_init_46 : decode cX4_init 46 = .ok (.iconst 0, 1) := by decide +kernel
theorem dX4_init_47 : decode cX4_init 47 = .ok (.istore_n 2, 1) := by decide +kernel
theorem dX4_init_48 : decode cX4_init 48 = .ok (.iload_n 2, 1) := by decide +kernel
theorem dX4_init_49 : decode cX4_init 49 = .ok (.bipush 6, 2) := by decide +kernel
theorem dX4_init_51 : decode cX4_init 51 = .ok (.if_icmp .ge 43, 3) := by decide +kernel
theorem dX4_init_54 : decode cX4_init 54 = .ok (.aload_n 0, 1) := by decide +kernel
theorem dX4_init_55 : decode cX4_init 55 = .ok (.getfield 27, 3) := by decide +kernel
theorem dX4_init_58 : decode cX4_init 58 = .ok (.iload_n 2, 1) := by decide +kernel
theorem dX4_init_59 : decode cX4_init 59 = .ok (.new 25, 3) := by decide +kernel
theorem dX4_init_62 : decode cX4_init 62 = .ok (.dup, 1) := by decide +kernel
theorem dX4_init_63 : decode cX4_init 63 = .ok (.aload_n 0, 1) := by decide +kernel
theorem dX4_init_64 : decode cX4_init 64 = .ok (.getfield 18, 3) := by decide +kernel
theorem dX4_init_67 : decode cX4_init 67 = .ok (.invokespecial 37, 3) := by decide +kernel
theorem dX4_init_70 : decode cX4_init 70 = .ok (.aastore, 1) := by decide +kernel
theorem dX4_init_71 : decode cX4_init 71 = .ok (.aload_n 0, 1) := by decide +kernel
theorem dX4_init_72 : decode cX4_init 72 = .ok (.getfield 33, 3) := by decide +kernel
theorem dX4_init_75 : decode cX4_init 75 = .ok (.iload_n 2, 1) := by decide +kernel
theorem dX4_init_76 : decode cX4_init 76 = .ok (.new 31, 3) := by decide +kernel
theorem dX4_init_79 : decode cX4_init 79 = .ok (.dup, 1) := by decide +kernel
theorem dX4_init_80 : decode cX4_init 80 = .ok (.aload_n 0, 1) := by decide +kernel
theorem dX4_init_81 : decode cX4_init 81 = .ok (.getfield 22, 3) := by decide +kernel
theorem dX4_init_84 : decode cX4_init 84 = .ok (.invokespecial 40, 3) := by decide +kernel
theorem dX4_init_87 : decode cX4_init 87 = .ok (.aastore, 1) := by decide +kernel
theorem dX4_init_88 : decode cX4_init 88 = .ok (.iinc 2 1, 3) := by decide +kernel
theorem dX4_init_91 : decode cX4_init 91 = .ok (.goto (-43), 3) := by decide +kernel
theorem dX4_init_94 : decode cX4_init 94 = .ok (.aload_n 0, 1) := by decide +kernel
theorem dX4_init_95 : decode cX4_init 95 = .ok (.new 41, 3) := by decide +kernel
theorem dX4_init_98 : decode cX4_init 98 = .ok (.dup, 1) := by decide +kernel
theorem dX4_init_99 : decode cX4_init 99 = .ok (.aload_n 0, 1) := by decide +kernel
theorem dX4_init_100 : decode cX4_init 100 = .ok (.getfield 18, 3) := by decide +kernel
theorem dX4_init_103 : decode cX4_init 103 = .ok (.invokespecial 43, 3) := by decide +kernel
theorem dX4_init_106 : decode cX4_init 106 = .ok (.putfield 44, 3) := by decide +kernel
theorem dX4_init_109 : decode cX4_init 109 = .ok (.aload_n 0, 1) := by decide +kernel
theorem dX4_init_110 : decode cX4_init 110 = .ok (.aload_n 0, 1) := by decide +kernel
theorem dX4_init_111 : decode cX4_init 111 = .ok (.getfield 22, 3) := by decide +kernel
theorem dX4_init_114 : decode cX4_init 114 = .ok (.newarray .long, 2) := by decide +kernel
theorem dX4_init_116 : decode cX4_init 116 = .ok (.putfield 48, 3) := by decide +kernel
theorem dX4_init_119 : decode cX4_init 119 = .ok (.aload_n 0, 1) := by decide +kernel
theorem dX4_init_120 : decode cX4_init 120 = .ok (.aload_n 0, 1) := by decide +kernel
theorem dX4_init_121 : decode cX4_init 121 = .ok (.getfield 22, 3) := by decide +kernel
theorem dX4_init_124 : decode cX4_init 124 = .ok (.newarray .long, 2) := by decide +kernel
theorem dX4_init_126 : decode cX4_init 126 = .ok (.putfield 52, 3) := by decide +kernel
theorem dX4_init_129 : decode cX4_init 129 = .ok (.aload_n 0, 1) := by decide +kernel
theorem dX4_init_130 : decode cX4_init 130 = .ok (.new 55, 3) := by decide +kernel
theorem dX4_init_133 : decode cX4_init 133 = .ok (.dup, 1) := by decide +kernel
theorem dX4_init_134 : decode cX4_init 134 = .ok (.invokespecial 57, 3) := by decide +kernel
theorem dX4_init_137 : decode cX4_init 137 = .ok (.putfield 58, 3) := by decide +kernel
theorem dX4_init_140 : decode cX4_init 140 = .ok (.return_, 1) := by decide +kernel
set_option maxRecDepth 20000 in
theorem ggX4_entry_X4_isPlace : GoodIn wsX4_entry wsX4_isPlace := goodIn_r _ [5, 6, 7, 4, 8] (by decide +kernel) (by decide +kernel)
set_option maxRecDepth 20000 in
theorem gX4_entry_X4_isPlace : GoodIn wsX4_entry (va_wsS RX4 62 yX4_isPlace wsX4_isPlace) := goodIn_app (goodIn_of _ (by decide +kernel)) ggX4_entry_X4_isPlace
set_option maxRecDepth 20000 in
theorem ggX4_entry_X4_isThing : GoodIn wsX4_entry wsX4_isThing := goodIn_r _ [12, 13, 6, 7, 4, 8, 21, 22, 23, 24, 25, 26, 27, 28] (by decide +kernel) (by decide +kernel)
set_option maxRecDepth 20000 in
theorem gX4_entry_X4_isThing : GoodIn wsX4_entry (wsV RX4 66 RX4 yX4_isThing wsX4_isThing) := goodIn_app (goodIn_of _ (by decide +kernel)) ggX4_entry_X4_isThing
set_option maxRecDepth 20000 in
theorem ggX4_entry_X4_isAmong : GoodIn wsX4_entry wsX4_isAmong := goodIn_r _ [8] (by decide +kernel) (by decide +kernel)
set_option maxRecDepth 20000 in
theorem gX4_entry_X4_isAmong : GoodIn wsX4_entry (va_wsS RX4 69 yX4_isAmong wsX4_isAmong) := goodIn_app (goodIn_of _ (by decide +kernel)) ggX4_entry_X4_isAmong
set_option maxRecDepth 20000 in
theorem ggX4_entry_X3_put : GoodIn wsX4_entry wsX3_put := goodIn_r _ [18, 19, 20, 29, 30] (by decide +kernel) (by decide +kernel)
set_option maxRecDepth 20000 in
theorem gX4_entry_X3_put : GoodIn wsX4_entry (wsV RX4 73 RX3 yX3_put wsX3_put) := goodIn_app (goodIn_of _ (by decide +kernel)) ggX4_entry_X3_put
theorem dX4_entry_0 : decode cX4_entry 0 = .ok (.iload_n 1, 1) := by decide +kernel
theorem dX4_entry_1 : decode cX4_entry 1 = .ok (.invokestatic 62, 3) := by decide +kernel
theorem dX4_entry_4 : decode cX4_entry 4 = .ok (.ifCond .eq 30, 3) := by decide +kernel
theorem dX4_entry_7 : decode cX4_entry 7 = .ok (.aload_n 0, 1) := by decide +kernel
theorem dX4_entry_8 : decode cX4_entry 8 = .ok (.iload_n 2, 1) := by decide +kernel
theorem dX4_entry_9 : decode cX4_entry 9 = .ok (.invokevirtual 66, 3) := by decide +kernel
theorem dX4_entry_12 : decode cX4_entry 12 = .ok (.ifCond .eq 22, 3) := by decide +kernel
theorem dX4_entry_15 : decode cX4_entry 15 = .ok (.aload_n 0, 1) := by decide +kernel
theorem dX4_entry_16 : decode cX4_entry 16 = .ok (.iload_n 3, 1) := by decide +kernel
theorem dX4_entry_17 : decode cX4_entry 17 = .ok (.invokevirtual 66, 3) := by decide +kernel
theorem dX4_entry_20 : decode cX4_entry 20 = .ok (.ifCond .eq 14, 3) := by decide +kernel
theorem dX4_entry_23 : decode cX4_entry 23 = .ok (.iload 4, 2) := by decide +kernel
theorem dX4_entry_25 : decode cX4_entry 25 = .ok (.bipush (-5), 2) := by decide +kernel
theorem dX4_entry_27 : decode cX4_entry 27 = .ok (.iconst 5, 1) := by decide +kernel
theorem dX4_entry_28 : decode cX4_entry 28 = .ok (.invokestatic 69, 3) := by decide +kernel
theorem dX4_entry_31 : decode cX4_entry 31 = .ok (.ifCond .ne 5, 3) := by decide +kernel
theorem dX4_entry_34 : decode cX4_entry 34 = .ok (.iconst 0, 1) := by decide +kernel
theorem dX4_entry_35 : decode cX4_entry 35 = .ok (.ireturn, 1) := by decide +kernel
theorem dX4_entry_36 : decode cX4_entry 36 = .ok (.aload_n 0, 1) := by decide +kernel
theorem dX4_entry_37 : decode cX4_entry 37 = .ok (.getfield 27, 3) := by decide +kernel
theorem dX4_entry_40 : decode cX4_entry 40 = .ok (.iload_n 1, 1) := by decide +kernel
theorem dX4_entry_41 : decode cX4_entry 41 = .ok (.aaload, 1) := by decide +kernel
theorem dX4_entry_42 : decode cX4_entry 42 = .ok (.iload_n 2, 1) := by decide +kernel
theorem dX4_entry_43 : decode cX4_entry 43 = .ok (.iload_n 3, 1) := by decide +kernel
theorem dX4_entry_44 : decode cX4_entry 44 = .ok (.iload 4, 2) := by decide +kernel
theorem dX4_entry_46 : decode cX4_entry 46 = .ok (.invokevirtual 73, 3) := by decide +kernel
theorem dX4_entry_49 : decode cX4_entry 49 = .ok (.iconst 1, 1) := by decide +kernel
theorem dX4_entry_50 : decode cX4_entry 50 = .ok (.ireturn, 1) := by decide +kernel
set_option maxRecDepth 20000 in
theorem ggX4_told_X4_isPlace : GoodIn wsX4_told wsX4_isPlace := goodIn_r _ [5, 6, 7, 4, 8] (by decide +kernel) (by decide +kernel)
set_option maxRecDepth 20000 in
theorem gX4_told_X4_isPlace : GoodIn wsX4_told (va_wsS RX4 62 yX4_isPlace wsX4_isPlace) := goodIn_app (goodIn_of _ (by decide +kernel)) ggX4_told_X4_isPlace
set_option maxRecDepth 20000 in
theorem ggX4_told_X4_isThing : GoodIn wsX4_told wsX4_isThing := goodIn_r _ [12, 13, 6, 7, 4, 8, 21, 22, 23, 24, 25, 26, 27, 28] (by decide +kernel) (by decide +kernel)
set_option maxRecDepth 20000 in
theorem gX4_told_X4_isThing : GoodIn wsX4_told (wsV RX4 66 RX4 yX4_isThing wsX4_isThing) := goodIn_app (goodIn_of _ (by decide +kernel)) ggX4_told_X4_isThing
set_option maxRecDepth 20000 in
theorem ggX4_told_X3_at : GoodIn wsX4_told wsX3_at := goodIn_r _ [18, 19, 20, 29, 30] (by decide +kernel) (by decide +kernel)
set_option maxRecDepth 20000 in
theorem gX4_told_X3_at : GoodIn wsX4_told (wsV RX4 77 RX3 yX3_at wsX3_at) := goodIn_app (goodIn_of _ (by decide +kernel)) ggX4_told_X3_at
theorem dX4_told_0 : decode cX4_told 0 = .ok (.iload_n 1, 1) := by decide +kernel
theorem dX4_told_1 : decode cX4_told 1 = .ok (.invokestatic 62, 3) := by decide +kernel
theorem dX4_told_4 : decode cX4_told 4 = .ok (.ifCond .eq 19, 3) := by decide +kernel
theorem dX4_told_7 : decode cX4_told 7 = .ok (.aload_n 0, 1) := by decide +kernel
theorem dX4_told_8 : decode cX4_told 8 = .ok (.iload_n 2, 1) := by decide +kernel
theorem dX4_told_9 : decode cX4_told 9 = .ok (.invokevirtual 66, 3) := by decide +kernel
theorem dX4_told_12 : decode cX4_told 12 = .ok (.ifCond .eq 11, 3) := by decide +kernel
theorem dX4_told_15 : decode cX4_told 15 = .ok (.aload_n 0, 1) := by decide +kernel
theorem dX4_told_16 : decode cX4_told 16 = .ok (.iload_n 3, 1) := by decide +kernel
theorem dX4_told_17 : decode cX4_told 17 = .ok (.invokevirtual 66, 3) := by decide +kernel
theorem dX4_told_20 : decode cX4_told 20 = .ok (.ifCond .ne 6, 3) := by decide +kernel
theorem dX4_told_23 : decode cX4_told 23 = .ok (.bipush (-10), 2) := by decide +kernel
theorem dX4_told_25 : decode cX4_told 25 = .ok (.ireturn, 1) := by decide +kernel
theorem dX4_told_26 : decode cX4_told 26 = .ok (.aload_n 0, 1) := by decide +kernel
theorem dX4_told_27 : decode cX4_told 27 = .ok (.getfield 27, 3) := by decide +kernel
theorem dX4_told_30 : decode cX4_told 30 = .ok (.iload_n 1, 1) := by decide +kernel
theorem dX4_told_31 : decode cX4_told 31 = .ok (.aaload, 1) := by decide +kernel
theorem dX4_told_32 : decode cX4_told 32 = .ok (.iload_n 2, 1) := by decide +kernel
theorem dX4_told_33 : decode cX4_told 33 = .ok (.iload_n 3, 1) := by decide +kernel
theorem dX4_told_34 : decode cX4_told 34 = .ok (.invokevirtual 77, 3) := by decide +kernel
theorem dX4_told_37 : decode cX4_told 37 = .ok (.ireturn, 1) := by decide +kernel
set_option maxRecDepth 20000 in
theorem ggX4_worth_X4_isPlace : GoodIn wsX4_worth wsX4_isPlace := goodIn_r _ [6, 7, 8, 5, 9] (by decide +kernel) (by decide +kernel)
set_option maxRecDepth 20000 in
theorem gX4_worth_X4_isPlace : GoodIn wsX4_worth (va_wsS RX4 62 yX4_isPlace wsX4_isPlace) := goodIn_app (goodIn_of _ (by decide +kernel)) ggX4_worth_X4_isPlace
set_option maxRecDepth 20000 in
theorem ggX4_worth_X4_isSet : GoodIn wsX4_worth wsX4_isSet := goodIn_r _ [13, 14, 7, 8, 5, 9, 67, 68, 69, 70, 71, 72, 73, 74] (by decide +kernel) (by decide +kernel)
set_option maxRecDepth 20000 in
theorem gX4_worth_X4_isSet : GoodIn wsX4_worth (wsV RX4 80 RX4 yX4_isSet wsX4_isSet) := goodIn_app (goodIn_of _ (by decide +kernel)) ggX4_worth_X4_isSet
set_option maxRecDepth 20000 in
theorem ggX4_worth_X3_worthOf : GoodIn wsX4_worth wsX3_worthOf := goodIn_r _ [19, 20, 21, 22, 23, 24, 25, 26, 27, 28, 29, 30, 31, 32, 33, 34, 35, 36, 37, 38, 39, 40, 41, 42, 5, 43, 44, 45, 46, 18, 47, 48, 49, 50, 51, 52, 53, 54, 55, 56, 8, 9, 57, 58, 59, 60, 61, 62, 63, 64, 65, 66, 75, 76, 77, 78, 79] (by decide +kernel) (by decide +kernel)
set_option maxRecDepth 20000 in
theorem gX4_worth_X3_worthOf : GoodIn wsX4_worth (wsV RX4 83 RX3 yX3_worthOf wsX3_worthOf) := goodIn_app (goodIn_of _ (by decide +kernel)) ggX4_worth_X3_worthOf
theorem dX4_worth_0 : decode cX4_worth 0 = .ok (.iload_n 1, 1) := by decide +kernel
theorem dX4_worth_1 : decode cX4_worth 1 = .ok (.invokestatic 62, 3) := by decide +kernel
theorem dX4_worth_4 : decode cX4_worth 4 = .ok (.ifCond .eq 11, 3) := by decide +kernel
theorem dX4_worth_7 : decode cX4_worth 7 = .ok (.aload_n 0, 1) := by decide +kernel
theorem dX4_worth_8 : decode cX4_worth 8 = .ok (.iload_n 2, 1) := by decide +kernel
theorem dX4_worth_9 : decode cX4_worth 9 = .ok (.invokevirtual 80, 3) := by decide +kernel
theorem dX4_worth_12 : decode cX4_worth 12 = .ok (.ifCond .ne 5, 3) := by decide +kernel
theorem dX4_worth_15 : decode cX4_worth 15 = .ok (.lconst 0, 1) := by decide +kernel
theorem dX4_worth_16 : decode cX4_worth 16 = .ok (.lreturn, 1) := by decide +kernel
theorem dX4_worth_17 : decode cX4_worth 17 = .ok (.aload_n 0, 1) := by decide +kernel
theorem dX4_worth_18 : decode cX4_worth 18 = .ok (.getfield 27, 3) := by decide +kernel
theorem dX4_worth_21 : decode cX4_worth 21 = .ok (.iload_n 1, 1) := by decide +kernel
theorem dX4_worth_22 : decode cX4_worth 22 = .ok (.aaload, 1) := by decide +kernel
theorem dX4_worth_23 : decode cX4_worth 23 = .ok (.iload_n 2, 1) := by decide +kernel
theorem dX4_worth_24 : decode cX4_worth 24 = .ok (.iconst 0, 1) := by decide +kernel
theorem dX4_worth_25 : decode cX4_worth 25 = .ok (.aload_n 0, 1) := by decide +kernel
theorem dX4_worth_26 : decode cX4_worth 26 = .ok (.getfield 58, 3) := by decide +kernel
theorem dX4_worth_29 : decode cX4_worth 29 = .ok (.invokevirtual 83, 3) := by decide +kernel
theorem dX4_worth_32 : decode cX4_worth 32 = .ok (.lreturn, 1) := by decide +kernel
set_option maxRecDepth 20000 in
theorem ggX4_why_X4_isPlace : GoodIn wsX4_why wsX4_isPlace := goodIn_r _ [5, 6, 7, 4, 8] (by decide +kernel) (by decide +kernel)
set_option maxRecDepth 20000 in
theorem gX4_why_X4_isPlace : GoodIn wsX4_why (va_wsS RX4 62 yX4_isPlace wsX4_isPlace) := goodIn_app (goodIn_of _ (by decide +kernel)) ggX4_why_X4_isPlace
set_option maxRecDepth 20000 in
theorem ggX4_why_X4_draftWorths : GoodIn wsX4_why wsX4_draftWorths := goodIn_r _ [12, 13, 14, 15, 16, 17, 18, 19, 20, 21, 22, 23, 24, 25, 26, 27, 28, 29, 30, 31, 32, 33, 34, 35, 36, 37, 38, 39, 40, 41, 42, 43, 4, 44, 45, 46, 47, 48, 49, 50, 51, 52, 53, 54, 55, 56, 57, 7, 8, 58, 59, 60, 61, 62, 63, 64, 65, 66, 67, 68, 69, 70, 71, 72, 73, 74, 75, 76, 77, 78, 79, 80] (by decide +kernel) (by decide +kernel)
set_option maxRecDepth 20000 in
theorem gX4_why_X4_draftWorths : GoodIn wsX4_why (wsV RX4 87 RX4 yX4_draftWorths wsX4_draftWorths) := goodIn_app (goodIn_of _ (by decide +kernel)) ggX4_why_X4_draftWorths
theorem dX4_why_0 : decode cX4_why 0 = .ok (.iload_n 1, 1) := by decide +kernel
theorem dX4_why_1 : decode cX4_why 1 = .ok (.invokestatic 62, 3) := by decide +kernel
theorem dX4_why_4 : decode cX4_why 4 = .ok (.ifCond .ne 5, 3) := by decide +kernel
theorem dX4_why_7 : decode cX4_why 7 = .ok (.iconst (-1), 1) := by decide +kernel
theorem dX4_why_8 : decode cX4_why 8 = .ok (.ireturn, 1) := by decide +kernel
theorem dX4_why_9 : decode cX4_why 9 = .ok (.aload_n 0, 1) := by decide +kernel
theorem dX4_why_10 : decode cX4_why 10 = .ok (.aload_n 0, 1) := by decide +kernel
theorem dX4_why_11 : decode cX4_why 11 = .ok (.getfield 27, 3) := by decide +kernel
theorem dX4_why_14 : decode cX4_why 14 = .ok (.iload_n 1, 1) := by decide +kernel
theorem dX4_why_15 : decode cX4_why 15 = .ok (.aaload, 1) := by decide +kernel
theorem dX4_why_16 : decode cX4_why 16 = .ok (.invokevirtual 87, 3) := by decide +kernel
theorem dX4_why_19 : decode cX4_why 19 = .ok (.ireturn, 1) := by decide +kernel
set_option maxRecDepth 20000 in
theorem ggX4_whole_X4_isPlace : GoodIn wsX4_whole wsX4_isPlace := goodIn_r _ [7, 8, 9, 6, 10] (by decide +kernel) (by decide +kernel)
set_option maxRecDepth 20000 in
theorem gX4_whole_X4_isPlace : GoodIn wsX4_whole (va_wsS RX4 62 yX4_isPlace wsX4_isPlace) := goodIn_app (goodIn_of _ (by decide +kernel)) ggX4_whole_X4_isPlace
set_option maxRecDepth 20000 in
theorem ggX4_whole_X3_worthOf : GoodIn wsX4_whole wsX3_worthOf := goodIn_r _ [15, 16, 17, 18, 19, 20, 21, 22, 23, 24, 25, 26, 27, 28, 29, 30, 31, 32, 33, 34, 35, 36, 37, 38, 6, 39, 40, 41, 42, 14, 43, 44, 45, 46, 47, 48, 49, 50, 51, 52, 9, 10, 53, 54, 55, 56, 57, 58, 59, 60, 61, 62, 71, 72, 73, 74, 75] (by decide +kernel) (by decide +kernel)
set_option maxRecDepth 20000 in
theorem gX4_whole_X3_worthOf : GoodIn wsX4_whole (wsV RX4 83 RX3 yX3_worthOf wsX3_worthOf) := goodIn_app (goodIn_of _ (by decide +kernel)) ggX4_whole_X3_worthOf
theorem dX4_whole_0 : decode cX4_whole 0 = .ok (.iload_n 1, 1) := by decide +kernel
theorem dX4_whole_1 : decode cX4_whole 1 = .ok (.invokestatic 62, 3) := by decide +kernel
theorem dX4_whole_4 : decode cX4_whole 4 = .ok (.ifCond .ne 5, 3) := by decide +kernel
theorem dX4_whole_7 : decode cX4_whole 7 = .ok (.lconst 0, 1) := by decide +kernel
theorem dX4_whole_8 : decode cX4_whole 8 = .ok (.lreturn, 1) := by decide +kernel
theorem dX4_whole_9 : decode cX4_whole 9 = .ok (.aload_n 0, 1) := by decide +kernel
theorem dX4_whole_10 : decode cX4_whole 10 = .ok (.getfield 27, 3) := by decide +kernel
theorem dX4_whole_13 : decode cX4_whole 13 = .ok (.iload_n 1, 1) := by decide +kernel
theorem dX4_whole_14 : decode cX4_whole 14 = .ok (.aaload, 1) := by decide +kernel
theorem dX4_whole_15 : decode cX4_whole 15 = .ok (.aload_n 0, 1) := by decide +kernel
theorem dX4_whole_16 : decode cX4_whole 16 = .ok (.getfield 22, 3) := by decide +kernel
theorem dX4_whole_19 : decode cX4_whole 19 = .ok (.iconst 1, 1) := by decide +kernel
theorem dX4_whole_20 : decode cX4_whole 20 = .ok (.isub, 1) := by decide +kernel
theorem dX4_whole_21 : decode cX4_whole 21 = .ok (.iconst 1, 1) := by decide +kernel
theorem dX4_whole_22 : decode cX4_whole 22 = .ok (.aload_n 0, 1) := by decide +kernel
theorem dX4_whole_23 : decode cX4_whole 23 = .ok (.getfield 58, 3) := by decide +kernel
theorem dX4_whole_26 : decode cX4_whole 26 = .ok (.invokevirtual 83, 3) := by decide +kernel
theorem dX4_whole_29 : decode cX4_whole 29 = .ok (.lreturn, 1) := by decide +kernel
set_option maxRecDepth 20000 in
theorem ggX4_shun_X4_isPlace : GoodIn wsX4_shun wsX4_isPlace := goodIn_r _ [5, 6, 7, 4, 8] (by decide +kernel) (by decide +kernel)
set_option maxRecDepth 20000 in
theorem gX4_shun_X4_isPlace : GoodIn wsX4_shun (va_wsS RX4 62 yX4_isPlace wsX4_isPlace) := goodIn_app (goodIn_of _ (by decide +kernel)) ggX4_shun_X4_isPlace
set_option maxRecDepth 20000 in
theorem ggX4_shun_X4_draftWorths : GoodIn wsX4_shun wsX4_draftWorths := goodIn_r _ [12, 13, 14, 15, 16, 17, 18, 19, 20, 21, 22, 23, 24, 25, 26, 27, 28, 29, 30, 31, 32, 33, 34, 35, 36, 37, 38, 39, 40, 41, 42, 43, 4, 44, 45, 46, 47, 48, 49, 50, 51, 52, 53, 54, 55, 56, 57, 7, 8, 58, 59, 60, 61, 62, 63, 64, 65, 66, 67, 85, 86, 87, 88, 89, 90, 91, 92, 93, 94, 95, 96, 97] (by decide +kernel) (by decide +kernel)
set_option maxRecDepth 20000 in
theorem gX4_shun_X4_draftWorths : GoodIn wsX4_shun (wsV RX4 87 RX4 yX4_draftWorths wsX4_draftWorths) := goodIn_app (goodIn_of _ (by decide +kernel)) ggX4_shun_X4_draftWorths
set_option maxRecDepth 20000 in
theorem ggX4_shun_X4_settle : GoodIn wsX4_shun wsX4_settle := goodIn_r _ [71, 13, 14, 72, 73, 74, 75, 4, 76, 77, 78, 79, 80, 81, 82, 83, 84, 85, 86, 87, 88, 89, 90, 91, 92, 98, 99, 100] (by decide +kernel) (by decide +kernel)
set_option maxRecDepth 20000 in
theorem gX4_shun_X4_settle : GoodIn wsX4_shun (wsV RX4 91 RX4 yX4_settle wsX4_settle) := goodIn_app (goodIn_of _ (by decide +kernel)) ggX4_shun_X4_settle
theorem dX4_shun_0 : decode cX4_shun 0 = .ok (.iload_n 1, 1) := by decide +kernel
theorem dX4_shun_1 : decode cX4_shun 1 = .ok (.invokestatic 62, 3) := by decide +kernel
theorem dX4_shun_4 : decode cX4_shun 4 = .ok (.ifCond .eq 10, 3) := by decide +kernel
theorem dX4_shun_7 : decode cX4_shun 7 = .ok (.iload_n 2, 1) := by decide +kernel
theorem dX4_shun_8 : decode cX4_shun 8 = .ok (.invokestatic 62, 3) := by decide +kernel
theorem dX4_shun_11 : decode cX4_shun 11 = .ok (.ifCond .ne 5, 3) := by decide +kernel
theorem dX4_shun_14 : decode cX4_shun 14 = .ok (.iconst 0, 1) := by decide +kernel
theorem dX4_shun_15 : decode cX4_shun 15 = .ok (.ireturn, 1) := by decide +kernel
theorem dX4_shun_16 : decode cX4_shun 16 = .ok (.aload_n 0, 1) := by decide +kernel
theorem dX4_shun_17 : decode cX4_shun 17 = .ok (.aload_n 0, 1) := by decide +kernel
theorem dX4_shun_18 : decode cX4_shun 18 = .ok (.getfield 27, 3) := by decide +kernel
theorem dX4_shun_21 : decode cX4_shun 21 = .ok (.iload_n 1, 1) := by decide +kernel
theorem dX4_shun_22 : decode cX4_shun 22 = .ok (.aaload, 1) := by decide +kernel
theorem dX4_shun_23 : decode cX4_shun 23 = .ok (.invokevirtual 87, 3) := by decide +kernel
theorem dX4_shun_26 : decode cX4_shun 26 = .ok (.iconst (-1), 1) := by decide +kernel
theorem dX4_shun_27 : decode cX4_shun 27 = .ok (.if_icmp .ne 15, 3) := by decide +kernel
theorem dX4_shun_30 : decode cX4_shun 30 = .ok (.aload_n 0, 1) := by decide +kernel
theorem dX4_shun_31 : decode cX4_shun 31 = .ok (.iload_n 2, 1) := by decide +kernel
theorem dX4_shun_32 : decode cX4_shun 32 = .ok (.invokevirtual 91, 3) := by decide +kernel
theorem dX4_shun_35 : decode cX4_shun 35 = .ok (.ifCond .eq 7, 3) := by decide +kernel
theorem dX4_shun_38 : decode cX4_shun 38 = .ok (.iconst 1, 1) := by decide +kernel
theorem dX4_shun_39 : decode cX4_shun 39 = .ok (.goto 4, 3) := by decide +kernel
theorem dX4_shun_42 : decode cX4_shun 42 = .ok (.iconst 0, 1) := by decide +kernel
theorem dX4_shun_43 : decode cX4_shun 43 = .ok (.ireturn, 1) := by decide +kernel
set_option maxRecDepth 20000 in
theorem ggX4_edge_X4_isThing : GoodIn wsX4_edge wsX4_isThing := goodIn_r _ [6, 7, 8, 9, 5, 10, 22, 23, 24, 25, 26, 27, 28, 29] (by decide +kernel) (by decide +kernel)
set_option maxRecDepth 20000 in
theorem gX4_edge_X4_isThing : GoodIn wsX4_edge (wsV RX4 66 RX4 yX4_isThing wsX4_isThing) := goodIn_app (goodIn_of _ (by decide +kernel)) ggX4_edge_X4_isThing
set_option maxRecDepth 20000 in
theorem ggX4_edge_X4_isPost : GoodIn wsX4_edge wsX4_isPost := goodIn_r _ [13, 8, 9, 5, 10] (by decide +kernel) (by decide +kernel)
set_option maxRecDepth 20000 in
theorem gX4_edge_X4_isPost : GoodIn wsX4_edge (va_wsS RX4 94 yX4_isPost wsX4_isPost) := goodIn_app (goodIn_of _ (by decide +kernel)) ggX4_edge_X4_isPost
set_option maxRecDepth 20000 in
theorem ggX4_edge_X4_isAmong : GoodIn wsX4_edge wsX4_isAmong := goodIn_r _ [10] (by decide +kernel) (by decide +kernel)
set_option maxRecDepth 20000 in
theorem gX4_edge_X4_isAmong : GoodIn wsX4_edge (va_wsS RX4 69 yX4_isAmong wsX4_isAmong) := goodIn_app (goodIn_of _ (by decide +kernel)) ggX4_edge_X4_isAmong
set_option maxRecDepth 20000 in
theorem ggX4_edge_X1_put : GoodIn wsX4_edge wsX1_put := goodIn_r _ [18, 19, 20, 21, 30, 31, 32, 33] (by decide +kernel) (by decide +kernel)
set_option maxRecDepth 20000 in
theorem gX4_edge_X1_put : GoodIn wsX4_edge (wsV RX4 97 RX1 yX1_put wsX1_put) := goodIn_app (goodIn_of _ (by decide +kernel)) ggX4_edge_X1_put
theorem dX4_edge_0 : decode cX4_edge 0 = .ok (.aload_n 0, 1) := by decide +kernel
theorem dX4_edge_1 : decode cX4_edge 1 = .ok (.iload_n 1, 1) := by decide +kernel
theorem dX4_edge_2 : decode cX4_edge 2 = .ok (.invokevirtual 66, 3) := by decide +kernel
theorem dX4_edge_5 : decode cX4_edge 5 = .ok (.ifCond .eq 28, 3) := by decide +kernel
theorem dX4_edge_8 : decode cX4_edge 8 = .ok (.iload_n 2, 1) := by decide +kernel
theorem dX4_edge_9 : decode cX4_edge 9 = .ok (.invokestatic 94, 3) := by decide +kernel
theorem dX4_edge_12 : decode cX4_edge 12 = .ok (.ifCond .eq 21, 3) := by decide +kernel
theorem dX4_edge_15 : decode cX4_edge 15 = .ok (.iload_n 3, 1) := by decide +kernel
theorem dX4_edge_16 : decode cX4_edge 16 = .ok (.invokestatic 94, 3) := by decide +kernel
theorem dX4_edge_19 : decode cX4_edge 19 = .ok (.ifCond .eq 14, 3) := by decide +kernel
theorem dX4_edge_22 : decode cX4_edge 22 = .ok (.iload 4, 2) := by decide +kernel
theorem dX4_edge_24 : decode cX4_edge 24 = .ok (.iconst 0, 1) := by decide +kernel
theorem dX4_edge_25 : decode cX4_edge 25 = .ok (.bipush 9, 2) := by decide +kernel
theorem dX4_edge_27 : decode cX4_edge 27 = .ok (.invokestatic 69, 3) := by decide +kernel
theorem dX4_edge_30 : decode cX4_edge 30 = .ok (.ifCond .ne 5, 3) := by decide +kernel
theorem dX4_edge_33 : decode cX4_edge 33 = .ok (.iconst 0, 1) := by decide +kernel
theorem dX4_edge_34 : decode cX4_edge 34 = .ok (.ireturn, 1) := by decide +kernel
theorem dX4_edge_35 : decode cX4_edge 35 = .ok (.aload_n 0, 1) := by decide +kernel
theorem dX4_edge_36 : decode cX4_edge 36 = .ok (.getfield 44, 3) := by decide +kernel
theorem dX4_edge_39 : decode cX4_edge 39 = .ok (.iload_n 1, 1) := by decide +kernel
theorem dX4_edge_40 : decode cX4_edge 40 = .ok (.iload_n 2, 1) := by decide +kernel
theorem dX4_edge_41 : decode cX4_edge 41 = .ok (.iload_n 3, 1) := by decide +kernel
theorem dX4_edge_42 : decode cX4_edge 42 = .ok (.iload 4, 2) := by decide +kernel
theorem dX4_edge_44 : decode cX4_edge 44 = .ok (.invokevirtual 97, 3) := by decide +kernel
theorem dX4_edge_47 : decode cX4_edge 47 = .ok (.iconst 1, 1) := by decide +kernel
theorem dX4_edge_48 : decode cX4_edge 48 = .ok (.ireturn, 1) := by decide +kernel
set_option maxRecDepth 20000 in
theorem ggX4_all_X4_isPosts : GoodIn wsX4_all wsX4_isPosts := goodIn_r _ [6, 7, 8, 5, 9] (by decide +kernel) (by decide +kernel)
set_option maxRecDepth 20000 in
theorem gX4_all_X4_isPosts : GoodIn wsX4_all (va_wsS RX4 100 yX4_isPosts wsX4_isPosts) := goodIn_app (goodIn_of _ (by decide +kernel)) ggX4_all_X4_isPosts
set_option maxRecDepth 20000 in
theorem ggX4_all_X1_sumOfTrees : GoodIn wsX4_all wsX1_sumOfTrees := goodIn_r _ [14, 15, 16, 17, 18, 19, 20, 21, 22, 23, 24, 25, 26, 27, 28, 29, 30, 31, 32, 33, 34, 35, 36, 8, 5, 9, 37, 38, 39, 40, 41, 42, 43, 44, 45, 46, 47, 48, 49, 50, 51, 52, 61, 62, 63, 64, 65, 66, 67] (by decide +kernel) (by decide +kernel)
set_option maxRecDepth 20000 in
theorem gX4_all_X1_sumOfTrees : GoodIn wsX4_all (wsV RX4 103 RX1 yX1_sumOfTrees wsX1_sumOfTrees) := goodIn_app (goodIn_of _ (by decide +kernel)) ggX4_all_X1_sumOfTrees
theorem dX4_all_0 : decode cX4_all 0 = .ok (.iload_n 1, 1) := by decide +kernel
theorem dX4_all_1 : decode cX4_all 1 = .ok (.invokestatic 100, 3) := by decide +kernel
theorem dX4_all_4 : decode cX4_all 4 = .ok (.ifCond .ne 5, 3) := by decide +kernel
theorem dX4_all_7 : decode cX4_all 7 = .ok (.lconst 0, 1) := by decide +kernel
theorem dX4_all_8 : decode cX4_all 8 = .ok (.lreturn, 1) := by decide +kernel
theorem dX4_all_9 : decode cX4_all 9 = .ok (.aload_n 0, 1) := by decide +kernel
theorem dX4_all_10 : decode cX4_all 10 = .ok (.getfield 44, 3) := by decide +kernel
theorem dX4_all_13 : decode cX4_all 13 = .ok (.iload_n 1, 1) := by decide +kernel
theorem dX4_all_14 : decode cX4_all 14 = .ok (.aload_n 0, 1) := by decide +kernel
theorem dX4_all_15 : decode cX4_all 15 = .ok (.getfield 58, 3) := by decide +kernel
theorem dX4_all_18 : decode cX4_all 18 = .ok (.invokevirtual 103, 3) := by decide +kernel
theorem dX4_all_21 : decode cX4_all 21 = .ok (.lreturn, 1) := by decide +kernel
set_option maxRecDepth 20000 in
theorem ggX4_trees_X4_isPosts : GoodIn wsX4_trees wsX4_isPosts := goodIn_r _ [7, 8, 9, 6, 10] (by decide +kernel) (by decide +kernel)
set_option maxRecDepth 20000 in
theorem gX4_trees_X4_isPosts : GoodIn wsX4_trees (va_wsS RX4 100 yX4_isPosts wsX4_isPosts) := goodIn_app (goodIn_of _ (by decide +kernel)) ggX4_trees_X4_isPosts
set_option maxRecDepth 20000 in
theorem ggX4_trees_X4_isPlace : GoodIn wsX4_trees wsX4_isPlace := goodIn_r _ [13, 8, 9, 6, 10] (by decide +kernel) (by decide +kernel)
set_option maxRecDepth 20000 in
theorem gX4_trees_X4_isPlace : GoodIn wsX4_trees (va_wsS RX4 62 yX4_isPlace wsX4_isPlace) := goodIn_app (goodIn_of _ (by decide +kernel)) ggX4_trees_X4_isPlace
set_option maxRecDepth 20000 in
theorem ggX4_trees_X1_isTree : GoodIn wsX4_trees wsX1_isTree := goodIn_r _ [18, 19, 20, 21, 22, 23, 24, 25, 26, 27, 28, 17, 29, 30, 31, 32, 33, 6, 34, 65, 66, 67, 68] (by decide +kernel) (by decide +kernel)
set_option maxRecDepth 20000 in
theorem gX4_trees_X1_isTree : GoodIn wsX4_trees (wsV RX4 107 RX1 yX1_isTree wsX1_isTree) := goodIn_app (goodIn_of _ (by decide +kernel)) ggX4_trees_X1_isTree
set_option maxRecDepth 20000 in
theorem ggX4_trees_X1_productOf : GoodIn wsX4_trees wsX1_productOf := goodIn_r _ [38, 30, 39, 33, 6, 34, 65, 66, 67, 68] (by decide +kernel) (by decide +kernel)
set_option maxRecDepth 20000 in
theorem gX4_trees_X1_productOf : GoodIn wsX4_trees (wsV RX4 111 RX1 yX1_productOf wsX1_productOf) := goodIn_app (goodIn_of _ (by decide +kernel)) ggX4_trees_X1_productOf
set_option maxRecDepth 20000 in
theorem ggX4_trees_X4_settle : GoodIn wsX4_trees wsX4_settle := goodIn_r _ [43, 1, 2, 44, 45, 46, 47, 6, 48, 49, 50, 51, 52, 53, 54, 55, 56, 57, 58, 59, 60, 61, 62, 63, 64, 69, 70, 71] (by decide +kernel) (by decide +kernel)
set_option maxRecDepth 20000 in
theorem gX4_trees_X4_settle : GoodIn wsX4_trees (wsV RX4 91 RX4 yX4_settle wsX4_settle) := goodIn_app (goodIn_of _ (by decide +kernel)) ggX4_trees_X4_settle
theorem dX4_trees_0 : decode cX4_trees 0 = .ok (.iload_n 1, 1) := by decide +kernel
theorem dX4_trees_1 : decode cX4_trees 1 = .ok (.invokestatic 100, 3) := by decide +kernel
theorem dX4_trees_4 : decode cX4_trees 4 = .ok (.ifCond .eq 10, 3) := by decide +kernel
theorem dX4_trees_7 : decode cX4_trees 7 = .ok (.iload_n 2, 1) := by decide +kernel
theorem dX4_trees_8 : decode cX4_trees 8 = .ok (.invokestatic 62, 3) := by decide +kernel
theorem dX4_trees_11 : decode cX4_trees 11 = .ok (.ifCond .ne 5, 3) := by decide +kernel
theorem dX4_trees_14 : decode cX4_trees 14 = .ok (.iconst 0, 1) := by decide +kernel
theorem dX4_trees_15 : decode cX4_trees 15 = .ok (.ireturn, 1) := by decide +kernel
theorem dX4_trees_16 : decode cX4_trees 16 = .ok (.iconst 0, 1) := by decide +kernel
theorem dX4_trees_17 : decode cX4_trees 17 = .ok (.istore_n 3, 1) := by decide +kernel
theorem dX4_trees_18 : decode cX4_trees 18 = .ok (.iload_n 3, 1) := by decide +kernel
theorem dX4_trees_19 : decode cX4_trees 19 = .ok (.aload_n 0, 1) := by decide +kernel
theorem dX4_trees_20 : decode cX4_trees 20 = .ok (.getfield 22, 3) := by decide +kernel
theorem dX4_trees_23 : decode cX4_trees 23 = .ok (.if_icmp .ge 39, 3) := by decide +kernel
theorem dX4_trees_26 : decode cX4_trees 26 = .ok (.aload_n 0, 1) := by decide +kernel
theorem dX4_trees_27 : decode cX4_trees 27 = .ok (.getfield 52, 3) := by decide +kernel
theorem dX4_trees_30 : decode cX4_trees 30 = .ok (.iload_n 3, 1) := by decide +kernel
theorem dX4_trees_31 : decode cX4_trees 31 = .ok (.aload_n 0, 1) := by decide +kernel
theorem dX4_trees_32 : decode cX4_trees 32 = .ok (.getfield 44, 3) := by decide +kernel
theorem dX4_trees_35 : decode cX4_trees 35 = .ok (.iload_n 3, 1) := by decide +kernel
theorem dX4_trees_36 : decode cX4_trees 36 = .ok (.iload_n 1, 1) := by decide +kernel
theorem dX4_trees_37 : decode cX4_trees 37 = .ok (.invokevirtual 107, 3) := by decide +kernel
theorem dX4_trees_40 : decode cX4_trees 40 = .ok (.ifCond .eq 14, 3) := by decide +kernel
theorem dX4_trees_43 : decode cX4_trees 43 = .ok (.aload_n 0, 1) := by decide +kernel
theorem dX4_trees_44 : decode cX4_trees 44 = .ok (.getfield 44, 3) := by decide +kernel
theorem dX4_trees_47 : decode cX4_trees 47 = .ok (.iload_n 3, 1) := by decide +kernel
theorem dX4_trees_48 : decode cX4_trees 48 = .ok (.invokevirtual 111, 3) := by decide +kernel
theorem dX4_trees_51 : decode cX4_trees 51 = .ok (.goto 4, 3) := by decide +kernel
theorem dX4_trees_54 : decode cX4_trees 54 = .ok (.lconst 0, 1) := by decide +kernel
theorem dX4_trees_55 : decode cX4_trees 55 = .ok (.lastore, 1) := by decide +kernel
theorem dX4_trees_56 : decode cX4_trees 56 = .ok (.iinc 3 1, 3) := by decide +kernel
theorem dX4_trees_59 : decode cX4_trees 59 = .ok (.goto (-41), 3) := by decide +kernel
theorem dX4_trees_62 : decode cX4_trees 62 = .ok (.aload_n 0, 1) := by decide +kernel
theorem dX4_trees_63 : decode cX4_trees 63 = .ok (.iload_n 2, 1) := by decide +kernel
theorem dX4_trees_64 : decode cX4_trees 64 = .ok (.invokevirtual 91, 3) := by decide +kernel
theorem dX4_trees_67 : decode cX4_trees 67 = .ok (.ireturn, 1) := by decide +kernel
set_option maxRecDepth 20000 in
theorem ggX4_tell_X4_isSet : GoodIn wsX4_tell wsX4_isSet := goodIn_r _ [7, 8, 9, 10, 6, 11, 12, 13, 14, 15, 16, 17, 18, 19] (by decide +kernel) (by decide +kernel)
set_option maxRecDepth 20000 in
theorem gX4_tell_X4_isSet : GoodIn wsX4_tell (wsV RX4 80 RX4 yX4_isSet wsX4_isSet) := goodIn_app (goodIn_of _ (by decide +kernel)) ggX4_tell_X4_isSet
theorem dX4_tell_0 : decode cX4_tell 0 = .ok (.aload_n 0, 1) := by decide +kernel
theorem dX4_tell_1 : decode cX4_tell 1 = .ok (.iload_n 1, 1) := by decide +kernel
theorem dX4_tell_2 : decode cX4_tell 2 = .ok (.invokevirtual 80, 3) := by decide +kernel
theorem dX4_tell_5 : decode cX4_tell 5 = .ok (.ifCond .eq 16, 3) := by decide +kernel
theorem dX4_tell_8 : decode cX4_tell 8 = .ok (.iload_n 2, 1) := by decide +kernel
theorem dX4_tell_9 : decode cX4_tell 9 = .ok (.ifCond .lt 12, 3) := by decide +kernel
theorem dX4_tell_12 : decode cX4_tell 12 = .ok (.iload_n 2, 1) := by decide +kernel
theorem dX4_tell_13 : decode cX4_tell 13 = .ok (.i2l, 1) := by decide +kernel
theorem dX4_tell_14 : decode cX4_tell 14 = .ok (.ldc2_w 115, 3) := by decide +kernel
theorem dX4_tell_17 : decode cX4_tell 17 = .ok (.lcmp, 1) := by decide +kernel
theorem dX4_tell_18 : decode cX4_tell 18 = .ok (.ifCond .le 5, 3) := by decide +kernel
theorem dX4_tell_21 : decode cX4_tell 21 = .ok (.iconst 0, 1) := by decide +kernel
theorem dX4_tell_22 : decode cX4_tell 22 = .ok (.ireturn, 1) := by decide +kernel
theorem dX4_tell_23 : decode cX4_tell 23 = .ok (.aload_n 0, 1) := by decide +kernel
theorem dX4_tell_24 : decode cX4_tell 24 = .ok (.getfield 48, 3) := by decide +kernel
theorem dX4_tell_27 : decode cX4_tell 27 = .ok (.iload_n 1, 1) := by decide +kernel
theorem dX4_tell_28 : decode cX4_tell 28 = .ok (.iload_n 2, 1) := by decide +kernel
theorem dX4_tell_29 : decode cX4_tell 29 = .ok (.i2l, 1) := by decide +kernel
theorem dX4_tell_30 : decode cX4_tell 30 = .ok (.lastore, 1) := by decide +kernel
theorem dX4_tell_31 : decode cX4_tell 31 = .ok (.iconst 1, 1) := by decide +kernel
theorem dX4_tell_32 : decode cX4_tell 32 = .ok (.ireturn, 1) := by decide +kernel
set_option maxRecDepth 20000 in
theorem ggX4_hand_X4_isPlace : GoodIn wsX4_hand wsX4_isPlace := goodIn_r _ [11, 12, 13, 10, 14] (by decide +kernel) (by decide +kernel)
set_option maxRecDepth 20000 in
theorem gX4_hand_X4_isPlace : GoodIn wsX4_hand (va_wsS RX4 62 yX4_isPlace wsX4_isPlace) := goodIn_app (goodIn_of _ (by decide +kernel)) ggX4_hand_X4_isPlace
set_option maxRecDepth 20000 in
theorem ggX4_hand_X4_settle : GoodIn wsX4_hand wsX4_settle := goodIn_r _ [18, 3, 2, 19, 20, 21, 22, 10, 23, 24, 25, 26, 27, 28, 29, 30, 31, 32, 33, 34, 35, 36, 37, 38, 39, 40, 41, 42] (by decide +kernel) (by decide +kernel)
set_option maxRecDepth 20000 in
theorem gX4_hand_X4_settle : GoodIn wsX4_hand (wsV RX4 91 RX4 yX4_settle wsX4_settle) := goodIn_app (goodIn_of _ (by decide +kernel)) ggX4_hand_X4_settle
theorem dX4_hand_0 : decode cX4_hand 0 = .ok (.iload_n 1, 1) := by decide +kernel
theorem dX4_hand_1 : decode cX4_hand 1 = .ok (.invokestatic 62, 3) := by decide +kernel
theorem dX4_hand_4 : decode cX4_hand 4 = .ok (.ifCond .ne 5, 3) := by decide +kernel
theorem dX4_hand_7 : decode cX4_hand 7 = .ok (.iconst 0, 1) := by decide +kernel
theorem dX4_hand_8 : decode cX4_hand 8 = .ok (.ireturn, 1) := by decide +kernel
theorem dX4_hand_9 : decode cX4_hand 9 = .ok (.aload_n 0, 1) := by decide +kernel
theorem dX4_hand_10 : decode cX4_hand 10 = .ok (.getfield 48, 3) := by decide +kernel
theorem dX4_hand_13 : decode cX4_hand 13 = .ok (.iconst 0, 1) := by decide +kernel
theorem dX4_hand_14 : decode cX4_hand 14 = .ok (.aload_n 0, 1) := by decide +kernel
theorem dX4_hand_15 : decode cX4_hand 15 = .ok (.getfield 52, 3) := by decide +kernel
theorem dX4_hand_18 : decode cX4_hand 18 = .ok (.iconst 0, 1) := by decide +kernel
theorem dX4_hand_19 : decode cX4_hand 19 = .ok (.aload_n 0, 1) := by decide +kernel
theorem dX4_hand_20 : decode cX4_hand 20 = .ok (.getfield 22, 3) := by decide +kernel
theorem dX4_hand_23 : decode cX4_hand 23 = .ok (.invokestatic 117, 3) := by decide +kernel
theorem dX4_hand_26 : decode cX4_hand 26 = .ok (.aload_n 0, 1) := by decide +kernel
theorem dX4_hand_27 : decode cX4_hand 27 = .ok (.iload_n 1, 1) := by decide +kernel
theorem dX4_hand_28 : decode cX4_hand 28 = .ok (.invokevirtual 91, 3) := by decide +kernel
theorem dX4_hand_31 : decode cX4_hand 31 = .ok (.ireturn, 1) := by decide +kernel
set_option maxRecDepth 20000 in
theorem ggX4_given_X4_lawAt : GoodIn wsX4_given wsX4_lawAt := goodIn_r _ [8, 9, 10, 11, 12, 7, 13, 14, 15, 16, 40, 41, 42, 43, 44, 45, 46, 47, 48, 49, 50] (by decide +kernel) (by decide +kernel)
set_option maxRecDepth 20000 in
theorem gX4_given_X4_lawAt : GoodIn wsX4_given (wsV RX4 123 RX4 yX4_lawAt wsX4_lawAt) := goodIn_app (goodIn_of _ (by decide +kernel)) ggX4_given_X4_lawAt
set_option maxRecDepth 20000 in
theorem ggX4_given_X4_isSet : GoodIn wsX4_given wsX4_isSet := goodIn_r _ [20, 1, 14, 15, 7, 16, 40, 41, 42, 43, 44, 45, 46, 47] (by decide +kernel) (by decide +kernel)
set_option maxRecDepth 20000 in
theorem gX4_given_X4_isSet : GoodIn wsX4_given (wsV RX4 80 RX4 yX4_isSet wsX4_isSet) := goodIn_app (goodIn_of _ (by decide +kernel)) ggX4_given_X4_isSet
set_option maxRecDepth 20000 in
theorem ggX4_given_X4_isPlace : GoodIn wsX4_given wsX4_isPlace := goodIn_r _ [13, 14, 15, 7, 16] (by decide +kernel) (by decide +kernel)
set_option maxRecDepth 20000 in
theorem gX4_given_X4_isPlace : GoodIn wsX4_given (va_wsS RX4 62 yX4_isPlace wsX4_isPlace) := goodIn_app (goodIn_of _ (by decide +kernel)) ggX4_given_X4_isPlace
set_option maxRecDepth 20000 in
theorem ggX4_given_X4_fits : GoodIn wsX4_given wsX4_fits := goodIn_r _ [23] (by decide +kernel) (by decide +kernel)
set_option maxRecDepth 20000 in
theorem gX4_given_X4_fits : GoodIn wsX4_given (va_wsS RX4 127 yX4_fits wsX4_fits) := goodIn_app (goodIn_of _ (by decide +kernel)) ggX4_given_X4_fits
set_option maxRecDepth 20000 in
theorem ggX4_given_X4_settle : GoodIn wsX4_given wsX4_settle := goodIn_r _ [27, 1, 2, 28, 9, 29, 30, 7, 31, 32, 33, 34, 35, 36, 37, 38, 39, 40, 41, 42, 43, 44, 45, 46, 47, 48, 49, 50] (by decide +kernel) (by decide +kernel)
set_option maxRecDepth 20000 in
theorem gX4_given_X4_settle : GoodIn wsX4_given (wsV RX4 91 RX4 yX4_settle wsX4_settle) := goodIn_app (goodIn_of _ (by decide +kernel)) ggX4_given_X4_settle
theorem dX4_given_0 : decode cX4_given 0 = .ok (.aload_n 0, 1) := by decide +kernel
theorem dX4_given_1 : decode cX4_given 1 = .ok (.iload_n 1, 1) := by decide +kernel
theorem dX4_given_2 : decode cX4_given 2 = .ok (.invokevirtual 123, 3) := by decide +kernel
theorem dX4_given_5 : decode cX4_given 5 = .ok (.astore 5, 2) := by decide +kernel
theorem dX4_given_7 : decode cX4_given 7 = .ok (.aload 5, 2) := by decide +kernel
theorem dX4_given_9 : decode cX4_given 9 = .ok (.ifnull 27, 3) := by decide +kernel
theorem dX4_given_12 : decode cX4_given 12 = .ok (.aload_n 0, 1) := by decide +kernel
theorem dX4_given_13 : decode cX4_given 13 = .ok (.iload_n 2, 1) := by decide +kernel
theorem dX4_given_14 : decode cX4_given 14 = .ok (.invokevirtual 80, 3) := by decide +kernel
theorem dX4_given_17 : decode cX4_given 17 = .ok (.ifCond .eq 19, 3) := by decide +kernel
theorem dX4_given_20 : decode cX4_given 20 = .ok (.aload_n 0, 1) := by decide +kernel
theorem dX4_given_21 : decode cX4_given 21 = .ok (.iload_n 3, 1) := by decide +kernel
theorem dX4_given_22 : decode cX4_given 22 = .ok (.invokevirtual 80, 3) := by decide +kernel
theorem dX4_given_25 : decode cX4_given 25 = .ok (.ifCond .eq 11, 3) := by decide +kernel
theorem dX4_given_28 : decode cX4_given 28 = .ok (.iload 4, 2) := by decide +kernel
theorem dX4_given_30 : decode cX4_given 30 = .ok (.invokestatic 62, 3) := by decide +kernel
theorem dX4_given_33 : decode cX4_given 33 = .ok (.ifCond .ne 5, 3) := by decide +kernel
theorem dX4_given_36 : decode cX4_given 36 = .ok (.iconst 0, 1) := by decide +kernel
theorem dX4_given_37 : decode cX4_given 37 = .ok (.ireturn, 1) := by decide +kernel
theorem dX4_given_38 : decode cX4_given 38 = .ok (.iconst 0, 1) := by decide +kernel
theorem dX4_given_39 : decode cX4_given 39 = .ok (.istore 6, 2) := by decide +kernel
theorem dX4_given_41 : decode cX4_given 41 = .ok (.iload 6, 2) := by decide +kernel
theorem dX4_given_43 : decode cX4_given 43 = .ok (.aload_n 0, 1) := by decide +kernel
theorem dX4_given_44 : decode cX4_given 44 = .ok (.getfield 22, 3) := by decide +kernel
theorem dX4_given_47 : decode cX4_given 47 = .ok (.if_icmp .ge 38, 3) := by decide +kernel
theorem dX4_given_50 : decode cX4_given 50 = .ok (.aload_n 0, 1) := by decide +kernel
theorem dX4_given_51 : decode cX4_given 51 = .ok (.getfield 52, 3) := by decide +kernel
theorem dX4_given_54 : decode cX4_given 54 = .ok (.iload 6, 2) := by decide +kernel
theorem dX4_given_56 : decode cX4_given 56 = .ok (.iload 6, 2) := by decide +kernel
theorem dX4_given_58 : decode cX4_given 58 = .ok (.iload_n 2, 1) := by decide +kernel
theorem dX4_given_59 : decode cX4_given 59 = .ok (.iload_n 3, 1) := by decide +kernel
theorem dX4_given_60 : decode cX4_given 60 = .ok (.invokestatic 127, 3) := by decide +kernel
theorem dX4_given_63 : decode cX4_given 63 = .ok (.ifCond .eq 14, 3) := by decide +kernel
theorem dX4_given_66 : decode cX4_given 66 = .ok (.aload 5, 2) := by decide +kernel
theorem dX4_given_68 : decode cX4_given 68 = .ok (.getfield 130, 3) := by decide +kernel
theorem dX4_given_71 : decode cX4_given 71 = .ok (.iload 6, 2) := by decide +kernel
theorem dX4_given_73 : decode cX4_given 73 = .ok (.laload, 1) := by decide +kernel
theorem dX4_given_74 : decode cX4_given 74 = .ok (.goto 4, 3) := by decide +kernel
theorem dX4_given_77 : decode cX4_given 77 = .ok (.lconst 0, 1) := by decide +kernel
theorem dX4_given_78 : decode cX4_given 78 = .ok (.lastore, 1) := by decide +kernel
theorem dX4_given_79 : decode cX4_given 79 = .ok (.iinc 6 1, 3) := by decide +kernel
theorem dX4_given_82 : decode cX4_given 82 = .ok (.goto (-41), 3) := by decide +kernel
theorem dX4_given_85 : decode cX4_given 85 = .ok (.aload_n 0, 1) := by decide +kernel
theorem dX4_given_86 : decode cX4_given 86 = .ok (.iload 4, 2) := by decide +kernel
theorem dX4_given_88 : decode cX4_given 88 = .ok (.invokevirtual 91, 3) := by decide +kernel
theorem dX4_given_91 : decode cX4_given 91 = .ok (.ireturn, 1) := by decide +kernel
set_option maxRecDepth 20000 in
theorem ggX4_thin_X4_lawAt : GoodIn wsX4_thin wsX4_lawAt := goodIn_r _ [13, 14, 15, 16, 17, 12, 18, 19, 20, 21, 53, 54, 55, 56, 57, 58, 59, 60, 50, 51, 52] (by decide +kernel) (by decide +kernel)
set_option maxRecDepth 20000 in
theorem gX4_thin_X4_lawAt : GoodIn wsX4_thin (wsV RX4 123 RX4 yX4_lawAt wsX4_lawAt) := goodIn_app (goodIn_of _ (by decide +kernel)) ggX4_thin_X4_lawAt
set_option maxRecDepth 20000 in
theorem ggX4_thin_X4_isSet : GoodIn wsX4_thin wsX4_isSet := goodIn_r _ [25, 3, 19, 20, 12, 21, 53, 54, 55, 56, 57, 58, 59, 60] (by decide +kernel) (by decide +kernel)
set_option maxRecDepth 20000 in
theorem gX4_thin_X4_isSet : GoodIn wsX4_thin (wsV RX4 80 RX4 yX4_isSet wsX4_isSet) := goodIn_app (goodIn_of _ (by decide +kernel)) ggX4_thin_X4_isSet
set_option maxRecDepth 20000 in
theorem ggX4_thin_X4_isPlace : GoodIn wsX4_thin wsX4_isPlace := goodIn_r _ [18, 19, 20, 12, 21] (by decide +kernel) (by decide +kernel)
set_option maxRecDepth 20000 in
theorem gX4_thin_X4_isPlace : GoodIn wsX4_thin (va_wsS RX4 62 yX4_isPlace wsX4_isPlace) := goodIn_app (goodIn_of _ (by decide +kernel)) ggX4_thin_X4_isPlace
set_option maxRecDepth 20000 in
theorem ggX4_thin_X4_has : GoodIn wsX4_thin wsX4_has := goodIn_r _ [28] (by decide +kernel) (by decide +kernel)
set_option maxRecDepth 20000 in
theorem gX4_thin_X4_has : GoodIn wsX4_thin (va_wsS RX4 133 yX4_has wsX4_has) := goodIn_app (goodIn_of _ (by decide +kernel)) ggX4_thin_X4_has
set_option maxRecDepth 20000 in
theorem ggX4_thin_X4_halveDraft : GoodIn wsX4_thin wsX4_halveDraft := goodIn_r _ [32, 3, 2, 33, 53, 54, 55, 56, 57, 58, 59, 60] (by decide +kernel) (by decide +kernel)
set_option maxRecDepth 20000 in
theorem gX4_thin_X4_halveDraft : GoodIn wsX4_thin (wsV RX4 136 RX4 yX4_halveDraft wsX4_halveDraft) := goodIn_app (goodIn_of _ (by decide +kernel)) ggX4_thin_X4_halveDraft
set_option maxRecDepth 20000 in
theorem ggX4_thin_X4_settle : GoodIn wsX4_thin wsX4_settle := goodIn_r _ [37, 3, 2, 38, 14, 39, 40, 12, 41, 42, 43, 44, 45, 46, 47, 48, 49, 53, 54, 55, 56, 57, 58, 59, 60, 50, 51, 52] (by decide +kernel) (by decide +kernel)
set_option maxRecDepth 20000 in
theorem gX4_thin_X4_settle : GoodIn wsX4_thin (wsV RX4 91 RX4 yX4_settle wsX4_settle) := goodIn_app (goodIn_of _ (by decide +kernel)) ggX4_thin_X4_settle
theorem dX4_thin_0 : decode cX4_thin 0 = .ok (.aload_n 0, 1) := by decide +kernel
theorem dX4_thin_1 : decode cX4_thin 1 = .ok (.iload_n 1, 1) := by decide +kernel
theorem dX4_thin_2 : decode cX4_thin 2 = .ok (.invokevirtual 123, 3) := by decide +kernel
theorem dX4_thin_5 : decode cX4_thin 5 = .ok (.astore 4, 2) := by decide +kernel
theorem dX4_thin_7 : decode cX4_thin 7 = .ok (.aload 4, 2) := by decide +kernel
theorem dX4_thin_9 : decode cX4_thin 9 = .ok (.ifnull 18, 3) := by decide +kernel
theorem dX4_thin_12 : decode cX4_thin 12 = .ok (.aload_n 0, 1) := by decide +kernel
theorem dX4_thin_13 : decode cX4_thin 13 = .ok (.iload_n 2, 1) := by decide +kernel
theorem dX4_thin_14 : decode cX4_thin 14 = .ok (.invokevirtual 80, 3) := by decide +kernel
theorem dX4_thin_17 : decode cX4_thin 17 = .ok (.ifCond .eq 10, 3) := by decide +kernel
theorem dX4_thin_20 : decode cX4_thin 20 = .ok (.iload_n 3, 1) := by decide +kernel
theorem dX4_thin_21 : decode cX4_thin 21 = .ok (.invokestatic 62, 3) := by decide +kernel
theorem dX4_thin_24 : decode cX4_thin 24 = .ok (.ifCond .ne 5, 3) := by decide +kernel
theorem dX4_thin_27 : decode cX4_thin 27 = .ok (.iconst 0, 1) := by decide +kernel
theorem dX4_thin_28 : decode cX4_thin 28 = .ok (.ireturn, 1) := by decide +kernel
theorem dX4_thin_29 : decode cX4_thin 29 = .ok (.aload 4, 2) := by decide +kernel
theorem dX4_thin_31 : decode cX4_thin 31 = .ok (.getfield 130, 3) := by decide +kernel
theorem dX4_thin_34 : decode cX4_thin 34 = .ok (.iconst 0, 1) := by decide +kernel
theorem dX4_thin_35 : decode cX4_thin 35 = .ok (.aload_n 0, 1) := by decide +kernel
theorem dX4_thin_36 : decode cX4_thin 36 = .ok (.getfield 52, 3) := by decide +kernel
theorem dX4_thin_39 : decode cX4_thin 39 = .ok (.iconst 0, 1) := by decide +kernel
theorem dX4_thin_40 : decode cX4_thin 40 = .ok (.aload_n 0, 1) := by decide +kernel
theorem dX4_thin_41 : decode cX4_thin 41 = .ok (.getfield 22, 3) := by decide +kernel
theorem dX4_thin_44 : decode cX4_thin 44 = .ok (.invokestatic 117, 3) := by decide +kernel
theorem dX4_thin_47 : decode cX4_thin 47 = .ok (.iconst 0, 1) := by decide +kernel
theorem dX4_thin_48 : decode cX4_thin 48 = .ok (.istore 5, 2) := by decide +kernel
theorem dX4_thin_50 : decode cX4_thin 50 = .ok (.iload 5, 2) := by decide +kernel
theorem dX4_thin_52 : decode cX4_thin 52 = .ok (.aload_n 0, 1) := by decide +kernel
theorem dX4_thin_53 : decode cX4_thin 53 = .ok (.getfield 18, 3) := by decide +kernel
theorem dX4_thin_56 : decode cX4_thin 56 = .ok (.if_icmp .ge 26, 3) := by decide +kernel
theorem dX4_thin_59 : decode cX4_thin 59 = .ok (.iload_n 2, 1) := by decide +kernel
theorem dX4_thin_60 : decode cX4_thin 60 = .ok (.iload 5, 2) := by decide +kernel
theorem dX4_thin_62 : decode cX4_thin 62 = .ok (.invokestatic 133, 3) := by decide +kernel
theorem dX4_thin_65 : decode cX4_thin 65 = .ok (.ifCond .eq 11, 3) := by decide +kernel
theorem dX4_thin_68 : decode cX4_thin 68 = .ok (.aload_n 0, 1) := by decide +kernel
theorem dX4_thin_69 : decode cX4_thin 69 = .ok (.iconst 1, 1) := by decide +kernel
theorem dX4_thin_70 : decode cX4_thin 70 = .ok (.iload 5, 2) := by decide +kernel
theorem dX4_thin_72 : decode cX4_thin 72 = .ok (.ishl, 1) := by decide +kernel
theorem dX4_thin_73 : decode cX4_thin 73 = .ok (.invokevirtual 136, 3) := by decide +kernel
theorem dX4_thin_76 : decode cX4_thin 76 = .ok (.iinc 5 1, 3) := by decide +kernel
theorem dX4_thin_79 : decode cX4_thin 79 = .ok (.goto (-29), 3) := by decide +kernel
theorem dX4_thin_82 : decode cX4_thin 82 = .ok (.aload_n 0, 1) := by decide +kernel
theorem dX4_thin_83 : decode cX4_thin 83 = .ok (.iload_n 3, 1) := by decide +kernel
theorem dX4_thin_84 : decode cX4_thin 84 = .ok (.invokevirtual 91, 3) := by decide +kernel
theorem dX4_thin_87 : decode cX4_thin 87 = .ok (.ireturn, 1) := by decide +kernel
set_option maxRecDepth 20000 in
theorem ggX4_part_X4_lawAt : GoodIn wsX4_part wsX4_lawAt := goodIn_r _ [8, 9, 10, 11, 12, 7, 13, 14, 15, 16, 37, 38, 39, 40, 41, 42, 43, 44, 45, 46, 47] (by decide +kernel) (by decide +kernel)
set_option maxRecDepth 20000 in
theorem gX4_part_X4_lawAt : GoodIn wsX4_part (wsV RX4 123 RX4 yX4_lawAt wsX4_lawAt) := goodIn_app (goodIn_of _ (by decide +kernel)) ggX4_part_X4_lawAt
set_option maxRecDepth 20000 in
theorem ggX4_part_X4_isSet : GoodIn wsX4_part wsX4_isSet := goodIn_r _ [20, 1, 14, 15, 7, 16, 37, 38, 39, 40, 41, 42, 43, 44] (by decide +kernel) (by decide +kernel)
set_option maxRecDepth 20000 in
theorem gX4_part_X4_isSet : GoodIn wsX4_part (wsV RX4 80 RX4 yX4_isSet wsX4_isSet) := goodIn_app (goodIn_of _ (by decide +kernel)) ggX4_part_X4_isSet
set_option maxRecDepth 20000 in
theorem ggX4_part_X4_isPlace : GoodIn wsX4_part wsX4_isPlace := goodIn_r _ [13, 14, 15, 7, 16] (by decide +kernel) (by decide +kernel)
set_option maxRecDepth 20000 in
theorem gX4_part_X4_isPlace : GoodIn wsX4_part (va_wsS RX4 62 yX4_isPlace wsX4_isPlace) := goodIn_app (goodIn_of _ (by decide +kernel)) ggX4_part_X4_isPlace
set_option maxRecDepth 20000 in
theorem ggX4_part_X4_settle : GoodIn wsX4_part wsX4_settle := goodIn_r _ [24, 1, 2, 25, 9, 26, 27, 7, 28, 29, 30, 31, 32, 33, 34, 35, 36, 37, 38, 39, 40, 41, 42, 43, 44, 45, 46, 47] (by decide +kernel) (by decide +kernel)
set_option maxRecDepth 20000 in
theorem gX4_part_X4_settle : GoodIn wsX4_part (wsV RX4 91 RX4 yX4_settle wsX4_settle) := goodIn_app (goodIn_of _ (by decide +kernel)) ggX4_part_X4_settle
theorem dX4_part_0 : decode cX4_part 0 = .ok (.aload_n 0, 1) := by decide +kernel
theorem dX4_part_1 : decode cX4_part 1 = .ok (.iload_n 1, 1) := by decide +kernel
theorem dX4_part_2 : decode cX4_part 2 = .ok (.invokevirtual 123, 3) := by decide +kernel
theorem dX4_part_5 : decode cX4_part 5 = .ok (.astore 4, 2) := by decide +kernel
theorem dX4_part_7 : decode cX4_part 7 = .ok (.aload 4, 2) := by decide +kernel
theorem dX4_part_9 : decode cX4_part 9 = .ok (.ifnull 18, 3) := by decide +kernel
theorem dX4_part_12 : decode cX4_part 12 = .ok (.aload_n 0, 1) := by decide +kernel
theorem dX4_part_13 : decode cX4_part 13 = .ok (.iload_n 2, 1) := by decide +kernel
theorem dX4_part_14 : decode cX4_part 14 = .ok (.invokevirtual 80, 3) := by decide +kernel
theorem dX4_part_17 : decode cX4_part 17 = .ok (.ifCond .eq 10, 3) := by decide +kernel
theorem dX4_part_20 : decode cX4_part 20 = .ok (.iload_n 3, 1) := by decide +kernel
theorem dX4_part_21 : decode cX4_part 21 = .ok (.invokestatic 62, 3) := by decide +kernel
theorem dX4_part_24 : decode cX4_part 24 = .ok (.ifCond .ne 5, 3) := by decide +kernel
theorem dX4_part_27 : decode cX4_part 27 = .ok (.iconst 0, 1) := by decide +kernel
theorem dX4_part_28 : decode cX4_part 28 = .ok (.ireturn, 1) := by decide +kernel
theorem dX4_part_29 : decode cX4_part 29 = .ok (.iconst 0, 1) := by decide +kernel
theorem dX4_part_30 : decode cX4_part 30 = .ok (.istore 5, 2) := by decide +kernel
theorem dX4_part_32 : decode cX4_part 32 = .ok (.iload 5, 2) := by decide +kernel
theorem dX4_part_34 : decode cX4_part 34 = .ok (.aload_n 0, 1) := by decide +kernel
theorem dX4_part_35 : decode cX4_part 35 = .ok (.getfield 22, 3) := by decide +kernel
theorem dX4_part_38 : decode cX4_part 38 = .ok (.if_icmp .ge 17, 3) := by decide +kernel
theorem dX4_part_41 : decode cX4_part 41 = .ok (.aload_n 0, 1) := by decide +kernel
theorem dX4_part_42 : decode cX4_part 42 = .ok (.getfield 52, 3) := by decide +kernel
theorem dX4_part_45 : decode cX4_part 45 = .ok (.iload 5, 2) := by decide +kernel
theorem dX4_part_47 : decode cX4_part 47 = .ok (.lconst 0, 1) := by decide +kernel
theorem dX4_part_48 : decode cX4_part 48 = .ok (.lastore, 1) := by decide +kernel
theorem dX4_part_49 : decode cX4_part 49 = .ok (.iinc 5 1, 3) := by decide +kernel
theorem dX4_part_52 : decode cX4_part 52 = .ok (.goto (-20), 3) := by decide +kernel
theorem dX4_part_55 : decode cX4_part 55 = .ok (.iconst 0, 1) := by decide +kernel
theorem dX4_part_56 : decode cX4_part 56 = .ok (.istore 5, 2) := by decide +kernel
theorem dX4_part_58 : decode cX4_part 58 = .ok (.iload 5, 2) := by decide +kernel
theorem dX4_part_60 : decode cX4_part 60 = .ok (.aload_n 0, 1) := by decide +kernel
theorem dX4_part_61 : decode cX4_part 61 = .ok (.getfield 22, 3) := by decide +kernel
theorem dX4_part_64 : decode cX4_part 64 = .ok (.if_icmp .ge 29, 3) := by decide +kernel
theorem dX4_part_67 : decode cX4_part 67 = .ok (.aload_n 0, 1) := by decide +kernel
theorem dX4_part_68 : decode cX4_part 68 = .ok (.getfield 52, 3) := by decide +kernel
theorem dX4_part_71 : decode cX4_part 71 = .ok (.iload 5, 2) := by decide +kernel
theorem dX4_part_73 : decode cX4_part 73 = .ok (.iload_n 2, 1) := by decide +kernel
theorem dX4_part_74 : decode cX4_part 74 = .ok (.iand, 1) := by decide +kernel
theorem dX4_part_75 : decode cX4_part 75 = .ok (.dup2, 1) := by decide +kernel
theorem dX4_part_76 : decode cX4_part 76 = .ok (.laload, 1) := by decide +kernel
theorem dX4_part_77 : decode cX4_part 77 = .ok (.aload 4, 2) := by decide +kernel
theorem dX4_part_79 : decode cX4_part 79 = .ok (.getfield 130, 3) := by decide +kernel
theorem dX4_part_82 : decode cX4_part 82 = .ok (.iload 5, 2) := by decide +kernel
theorem dX4_part_84 : decode cX4_part 84 = .ok (.laload, 1) := by decide +kernel
theorem dX4_part_85 : decode cX4_part 85 = .ok (.ladd, 1) := by decide +kernel
theorem dX4_part_86 : decode cX4_part 86 = .ok (.lastore, 1) := by decide +kernel
theorem dX4_part_87 : decode cX4_part 87 = .ok (.iinc 5 1, 3) := by decide +kernel
theorem dX4_part_90 : decode cX4_part 90 = .ok (.goto (-32), 3) := by decide +kernel
theorem dX4_part_93 : decode cX4_part 93 = .ok (.aload_n 0, 1) := by decide +kernel
theorem dX4_part_94 : decode cX4_part 94 = .ok (.iload_n 3, 1) := by decide +kernel
theorem dX4_part_95 : decode cX4_part 95 = .ok (.invokevirtual 91, 3) := by decide +kernel
theorem dX4_part_98 : decode cX4_part 98 = .ok (.ireturn, 1) := by decide +kernel
set_option maxRecDepth 20000 in
theorem ggX4_other_X4_lawAt : GoodIn wsX4_other wsX4_lawAt := goodIn_r _ [8, 9, 10, 11, 12, 7, 13, 14, 15, 16, 37, 38, 39, 40, 41, 42, 43, 44, 45, 46, 47] (by decide +kernel) (by decide +kernel)
set_option maxRecDepth 20000 in
theorem gX4_other_X4_lawAt : GoodIn wsX4_other (wsV RX4 123 RX4 yX4_lawAt wsX4_lawAt) := goodIn_app (goodIn_of _ (by decide +kernel)) ggX4_other_X4_lawAt
set_option maxRecDepth 20000 in
theorem ggX4_other_X4_isSet : GoodIn wsX4_other wsX4_isSet := goodIn_r _ [20, 1, 14, 15, 7, 16, 37, 38, 39, 40, 41, 42, 43, 44] (by decide +kernel) (by decide +kernel)
set_option maxRecDepth 20000 in
theorem gX4_other_X4_isSet : GoodIn wsX4_other (wsV RX4 80 RX4 yX4_isSet wsX4_isSet) := goodIn_app (goodIn_of _ (by decide +kernel)) ggX4_other_X4_isSet
set_option maxRecDepth 20000 in
theorem ggX4_other_X4_isPlace : GoodIn wsX4_other wsX4_isPlace := goodIn_r _ [13, 14, 15, 7, 16] (by decide +kernel) (by decide +kernel)
set_option maxRecDepth 20000 in
theorem gX4_other_X4_isPlace : GoodIn wsX4_other (va_wsS RX4 62 yX4_isPlace wsX4_isPlace) := goodIn_app (goodIn_of _ (by decide +kernel)) ggX4_other_X4_isPlace
set_option maxRecDepth 20000 in
theorem ggX4_other_X4_settle : GoodIn wsX4_other wsX4_settle := goodIn_r _ [24, 1, 2, 25, 9, 26, 27, 7, 28, 29, 30, 31, 32, 33, 34, 35, 36, 37, 38, 39, 40, 41, 42, 43, 44, 45, 46, 47] (by decide +kernel) (by decide +kernel)
set_option maxRecDepth 20000 in
theorem gX4_other_X4_settle : GoodIn wsX4_other (wsV RX4 91 RX4 yX4_settle wsX4_settle) := goodIn_app (goodIn_of _ (by decide +kernel)) ggX4_other_X4_settle
theorem dX4_other_0 : decode cX4_other 0 = .ok (.aload_n 0, 1) := by decide +kernel
theorem dX4_other_1 : decode cX4_other 1 = .ok (.iload_n 1, 1) := by decide +kernel
theorem dX4_other_2 : decode cX4_other 2 = .ok (.invokevirtual 123, 3) := by decide +kernel
theorem dX4_other_5 : decode cX4_other 5 = .ok (.astore 4, 2) := by decide +kernel
theorem dX4_other_7 : decode cX4_other 7 = .ok (.aload 4, 2) := by decide +kernel
theorem dX4_other_9 : decode cX4_other 9 = .ok (.ifnull 18, 3) := by decide +kernel
theorem dX4_other_12 : decode cX4_other 12 = .ok (.aload_n 0, 1) := by decide +kernel
theorem dX4_other_13 : decode cX4_other 13 = .ok (.iload_n 2, 1) := by decide +kernel
theorem dX4_other_14 : decode cX4_other 14 = .ok (.invokevirtual 80, 3) := by decide +kernel
theorem dX4_other_17 : decode cX4_other 17 = .ok (.ifCond .eq 10, 3) := by decide +kernel
theorem dX4_other_20 : decode cX4_other 20 = .ok (.iload_n 3, 1) := by decide +kernel
theorem dX4_other_21 : decode cX4_other 21 = .ok (.invokestatic 62, 3) := by decide +kernel
theorem dX4_other_24 : decode cX4_other 24 = .ok (.ifCond .ne 5, 3) := by decide +kernel
theorem dX4_other_27 : decode cX4_other 27 = .ok (.iconst 0, 1) := by decide +kernel
theorem dX4_other_28 : decode cX4_other 28 = .ok (.ireturn, 1) := by decide +kernel
theorem dX4_other_29 : decode cX4_other 29 = .ok (.iconst 0, 1) := by decide +kernel
theorem dX4_other_30 : decode cX4_other 30 = .ok (.istore 5, 2) := by decide +kernel
theorem dX4_other_32 : decode cX4_other 32 = .ok (.iload 5, 2) := by decide +kernel
theorem dX4_other_34 : decode cX4_other 34 = .ok (.aload_n 0, 1) := by decide +kernel
theorem dX4_other_35 : decode cX4_other 35 = .ok (.getfield 22, 3) := by decide +kernel
theorem dX4_other_38 : decode cX4_other 38 = .ok (.if_icmp .ge 26, 3) := by decide +kernel
theorem dX4_other_41 : decode cX4_other 41 = .ok (.aload_n 0, 1) := by decide +kernel
theorem dX4_other_42 : decode cX4_other 42 = .ok (.getfield 52, 3) := by decide +kernel
theorem dX4_other_45 : decode cX4_other 45 = .ok (.iload 5, 2) := by decide +kernel
theorem dX4_other_47 : decode cX4_other 47 = .ok (.iload_n 2, 1) := by decide +kernel
theorem dX4_other_48 : decode cX4_other 48 = .ok (.ixor, 1) := by decide +kernel
theorem dX4_other_49 : decode cX4_other 49 = .ok (.aload 4, 2) := by decide +kernel
theorem dX4_other_51 : decode cX4_other 51 = .ok (.getfield 130, 3) := by decide +kernel
theorem dX4_other_54 : decode cX4_other 54 = .ok (.iload 5, 2) := by decide +kernel
theorem dX4_other_56 : decode cX4_other 56 = .ok (.laload, 1) := by decide +kernel
theorem dX4_other_57 : decode cX4_other 57 = .ok (.lastore, 1) := by decide +kernel
theorem dX4_other_58 : decode cX4_other 58 = .ok (.iinc 5 1, 3) := by decide +kernel
theorem dX4_other_61 : decode cX4_other 61 = .ok (.goto (-29), 3) := by decide +kernel
theorem dX4_other_64 : decode cX4_other 64 = .ok (.aload_n 0, 1) := by decide +kernel
theorem dX4_other_65 : decode cX4_other 65 = .ok (.iload_n 3, 1) := by decide +kernel
theorem dX4_other_66 : decode cX4_other 66 = .ok (.invokevirtual 91, 3) := by decide +kernel
theorem dX4_other_69 : decode cX4_other 69 = .ok (.ireturn, 1) := by decide +kernel
set_option maxRecDepth 20000 in
theorem ggX4_mix_X4_lawAt : GoodIn wsX4_mix wsX4_lawAt := goodIn_r _ [9, 10, 11, 12, 13, 8, 14, 15, 16, 17, 37, 38, 39, 40, 41, 42, 43, 44, 34, 35, 36] (by decide +kernel) (by decide +kernel)
set_option maxRecDepth 20000 in
theorem gX4_mix_X4_lawAt : GoodIn wsX4_mix (wsV RX4 123 RX4 yX4_lawAt wsX4_lawAt) := goodIn_app (goodIn_of _ (by decide +kernel)) ggX4_mix_X4_lawAt
set_option maxRecDepth 20000 in
theorem ggX4_mix_X4_isPlace : GoodIn wsX4_mix wsX4_isPlace := goodIn_r _ [14, 15, 16, 8, 17] (by decide +kernel) (by decide +kernel)
set_option maxRecDepth 20000 in
theorem gX4_mix_X4_isPlace : GoodIn wsX4_mix (va_wsS RX4 62 yX4_isPlace wsX4_isPlace) := goodIn_app (goodIn_of _ (by decide +kernel)) ggX4_mix_X4_isPlace
set_option maxRecDepth 20000 in
theorem ggX4_mix_X4_isAmong : GoodIn wsX4_mix wsX4_isAmong := goodIn_r _ [17] (by decide +kernel) (by decide +kernel)
set_option maxRecDepth 20000 in
theorem gX4_mix_X4_isAmong : GoodIn wsX4_mix (va_wsS RX4 69 yX4_isAmong wsX4_isAmong) := goodIn_app (goodIn_of _ (by decide +kernel)) ggX4_mix_X4_isAmong
set_option maxRecDepth 20000 in
theorem ggX4_mix_X4_settle : GoodIn wsX4_mix wsX4_settle := goodIn_r _ [21, 2, 3, 22, 10, 23, 24, 8, 25, 26, 27, 28, 29, 30, 31, 32, 33, 37, 38, 39, 40, 41, 42, 43, 44, 34, 35, 36] (by decide +kernel) (by decide +kernel)
set_option maxRecDepth 20000 in
theorem gX4_mix_X4_settle : GoodIn wsX4_mix (wsV RX4 91 RX4 yX4_settle wsX4_settle) := goodIn_app (goodIn_of _ (by decide +kernel)) ggX4_mix_X4_settle
theorem dX4_mix_0 : decode cX4_mix 0 = .ok (.aload_n 0, 1) := by decide +kernel
theorem dX4_mix_1 : decode cX4_mix 1 = .ok (.iload_n 1, 1) := by decide +kernel
theorem dX4_mix_2 : decode cX4_mix 2 = .ok (.invokevirtual 123, 3) := by decide +kernel
theorem dX4_mix_5 : decode cX4_mix 5 = .ok (.astore 6, 2) := by decide +kernel
theorem dX4_mix_7 : decode cX4_mix 7 = .ok (.aload_n 0, 1) := by decide +kernel
theorem dX4_mix_8 : decode cX4_mix 8 = .ok (.iload_n 2, 1) := by decide +kernel
theorem dX4_mix_9 : decode cX4_mix 9 = .ok (.invokevirtual 123, 3) := by decide +kernel
theorem dX4_mix_12 : decode cX4_mix 12 = .ok (.astore 7, 2) := by decide +kernel
theorem dX4_mix_14 : decode cX4_mix 14 = .ok (.aload 6, 2) := by decide +kernel
theorem dX4_mix_16 : decode cX4_mix 16 = .ok (.ifnull 16, 3) := by decide +kernel
theorem dX4_mix_19 : decode cX4_mix 19 = .ok (.aload 7, 2) := by decide +kernel
theorem dX4_mix_21 : decode cX4_mix 21 = .ok (.ifnull 11, 3) := by decide +kernel
theorem dX4_mix_24 : decode cX4_mix 24 = .ok (.iload 5, 2) := by decide +kernel
theorem dX4_mix_26 : decode cX4_mix 26 = .ok (.invokestatic 62, 3) := by decide +kernel
theorem dX4_mix_29 : decode cX4_mix 29 = .ok (.ifCond .ne 5, 3) := by decide +kernel
theorem dX4_mix_32 : decode cX4_mix 32 = .ok (.iconst 0, 1) := by decide +kernel
theorem dX4_mix_33 : decode cX4_mix 33 = .ok (.ireturn, 1) := by decide +kernel
theorem dX4_mix_34 : decode cX4_mix 34 = .ok (.iload_n 3, 1) := by decide +kernel
theorem dX4_mix_35 : decode cX4_mix 35 = .ok (.iconst 1, 1) := by decide +kernel
theorem dX4_mix_36 : decode cX4_mix 36 = .ok (.bipush 9, 2) := by decide +kernel
theorem dX4_mix_38 : decode cX4_mix 38 = .ok (.invokestatic 69, 3) := by decide +kernel
theorem dX4_mix_41 : decode cX4_mix 41 = .ok (.ifCond .eq 14, 3) := by decide +kernel
theorem dX4_mix_44 : decode cX4_mix 44 = .ok (.iload 4, 2) := by decide +kernel
theorem dX4_mix_46 : decode cX4_mix 46 = .ok (.iconst 1, 1) := by decide +kernel
theorem dX4_mix_47 : decode cX4_mix 47 = .ok (.bipush 9, 2) := by decide +kernel
theorem dX4_mix_49 : decode cX4_mix 49 = .ok (.invokestatic 69, 3) := by decide +kernel
theorem dX4_mix_52 : decode cX4_mix 52 = .ok (.ifCond .ne 5, 3) := by decide +kernel
theorem dX4_mix_55 : decode cX4_mix 55 = .ok (.iconst 0, 1) := by decide +kernel
theorem dX4_mix_56 : decode cX4_mix 56 = .ok (.ireturn, 1) := by decide +kernel
theorem dX4_mix_57 : decode cX4_mix 57 = .ok (.iload_n 3, 1) := by decide +kernel
theorem dX4_mix_58 : decode cX4_mix 58 = .ok (.i2l, 1) := by decide +kernel
theorem dX4_mix_59 : decode cX4_mix 59 = .ok (.aload 7, 2) := by decide +kernel
theorem dX4_mix_61 : decode cX4_mix 61 = .ok (.getfield 139, 3) := by decide +kernel
theorem dX4_mix_64 : decode cX4_mix 64 = .ok (.lmul, 1) := by decide +kernel
theorem dX4_mix_65 : decode cX4_mix 65 = .ok (.lstore 8, 2) := by decide +kernel
theorem dX4_mix_67 : decode cX4_mix 67 = .ok (.iload 4, 2) := by decide +kernel
theorem dX4_mix_69 : decode cX4_mix 69 = .ok (.i2l, 1) := by decide +kernel
theorem dX4_mix_70 : decode cX4_mix 70 = .ok (.aload 6, 2) := by decide +kernel
theorem dX4_mix_72 : decode cX4_mix 72 = .ok (.getfield 139, 3) := by decide +kernel
theorem dX4_mix_75 : decode cX4_mix 75 = .ok (.lmul, 1) := by decide +kernel
theorem dX4_mix_76 : decode cX4_mix 76 = .ok (.lstore 10, 2) := by decide +kernel
theorem dX4_mix_78 : decode cX4_mix 78 = .ok (.iconst 0, 1) := by decide +kernel
theorem dX4_mix_79 : decode cX4_mix 79 = .ok (.istore 12, 2) := by decide +kernel
theorem dX4_mix_81 : decode cX4_mix 81 = .ok (.iload 12, 2) := by decide +kernel
theorem dX4_mix_83 : decode cX4_mix 83 = .ok (.aload_n 0, 1) := by decide +kernel
theorem dX4_mix_84 : decode cX4_mix 84 = .ok (.getfield 22, 3) := by decide +kernel
theorem dX4_mix_87 : decode cX4_mix 87 = .ok (.if_icmp .ge 39, 3) := by decide +kernel
theorem dX4_mix_90 : decode cX4_mix 90 = .ok (.aload_n 0, 1) := by decide +kernel
theorem dX4_mix_91 : decode cX4_mix 91 = .ok (.getfield 52, 3) := by decide +kernel
theorem dX4_mix_94 : decode cX4_mix 94 = .ok (.iload 12, 2) := by decide +kernel
theorem dX4_mix_96 : decode cX4_mix 96 = .ok (.aload 6, 2) := by decide +kernel
theorem dX4_mix_98 : decode cX4_mix 98 = .ok (.getfield 130, 3) := by decide +kernel
theorem dX4_mix_101 : decode cX4_mix 101 = .ok (.iload 12, 2) := by decide +kernel
theorem dX4_mix_103 : decode cX4_mix 103 = .ok (.laload, 1) := by decide +kernel
theorem dX4_mix_104 : decode cX4_mix 104 = .ok (.lload 8, 2) := by decide +kernel
theorem dX4_mix_106 : decode cX4_mix 106 = .ok (.lmul, 1) := by decide +kernel
theorem dX4_mix_107 : decode cX4_mix 107 = .ok (.aload 7, 2) := by decide +kernel
theorem dX4_mix_109 : decode cX4_mix 109 = .ok (.getfield 130, 3) := by decide +kernel
theorem dX4_mix_112 : decode cX4_mix 112 = .ok (.iload 12, 2) := by decide +kernel
theorem dX4_mix_114 : decode cX4_mix 114 = .ok (.laload, 1) := by decide +kernel
theorem dX4_mix_115 : decode cX4_mix 115 = .ok (.lload 10, 2) := by decide +kernel
theorem dX4_mix_117 : decode cX4_mix 117 = .ok (.lmul, 1) := by decide +kernel
theorem dX4_mix_118 : decode cX4_mix 118 = .ok (.ladd, 1) := by decide +kernel
theorem dX4_mix_119 : decode cX4_mix 119 = .ok (.lastore, 1) := by decide +kernel
theorem dX4_mix_120 : decode cX4_mix 120 = .ok (.iinc 12 1, 3) := by decide +kernel
theorem dX4_mix_123 : decode cX4_mix 123 = .ok (.goto (-42), 3) := by decide +kernel
theorem dX4_mix_126 : decode cX4_mix 126 = .ok (.aload_n 0, 1) := by decide +kernel
theorem dX4_mix_127 : decode cX4_mix 127 = .ok (.iload 5, 2) := by decide +kernel
theorem dX4_mix_129 : decode cX4_mix 129 = .ok (.invokevirtual 91, 3) := by decide +kernel
theorem dX4_mix_132 : decode cX4_mix 132 = .ok (.ireturn, 1) := by decide +kernel
set_option maxRecDepth 20000 in
theorem ggX4_share_X4_lawAt : GoodIn wsX4_share wsX4_lawAt := goodIn_r _ [7, 8, 9, 10, 11, 6, 12, 13, 14, 15, 24, 25, 26, 27, 28, 29, 30, 31, 21, 22, 23] (by decide +kernel) (by decide +kernel)
set_option maxRecDepth 20000 in
theorem gX4_share_X4_lawAt : GoodIn wsX4_share (wsV RX4 123 RX4 yX4_lawAt wsX4_lawAt) := goodIn_app (goodIn_of _ (by decide +kernel)) ggX4_share_X4_lawAt
set_option maxRecDepth 20000 in
theorem ggX4_share_X4_isSet : GoodIn wsX4_share wsX4_isSet := goodIn_r _ [19, 20, 13, 14, 6, 15, 24, 25, 26, 27, 28, 29, 30, 31] (by decide +kernel) (by decide +kernel)
set_option maxRecDepth 20000 in
theorem gX4_share_X4_isSet : GoodIn wsX4_share (wsV RX4 80 RX4 yX4_isSet wsX4_isSet) := goodIn_app (goodIn_of _ (by decide +kernel)) ggX4_share_X4_isSet
theorem dX4_share_0 : decode cX4_share 0 = .ok (.aload_n 0, 1) := by decide +kernel
theorem dX4_share_1 : decode cX4_share 1 = .ok (.iload_n 1, 1) := by decide +kernel
theorem dX4_share_2 : decode cX4_share 2 = .ok (.invokevirtual 123, 3) := by decide +kernel
theorem dX4_share_5 : decode cX4_share 5 = .ok (.astore_n 3, 1) := by decide +kernel
theorem dX4_share_6 : decode cX4_share 6 = .ok (.aload_n 3, 1) := by decide +kernel
theorem dX4_share_7 : decode cX4_share 7 = .ok (.ifnull 11, 3) := by decide +kernel
theorem dX4_share_10 : decode cX4_share 10 = .ok (.aload_n 0, 1) := by decide +kernel
theorem dX4_share_11 : decode cX4_share 11 = .ok (.iload_n 2, 1) := by decide +kernel
theorem dX4_share_12 : decode cX4_share 12 = .ok (.invokevirtual 80, 3) := by decide +kernel
theorem dX4_share_15 : decode cX4_share 15 = .ok (.ifCond .ne 7, 3) := by decide +kernel
theorem dX4_share_18 : decode cX4_share 18 = .ok (.ldc2_w 143, 3) := by decide +kernel
theorem dX4_share_21 : decode cX4_share 21 = .ok (.lreturn, 1) := by decide +kernel
theorem dX4_share_22 : decode cX4_share 22 = .ok (.aload_n 3, 1) := by decide +kernel
theorem dX4_share_23 : decode cX4_share 23 = .ok (.getfield 130, 3) := by decide +kernel
theorem dX4_share_26 : decode cX4_share 26 = .ok (.iload_n 2, 1) := by decide +kernel
theorem dX4_share_27 : decode cX4_share 27 = .ok (.laload, 1) := by decide +kernel
theorem dX4_share_28 : decode cX4_share 28 = .ok (.lreturn, 1) := by decide +kernel
set_option maxRecDepth 20000 in
theorem ggX4_chance_X4_lawAt : GoodIn wsX4_chance wsX4_lawAt := goodIn_r _ [8, 9, 10, 11, 12, 7, 13, 14, 15, 16, 38, 39, 40, 41, 42, 43, 44, 45, 35, 36, 37] (by decide +kernel) (by decide +kernel)
set_option maxRecDepth 20000 in
theorem gX4_chance_X4_lawAt : GoodIn wsX4_chance (wsV RX4 123 RX4 yX4_lawAt wsX4_lawAt) := goodIn_app (goodIn_of _ (by decide +kernel)) ggX4_chance_X4_lawAt
set_option maxRecDepth 20000 in
theorem ggX4_chance_X4_isSet : GoodIn wsX4_chance wsX4_isSet := goodIn_r _ [20, 21, 14, 15, 7, 16, 38, 39, 40, 41, 42, 43, 44, 45] (by decide +kernel) (by decide +kernel)
set_option maxRecDepth 20000 in
theorem gX4_chance_X4_isSet : GoodIn wsX4_chance (wsV RX4 80 RX4 yX4_isSet wsX4_isSet) := goodIn_app (goodIn_of _ (by decide +kernel)) ggX4_chance_X4_isSet
set_option maxRecDepth 20000 in
theorem ggX4_chance_X4_isWhat : GoodIn wsX4_chance wsX4_isWhat := goodIn_r _ [24, 14, 15, 7, 16] (by decide +kernel) (by decide +kernel)
set_option maxRecDepth 20000 in
theorem gX4_chance_X4_isWhat : GoodIn wsX4_chance (va_wsS RX4 145 yX4_isWhat wsX4_isWhat) := goodIn_app (goodIn_of _ (by decide +kernel)) ggX4_chance_X4_isWhat
set_option maxRecDepth 20000 in
theorem ggX4_chance_X4_lowest : GoodIn wsX4_chance wsX4_lowest := goodIn_r _ [27, 28, 29, 30, 31, 1, 32, 33, 7, 34] (by decide +kernel) (by decide +kernel)
set_option maxRecDepth 20000 in
theorem gX4_chance_X4_lowest : GoodIn wsX4_chance (va_wsS RX4 148 yX4_lowest wsX4_lowest) := goodIn_app (goodIn_of _ (by decide +kernel)) ggX4_chance_X4_lowest
theorem dX4_chance_0 : decode cX4_chance 0 = .ok (.aload_n 0, 1) := by decide +kernel
theorem dX4_chance_1 : decode cX4_chance 1 = .ok (.iload_n 1, 1) := by decide +kernel
theorem dX4_chance_2 : decode cX4_chance 2 = .ok (.invokevirtual 123, 3) := by decide +kernel
theorem dX4_chance_5 : decode cX4_chance 5 = .ok (.astore 4, 2) := by decide +kernel
theorem dX4_chance_7 : decode cX4_chance 7 = .ok (.aload 4, 2) := by decide +kernel
theorem dX4_chance_9 : decode cX4_chance 9 = .ok (.ifnull 18, 3) := by decide +kernel
theorem dX4_chance_12 : decode cX4_chance 12 = .ok (.aload_n 0, 1) := by decide +kernel
theorem dX4_chance_13 : decode cX4_chance 13 = .ok (.iload_n 2, 1) := by decide +kernel
theorem dX4_chance_14 : decode cX4_chance 14 = .ok (.invokevirtual 80, 3) := by decide +kernel
theorem dX4_chance_17 : decode cX4_chance 17 = .ok (.ifCond .eq 10, 3) := by decide +kernel
theorem dX4_chance_20 : decode cX4_chance 20 = .ok (.iload_n 3, 1) := by decide +kernel
theorem dX4_chance_21 : decode cX4_chance 21 = .ok (.invokestatic 145, 3) := by decide +kernel
theorem dX4_chance_24 : decode cX4_chance 24 = .ok (.ifCond .ne 7, 3) := by decide +kernel
theorem dX4_chance_27 : decode cX4_chance 27 = .ok (.ldc2_w 143, 3) := by decide +kernel
theorem dX4_chance_30 : decode cX4_chance 30 = .ok (.lreturn, 1) := by decide +kernel
theorem dX4_chance_31 : decode cX4_chance 31 = .ok (.aload 4, 2) := by decide +kernel
theorem dX4_chance_33 : decode cX4_chance 33 = .ok (.getfield 130, 3) := by decide +kernel
theorem dX4_chance_36 : decode cX4_chance 36 = .ok (.iload_n 2, 1) := by decide +kernel
theorem dX4_chance_37 : decode cX4_chance 37 = .ok (.laload, 1) := by decide +kernel
theorem dX4_chance_38 : decode cX4_chance 38 = .ok (.aload 4, 2) := by decide +kernel
theorem dX4_chance_40 : decode cX4_chance 40 = .ok (.getfield 139, 3) := by decide +kernel
theorem dX4_chance_43 : decode cX4_chance 43 = .ok (.iload_n 3, 1) := by decide +kernel
theorem dX4_chance_44 : decode cX4_chance 44 = .ok (.invokestatic 148, 3) := by decide +kernel
theorem dX4_chance_47 : decode cX4_chance 47 = .ok (.lreturn, 1) := by decide +kernel
set_option maxRecDepth 20000 in
theorem ggX4_within_X4_lawAt : GoodIn wsX4_within wsX4_lawAt := goodIn_r _ [7, 8, 9, 10, 11, 6, 12, 13, 14, 15, 45, 46, 47, 48, 49, 50, 51, 52, 42, 43, 44] (by decide +kernel) (by decide +kernel)
set_option maxRecDepth 20000 in
theorem gX4_within_X4_lawAt : GoodIn wsX4_within (wsV RX4 123 RX4 yX4_lawAt wsX4_lawAt) := goodIn_app (goodIn_of _ (by decide +kernel)) ggX4_within_X4_lawAt
set_option maxRecDepth 20000 in
theorem ggX4_within_X4_isSet : GoodIn wsX4_within wsX4_isSet := goodIn_r _ [19, 20, 13, 14, 6, 15, 45, 46, 47, 48, 49, 50, 51, 52] (by decide +kernel) (by decide +kernel)
set_option maxRecDepth 20000 in
theorem gX4_within_X4_isSet : GoodIn wsX4_within (wsV RX4 80 RX4 yX4_isSet wsX4_isSet) := goodIn_app (goodIn_of _ (by decide +kernel)) ggX4_within_X4_isSet
set_option maxRecDepth 20000 in
theorem ggX4_within_X4_isWhat : GoodIn wsX4_within wsX4_isWhat := goodIn_r _ [23, 13, 14, 6, 15] (by decide +kernel) (by decide +kernel)
set_option maxRecDepth 20000 in
theorem gX4_within_X4_isWhat : GoodIn wsX4_within (va_wsS RX4 145 yX4_isWhat wsX4_isWhat) := goodIn_app (goodIn_of _ (by decide +kernel)) ggX4_within_X4_isWhat
set_option maxRecDepth 20000 in
theorem ggX4_within_X0_sumFitting : GoodIn wsX4_within wsX0_sumFitting := goodIn_r _ [28, 29, 30, 6, 31, 42, 43, 44] (by decide +kernel) (by decide +kernel)
set_option maxRecDepth 20000 in
theorem gX4_within_X0_sumFitting : GoodIn wsX4_within (wsV RX4 152 RX0 yX0_sumFitting wsX0_sumFitting) := goodIn_app (goodIn_of _ (by decide +kernel)) ggX4_within_X0_sumFitting
set_option maxRecDepth 20000 in
theorem ggX4_within_X4_lowest : GoodIn wsX4_within wsX4_lowest := goodIn_r _ [34, 35, 36, 37, 38, 1, 39, 40, 6, 41] (by decide +kernel) (by decide +kernel)
set_option maxRecDepth 20000 in
theorem gX4_within_X4_lowest : GoodIn wsX4_within (va_wsS RX4 148 yX4_lowest wsX4_lowest) := goodIn_app (goodIn_of _ (by decide +kernel)) ggX4_within_X4_lowest
theorem dX4_within_0 : decode cX4_within 0 = .ok (.aload_n 0, 1) := by decide +kernel
theorem dX4_within_1 : decode cX4_within 1 = .ok (.iload_n 1, 1) := by decide +kernel
theorem dX4_within_2 : decode cX4_within 2 = .ok (.invokevirtual 123, 3) := by decide +kernel
theorem dX4_within_5 : decode cX4_within 5 = .ok (.astore 4, 2) := by decide +kernel
theorem dX4_within_7 : decode cX4_within 7 = .ok (.aload 4, 2) := by decide +kernel
theorem dX4_within_9 : decode cX4_within 9 = .ok (.ifnull 18, 3) := by decide +kernel
theorem dX4_within_12 : decode cX4_within 12 = .ok (.aload_n 0, 1) := by decide +kernel
theorem dX4_within_13 : decode cX4_within 13 = .ok (.iload_n 2, 1) := by decide +kernel
theorem dX4_within_14 : decode cX4_within 14 = .ok (.invokevirtual 80, 3) := by decide +kernel
theorem dX4_within_17 : decode cX4_within 17 = .ok (.ifCond .eq 10, 3) := by decide +kernel
theorem dX4_within_20 : decode cX4_within 20 = .ok (.iload_n 3, 1) := by decide +kernel
theorem dX4_within_21 : decode cX4_within 21 = .ok (.invokestatic 145, 3) := by decide +kernel
theorem dX4_within_24 : decode cX4_within 24 = .ok (.ifCond .ne 7, 3) := by decide +kernel
theorem dX4_within_27 : decode cX4_within 27 = .ok (.ldc2_w 143, 3) := by decide +kernel
theorem dX4_within_30 : decode cX4_within 30 = .ok (.lreturn, 1) := by decide +kernel
theorem dX4_within_31 : decode cX4_within 31 = .ok (.aload 4, 2) := by decide +kernel
theorem dX4_within_33 : decode cX4_within 33 = .ok (.iload_n 2, 1) := by decide +kernel
theorem dX4_within_34 : decode cX4_within 34 = .ok (.iconst 0, 1) := by decide +kernel
theorem dX4_within_35 : decode cX4_within 35 = .ok (.invokevirtual 152, 3) := by decide +kernel
theorem dX4_within_38 : decode cX4_within 38 = .ok (.aload 4, 2) := by decide +kernel
theorem dX4_within_40 : decode cX4_within 40 = .ok (.getfield 139, 3) := by decide +kernel
theorem dX4_within_43 : decode cX4_within 43 = .ok (.iload_n 3, 1) := by decide +kernel
theorem dX4_within_44 : decode cX4_within 44 = .ok (.invokestatic 148, 3) := by decide +kernel
theorem dX4_within_47 : decode cX4_within 47 = .ok (.lreturn, 1) := by decide +kernel
set_option maxRecDepth 20000 in
theorem ggX4_out_X4_lawAt : GoodIn wsX4_out wsX4_lawAt := goodIn_r _ [7, 8, 9, 10, 11, 6, 12, 13, 14, 15, 45, 46, 47, 48, 49, 50, 51, 52, 42, 43, 44] (by decide +kernel) (by decide +kernel)
set_option maxRecDepth 20000 in
theorem gX4_out_X4_lawAt : GoodIn wsX4_out (wsV RX4 123 RX4 yX4_lawAt wsX4_lawAt) := goodIn_app (goodIn_of _ (by decide +kernel)) ggX4_out_X4_lawAt
set_option maxRecDepth 20000 in
theorem ggX4_out_X4_isSet : GoodIn wsX4_out wsX4_isSet := goodIn_r _ [19, 20, 13, 14, 6, 15, 45, 46, 47, 48, 49, 50, 51, 52] (by decide +kernel) (by decide +kernel)
set_option maxRecDepth 20000 in
theorem gX4_out_X4_isSet : GoodIn wsX4_out (wsV RX4 80 RX4 yX4_isSet wsX4_isSet) := goodIn_app (goodIn_of _ (by decide +kernel)) ggX4_out_X4_isSet
set_option maxRecDepth 20000 in
theorem ggX4_out_X4_isWhat : GoodIn wsX4_out wsX4_isWhat := goodIn_r _ [23, 13, 14, 6, 15] (by decide +kernel) (by decide +kernel)
set_option maxRecDepth 20000 in
theorem gX4_out_X4_isWhat : GoodIn wsX4_out (va_wsS RX4 145 yX4_isWhat wsX4_isWhat) := goodIn_app (goodIn_of _ (by decide +kernel)) ggX4_out_X4_isWhat
set_option maxRecDepth 20000 in
theorem ggX4_out_X0_sumFitting : GoodIn wsX4_out wsX0_sumFitting := goodIn_r _ [28, 29, 30, 6, 31, 42, 43, 44] (by decide +kernel) (by decide +kernel)
set_option maxRecDepth 20000 in
theorem gX4_out_X0_sumFitting : GoodIn wsX4_out (wsV RX4 152 RX0 yX0_sumFitting wsX0_sumFitting) := goodIn_app (goodIn_of _ (by decide +kernel)) ggX4_out_X0_sumFitting
set_option maxRecDepth 20000 in
theorem ggX4_out_X4_lowest : GoodIn wsX4_out wsX4_lowest := goodIn_r _ [34, 35, 36, 37, 38, 1, 39, 40, 6, 41] (by decide +kernel) (by decide +kernel)
set_option maxRecDepth 20000 in
theorem gX4_out_X4_lowest : GoodIn wsX4_out (va_wsS RX4 148 yX4_lowest wsX4_lowest) := goodIn_app (goodIn_of _ (by decide +kernel)) ggX4_out_X4_lowest
theorem dX4_out_0 : decode cX4_out 0 = .ok (.aload_n 0, 1) := by decide +kernel
theorem dX4_out_1 : decode cX4_out 1 = .ok (.iload_n 1, 1) := by decide +kernel
theorem dX4_out_2 : decode cX4_out 2 = .ok (.invokevirtual 123, 3) := by decide +kernel
theorem dX4_out_5 : decode cX4_out 5 = .ok (.astore 4, 2) := by decide +kernel
theorem dX4_out_7 : decode cX4_out 7 = .ok (.aload 4, 2) := by decide +kernel
theorem dX4_out_9 : decode cX4_out 9 = .ok (.ifnull 18, 3) := by decide +kernel
theorem dX4_out_12 : decode cX4_out 12 = .ok (.aload_n 0, 1) := by decide +kernel
theorem dX4_out_13 : decode cX4_out 13 = .ok (.iload_n 2, 1) := by decide +kernel
theorem dX4_out_14 : decode cX4_out 14 = .ok (.invokevirtual 80, 3) := by decide +kernel
theorem dX4_out_17 : decode cX4_out 17 = .ok (.ifCond .eq 10, 3) := by decide +kernel
theorem dX4_out_20 : decode cX4_out 20 = .ok (.iload_n 3, 1) := by decide +kernel
theorem dX4_out_21 : decode cX4_out 21 = .ok (.invokestatic 145, 3) := by decide +kernel
theorem dX4_out_24 : decode cX4_out 24 = .ok (.ifCond .ne 7, 3) := by decide +kernel
theorem dX4_out_27 : decode cX4_out 27 = .ok (.ldc2_w 143, 3) := by decide +kernel
theorem dX4_out_30 : decode cX4_out 30 = .ok (.lreturn, 1) := by decide +kernel
theorem dX4_out_31 : decode cX4_out 31 = .ok (.aload 4, 2) := by decide +kernel
theorem dX4_out_33 : decode cX4_out 33 = .ok (.iconst 0, 1) := by decide +kernel
theorem dX4_out_34 : decode cX4_out 34 = .ok (.iload_n 2, 1) := by decide +kernel
theorem dX4_out_35 : decode cX4_out 35 = .ok (.invokevirtual 152, 3) := by decide +kernel
theorem dX4_out_38 : decode cX4_out 38 = .ok (.aload 4, 2) := by decide +kernel
theorem dX4_out_40 : decode cX4_out 40 = .ok (.getfield 139, 3) := by decide +kernel
theorem dX4_out_43 : decode cX4_out 43 = .ok (.iload_n 3, 1) := by decide +kernel
theorem dX4_out_44 : decode cX4_out 44 = .ok (.invokestatic 148, 3) := by decide +kernel
theorem dX4_out_47 : decode cX4_out 47 = .ok (.lreturn, 1) := by decide +kernel
set_option maxRecDepth 20000 in
theorem ggX4_size_X4_lawAt : GoodIn wsX4_size wsX4_lawAt := goodIn_r _ [7, 8, 9, 10, 11, 6, 12, 13, 14, 15, 50, 51, 52, 53, 54, 55, 56, 57, 47, 48, 49] (by decide +kernel) (by decide +kernel)
set_option maxRecDepth 20000 in
theorem gX4_size_X4_lawAt : GoodIn wsX4_size (wsV RX4 123 RX4 yX4_lawAt wsX4_lawAt) := goodIn_app (goodIn_of _ (by decide +kernel)) ggX4_size_X4_lawAt
set_option maxRecDepth 20000 in
theorem ggX4_size_X4_isCount : GoodIn wsX4_size wsX4_isCount := goodIn_r _ [19, 20, 13, 14, 6, 15, 50, 51, 52, 53, 54, 55, 56, 57] (by decide +kernel) (by decide +kernel)
set_option maxRecDepth 20000 in
theorem gX4_size_X4_isCount : GoodIn wsX4_size (wsV RX4 156 RX4 yX4_isCount wsX4_isCount) := goodIn_app (goodIn_of _ (by decide +kernel)) ggX4_size_X4_isCount
set_option maxRecDepth 20000 in
theorem ggX4_size_X4_isWhat : GoodIn wsX4_size wsX4_isWhat := goodIn_r _ [23, 13, 14, 6, 15] (by decide +kernel) (by decide +kernel)
set_option maxRecDepth 20000 in
theorem gX4_size_X4_isWhat : GoodIn wsX4_size (va_wsS RX4 145 yX4_isWhat wsX4_isWhat) := goodIn_app (goodIn_of _ (by decide +kernel)) ggX4_size_X4_isWhat
set_option maxRecDepth 20000 in
theorem ggX4_size_X0_sumOfSize : GoodIn wsX4_size wsX0_sumOfSize := goodIn_r _ [28, 29, 30, 31, 32, 33, 34, 35, 36, 47, 48, 49] (by decide +kernel) (by decide +kernel)
set_option maxRecDepth 20000 in
theorem gX4_size_X0_sumOfSize : GoodIn wsX4_size (wsV RX4 159 RX0 yX0_sumOfSize wsX0_sumOfSize) := goodIn_app (goodIn_of _ (by decide +kernel)) ggX4_size_X0_sumOfSize
set_option maxRecDepth 20000 in
theorem ggX4_size_X4_lowest : GoodIn wsX4_size wsX4_lowest := goodIn_r _ [39, 40, 41, 42, 43, 1, 44, 45, 6, 46] (by decide +kernel) (by decide +kernel)
set_option maxRecDepth 20000 in
theorem gX4_size_X4_lowest : GoodIn wsX4_size (va_wsS RX4 148 yX4_lowest wsX4_lowest) := goodIn_app (goodIn_of _ (by decide +kernel)) ggX4_size_X4_lowest
theorem dX4_size_0 : decode cX4_size 0 = .ok (.aload_n 0, 1) := by decide +kernel
theorem dX4_size_1 : decode cX4_size 1 = .ok (.iload_n 1, 1) := by decide +kernel
theorem dX4_size_2 : decode cX4_size 2 = .ok (.invokevirtual 123, 3) := by decide +kernel
theorem dX4_size_5 : decode cX4_size 5 = .ok (.astore 4, 2) := by decide +kernel
theorem dX4_size_7 : decode cX4_size 7 = .ok (.aload 4, 2) := by decide +kernel
theorem dX4_size_9 : decode cX4_size 9 = .ok (.ifnull 18, 3) := by decide +kernel
theorem dX4_size_12 : decode cX4_size 12 = .ok (.aload_n 0, 1) := by decide +kernel
theorem dX4_size_13 : decode cX4_size 13 = .ok (.iload_n 2, 1) := by decide +kernel
theorem dX4_size_14 : decode cX4_size 14 = .ok (.invokevirtual 156, 3) := by decide +kernel
theorem dX4_size_17 : decode cX4_size 17 = .ok (.ifCond .eq 10, 3) := by decide +kernel
theorem dX4_size_20 : decode cX4_size 20 = .ok (.iload_n 3, 1) := by decide +kernel
theorem dX4_size_21 : decode cX4_size 21 = .ok (.invokestatic 145, 3) := by decide +kernel
theorem dX4_size_24 : decode cX4_size 24 = .ok (.ifCond .ne 7, 3) := by decide +kernel
theorem dX4_size_27 : decode cX4_size 27 = .ok (.ldc2_w 143, 3) := by decide +kernel
theorem dX4_size_30 : decode cX4_size 30 = .ok (.lreturn, 1) := by decide +kernel
theorem dX4_size_31 : decode cX4_size 31 = .ok (.aload 4, 2) := by decide +kernel
theorem dX4_size_33 : decode cX4_size 33 = .ok (.iload_n 2, 1) := by decide +kernel
theorem dX4_size_34 : decode cX4_size 34 = .ok (.invokevirtual 159, 3) := by decide +kernel
theorem dX4_size_37 : decode cX4_size 37 = .ok (.aload 4, 2) := by decide +kernel
theorem dX4_size_39 : decode cX4_size 39 = .ok (.getfield 139, 3) := by decide +kernel
theorem dX4_size_42 : decode cX4_size 42 = .ok (.iload_n 3, 1) := by decide +kernel
theorem dX4_size_43 : decode cX4_size 43 = .ok (.invokestatic 148, 3) := by decide +kernel
theorem dX4_size_46 : decode cX4_size 46 = .ok (.lreturn, 1) := by decide +kernel
set_option maxRecDepth 20000 in
theorem ggX4_mean_X4_lawAt : GoodIn wsX4_mean wsX4_lawAt := goodIn_r _ [7, 8, 9, 10, 11, 6, 12, 13, 14, 15, 45, 46, 47, 48, 49, 50, 51, 52, 42, 43, 44] (by decide +kernel) (by decide +kernel)
set_option maxRecDepth 20000 in
theorem gX4_mean_X4_lawAt : GoodIn wsX4_mean (wsV RX4 123 RX4 yX4_lawAt wsX4_lawAt) := goodIn_app (goodIn_of _ (by decide +kernel)) ggX4_mean_X4_lawAt
set_option maxRecDepth 20000 in
theorem ggX4_mean_X4_isWhat : GoodIn wsX4_mean wsX4_isWhat := goodIn_r _ [18, 13, 14, 6, 15] (by decide +kernel) (by decide +kernel)
set_option maxRecDepth 20000 in
theorem gX4_mean_X4_isWhat : GoodIn wsX4_mean (va_wsS RX4 145 yX4_isWhat wsX4_isWhat) := goodIn_app (goodIn_of _ (by decide +kernel)) ggX4_mean_X4_isWhat
set_option maxRecDepth 20000 in
theorem ggX4_mean_X0_sumOfCounts : GoodIn wsX4_mean wsX0_sumOfCounts := goodIn_r _ [23, 24, 25, 26, 27, 28, 29, 30, 31, 42, 43, 44] (by decide +kernel) (by decide +kernel)
set_option maxRecDepth 20000 in
theorem gX4_mean_X0_sumOfCounts : GoodIn wsX4_mean (wsV RX4 162 RX0 yX0_sumOfCounts wsX0_sumOfCounts) := goodIn_app (goodIn_of _ (by decide +kernel)) ggX4_mean_X0_sumOfCounts
set_option maxRecDepth 20000 in
theorem ggX4_mean_X4_lowest : GoodIn wsX4_mean wsX4_lowest := goodIn_r _ [34, 35, 36, 37, 38, 1, 39, 40, 6, 41] (by decide +kernel) (by decide +kernel)
set_option maxRecDepth 20000 in
theorem gX4_mean_X4_lowest : GoodIn wsX4_mean (va_wsS RX4 148 yX4_lowest wsX4_lowest) := goodIn_app (goodIn_of _ (by decide +kernel)) ggX4_mean_X4_lowest
theorem dX4_mean_0 : decode cX4_mean 0 = .ok (.aload_n 0, 1) := by decide +kernel
theorem dX4_mean_1 : decode cX4_mean 1 = .ok (.iload_n 1, 1) := by decide +kernel
theorem dX4_mean_2 : decode cX4_mean 2 = .ok (.invokevirtual 123, 3) := by decide +kernel
theorem dX4_mean_5 : decode cX4_mean 5 = .ok (.astore_n 3, 1) := by decide +kernel
theorem dX4_mean_6 : decode cX4_mean 6 = .ok (.aload_n 3, 1) := by decide +kernel
theorem dX4_mean_7 : decode cX4_mean 7 = .ok (.ifnull 10, 3) := by decide +kernel
theorem dX4_mean_10 : decode cX4_mean 10 = .ok (.iload_n 2, 1) := by decide +kernel
theorem dX4_mean_11 : decode cX4_mean 11 = .ok (.invokestatic 145, 3) := by decide +kernel
theorem dX4_mean_14 : decode cX4_mean 14 = .ok (.ifCond .ne 7, 3) := by decide +kernel
theorem dX4_mean_17 : decode cX4_mean 17 = .ok (.ldc2_w 143, 3) := by decide +kernel
theorem dX4_mean_20 : decode cX4_mean 20 = .ok (.lreturn, 1) := by decide +kernel
theorem dX4_mean_21 : decode cX4_mean 21 = .ok (.aload_n 3, 1) := by decide +kernel
theorem dX4_mean_22 : decode cX4_mean 22 = .ok (.invokevirtual 162, 3) := by decide +kernel
theorem dX4_mean_25 : decode cX4_mean 25 = .ok (.aload_n 3, 1) := by decide +kernel
theorem dX4_mean_26 : decode cX4_mean 26 = .ok (.getfield 139, 3) := by decide +kernel
theorem dX4_mean_29 : decode cX4_mean 29 = .ok (.iload_n 2, 1) := by decide +kernel
theorem dX4_mean_30 : decode cX4_mean 30 = .ok (.invokestatic 148, 3) := by decide +kernel
theorem dX4_mean_33 : decode cX4_mean 33 = .ok (.lreturn, 1) := by decide +kernel
set_option maxRecDepth 20000 in
theorem ggX4_spread_X4_lawAt : GoodIn wsX4_spread wsX4_lawAt := goodIn_r _ [7, 8, 9, 10, 11, 6, 12, 13, 14, 15, 49, 50, 51, 52, 53, 54, 55, 56, 46, 47, 48] (by decide +kernel) (by decide +kernel)
set_option maxRecDepth 20000 in
theorem gX4_spread_X4_lawAt : GoodIn wsX4_spread (wsV RX4 123 RX4 yX4_lawAt wsX4_lawAt) := goodIn_app (goodIn_of _ (by decide +kernel)) ggX4_spread_X4_lawAt
set_option maxRecDepth 20000 in
theorem ggX4_spread_X4_isWhat : GoodIn wsX4_spread wsX4_isWhat := goodIn_r _ [18, 13, 14, 6, 15] (by decide +kernel) (by decide +kernel)
set_option maxRecDepth 20000 in
theorem gX4_spread_X4_isWhat : GoodIn wsX4_spread (va_wsS RX4 145 yX4_isWhat wsX4_isWhat) := goodIn_app (goodIn_of _ (by decide +kernel)) ggX4_spread_X4_isWhat
set_option maxRecDepth 20000 in
theorem ggX4_spread_X0_sumOfCounts : GoodIn wsX4_spread wsX0_sumOfCounts := goodIn_r _ [23, 24, 25, 26, 27, 28, 29, 30, 31, 46, 47, 48] (by decide +kernel) (by decide +kernel)
set_option maxRecDepth 20000 in
theorem gX4_spread_X0_sumOfCounts : GoodIn wsX4_spread (wsV RX4 162 RX0 yX0_sumOfCounts wsX0_sumOfCounts) := goodIn_app (goodIn_of _ (by decide +kernel)) ggX4_spread_X0_sumOfCounts
set_option maxRecDepth 20000 in
theorem ggX4_spread_X0_sumOfSquares : GoodIn wsX4_spread wsX0_sumOfSquares := goodIn_r _ [35, 24, 25, 26, 27, 28, 29, 30, 31, 46, 47, 48] (by decide +kernel) (by decide +kernel)
set_option maxRecDepth 20000 in
theorem gX4_spread_X0_sumOfSquares : GoodIn wsX4_spread (wsV RX4 166 RX0 yX0_sumOfSquares wsX0_sumOfSquares) := goodIn_app (goodIn_of _ (by decide +kernel)) ggX4_spread_X0_sumOfSquares
set_option maxRecDepth 20000 in
theorem ggX4_spread_X4_lowest : GoodIn wsX4_spread wsX4_lowest := goodIn_r _ [38, 39, 40, 41, 42, 1, 43, 44, 6, 45] (by decide +kernel) (by decide +kernel)
set_option maxRecDepth 20000 in
theorem gX4_spread_X4_lowest : GoodIn wsX4_spread (va_wsS RX4 148 yX4_lowest wsX4_lowest) := goodIn_app (goodIn_of _ (by decide +kernel)) ggX4_spread_X4_lowest
theorem dX4_spread_0 : decode cX4_spread 0 = .ok (.aload_n 0, 1) := by decide +kernel
theorem dX4_spread_1 : decode cX4_spread 1 = .ok (.iload_n 1, 1) := by decide +kernel
theorem dX4_spread_2 : decode cX4_spread 2 = .ok (.invokevirtual 123, 3) := by decide +kernel
theorem dX4_spread_5 : decode cX4_spread 5 = .ok (.astore_n 3, 1) := by decide +kernel
theorem dX4_spread_6 : decode cX4_spread 6 = .ok (.aload_n 3, 1) := by decide +kernel
theorem dX4_spread_7 : decode cX4_spread 7 = .ok (.ifnull 10, 3) := by decide +kernel
theorem dX4_spread_10 : decode cX4_spread 10 = .ok (.iload_n 2, 1) := by decide +kernel
theorem dX4_spread_11 : decode cX4_spread 11 = .ok (.invokestatic 145, 3) := by decide +kernel
theorem dX4_spread_14 : decode cX4_spread 14 = .ok (.ifCond .ne 7, 3) := by decide +kernel
theorem dX4_spread_17 : decode cX4_spread 17 = .ok (.ldc2_w 143, 3) := by decide +kernel
theorem dX4_spread_20 : decode cX4_spread 20 = .ok (.lreturn, 1) := by decide +kernel
theorem dX4_spread_21 : decode cX4_spread 21 = .ok (.aload_n 3, 1) := by decide +kernel
theorem dX4_spread_22 : decode cX4_spread 22 = .ok (.invokevirtual 162, 3) := by decide +kernel
theorem dX4_spread_25 : decode cX4_spread 25 = .ok (.lstore 4, 2) := by decide +kernel
theorem dX4_spread_27 : decode cX4_spread 27 = .ok (.aload_n 3, 1) := by decide +kernel
theorem dX4_spread_28 : decode cX4_spread 28 = .ok (.invokevirtual 166, 3) := by decide +kernel
theorem dX4_spread_31 : decode cX4_spread 31 = .ok (.aload_n 3, 1) := by decide +kernel
theorem dX4_spread_32 : decode cX4_spread 32 = .ok (.getfield 139, 3) := by decide +kernel
theorem dX4_spread_35 : decode cX4_spread 35 = .ok (.lmul, 1) := by decide +kernel
theorem dX4_spread_36 : decode cX4_spread 36 = .ok (.lload 4, 2) := by decide +kernel
theorem dX4_spread_38 : decode cX4_spread 38 = .ok (.lload 4, 2) := by decide +kernel
theorem dX4_spread_40 : decode cX4_spread 40 = .ok (.lmul, 1) := by decide +kernel
theorem dX4_spread_41 : decode cX4_spread 41 = .ok (.lsub, 1) := by decide +kernel
theorem dX4_spread_42 : decode cX4_spread 42 = .ok (.lstore 6, 2) := by decide +kernel
theorem dX4_spread_44 : decode cX4_spread 44 = .ok (.lload 6, 2) := by decide +kernel
theorem dX4_spread_46 : decode cX4_spread 46 = .ok (.aload_n 3, 1) := by decide +kernel
theorem dX4_spread_47 : decode cX4_spread 47 = .ok (.getfield 139, 3) := by decide +kernel
theorem dX4_spread_50 : decode cX4_spread 50 = .ok (.aload_n 3, 1) := by decide +kernel
theorem dX4_spread_51 : decode cX4_spread 51 = .ok (.getfield 139, 3) := by decide +kernel
theorem dX4_spread_54 : decode cX4_spread 54 = .ok (.lmul, 1) := by decide +kernel
theorem dX4_spread_55 : decode cX4_spread 55 = .ok (.iload_n 2, 1) := by decide +kernel
theorem dX4_spread_56 : decode cX4_spread 56 = .ok (.invokestatic 148, 3) := by decide +kernel
theorem dX4_spread_59 : decode cX4_spread 59 = .ok (.lreturn, 1) := by decide +kernel
set_option maxRecDepth 20000 in
theorem ggX4_both_X4_lawAt : GoodIn wsX4_both wsX4_lawAt := goodIn_r _ [6, 7, 8, 9, 10, 5, 11, 12, 13, 14, 50, 51, 52, 53, 54, 55, 56, 57, 47, 48, 49] (by decide +kernel) (by decide +kernel)
set_option maxRecDepth 20000 in
theorem gX4_both_X4_lawAt : GoodIn wsX4_both (wsV RX4 123 RX4 yX4_lawAt wsX4_lawAt) := goodIn_app (goodIn_of _ (by decide +kernel)) ggX4_both_X4_lawAt
set_option maxRecDepth 20000 in
theorem ggX4_both_X4_isThing : GoodIn wsX4_both wsX4_isThing := goodIn_r _ [18, 19, 12, 13, 5, 14, 50, 51, 52, 53, 54, 55, 56, 57] (by decide +kernel) (by decide +kernel)
set_option maxRecDepth 20000 in
theorem gX4_both_X4_isThing : GoodIn wsX4_both (wsV RX4 66 RX4 yX4_isThing wsX4_isThing) := goodIn_app (goodIn_of _ (by decide +kernel)) ggX4_both_X4_isThing
set_option maxRecDepth 20000 in
theorem ggX4_both_X4_isWhat : GoodIn wsX4_both wsX4_isWhat := goodIn_r _ [22, 12, 13, 5, 14] (by decide +kernel) (by decide +kernel)
set_option maxRecDepth 20000 in
theorem gX4_both_X4_isWhat : GoodIn wsX4_both (va_wsS RX4 145 yX4_isWhat wsX4_isWhat) := goodIn_app (goodIn_of _ (by decide +kernel)) ggX4_both_X4_isWhat
set_option maxRecDepth 20000 in
theorem ggX4_both_X0_apartness : GoodIn wsX4_both wsX0_apartness := goodIn_r _ [27, 28, 29, 30, 31, 26, 32, 33, 34, 5, 35, 47, 48, 49] (by decide +kernel) (by decide +kernel)
set_option maxRecDepth 20000 in
theorem gX4_both_X0_apartness : GoodIn wsX4_both (wsV RX4 169 RX0 yX0_apartness wsX0_apartness) := goodIn_app (goodIn_of _ (by decide +kernel)) ggX4_both_X0_apartness
set_option maxRecDepth 20000 in
theorem ggX4_both_X4_lowest : GoodIn wsX4_both wsX4_lowest := goodIn_r _ [38, 39, 40, 41, 42, 43, 44, 45, 5, 46] (by decide +kernel) (by decide +kernel)
set_option maxRecDepth 20000 in
theorem gX4_both_X4_lowest : GoodIn wsX4_both (va_wsS RX4 148 yX4_lowest wsX4_lowest) := goodIn_app (goodIn_of _ (by decide +kernel)) ggX4_both_X4_lowest
theorem dX4_both_0 : decode cX4_both 0 = .ok (.aload_n 0, 1) := by decide +kernel
theorem dX4_both_1 : decode cX4_both 1 = .ok (.iload_n 1, 1) := by decide +kernel
theorem dX4_both_2 : decode cX4_both 2 = .ok (.invokevirtual 123, 3) := by decide +kernel
theorem dX4_both_5 : decode cX4_both 5 = .ok (.astore 5, 2) := by decide +kernel
theorem dX4_both_7 : decode cX4_both 7 = .ok (.aload 5, 2) := by decide +kernel
theorem dX4_both_9 : decode cX4_both 9 = .ok (.ifnull 32, 3) := by decide +kernel
theorem dX4_both_12 : decode cX4_both 12 = .ok (.aload_n 0, 1) := by decide +kernel
theorem dX4_both_13 : decode cX4_both 13 = .ok (.iload_n 2, 1) := by decide +kernel
theorem dX4_both_14 : decode cX4_both 14 = .ok (.invokevirtual 66, 3) := by decide +kernel
theorem dX4_both_17 : decode cX4_both 17 = .ok (.ifCond .eq 24, 3) := by decide +kernel
theorem dX4_both_20 : decode cX4_both 20 = .ok (.aload_n 0, 1) := by decide +kernel
theorem dX4_both_21 : decode cX4_both 21 = .ok (.iload_n 3, 1) := by decide +kernel
theorem dX4_both_22 : decode cX4_both 22 = .ok (.invokevirtual 66, 3) := by decide +kernel
theorem dX4_both_25 : decode cX4_both 25 = .ok (.ifCond .eq 16, 3) := by decide +kernel
theorem dX4_both_28 : decode cX4_both 28 = .ok (.iload_n 2, 1) := by decide +kernel
theorem dX4_both_29 : decode cX4_both 29 = .ok (.iload_n 3, 1) := by decide +kernel
theorem dX4_both_30 : decode cX4_both 30 = .ok (.if_icmp .eq 11, 3) := by decide +kernel
theorem dX4_both_33 : decode cX4_both 33 = .ok (.iload 4, 2) := by decide +kernel
theorem dX4_both_35 : decode cX4_both 35 = .ok (.invokestatic 145, 3) := by decide +kernel
theorem dX4_both_38 : decode cX4_both 38 = .ok (.ifCond .ne 5, 3) := by decide +kernel
theorem dX4_both_41 : decode cX4_both 41 = .ok (.lconst 0, 1) := by decide +kernel
theorem dX4_both_42 : decode cX4_both 42 = .ok (.lreturn, 1) := by decide +kernel
theorem dX4_both_43 : decode cX4_both 43 = .ok (.aload 5, 2) := by decide +kernel
theorem dX4_both_45 : decode cX4_both 45 = .ok (.iconst 1, 1) := by decide +kernel
theorem dX4_both_46 : decode cX4_both 46 = .ok (.iload_n 2, 1) := by decide +kernel
theorem dX4_both_47 : decode cX4_both 47 = .ok (.ishl, 1) := by decide +kernel
theorem dX4_both_48 : decode cX4_both 48 = .ok (.iconst 1, 1) := by decide +kernel
theorem dX4_both_49 : decode cX4_both 49 = .ok (.iload_n 3, 1) := by decide +kernel
theorem dX4_both_50 : decode cX4_both 50 = .ok (.ishl, 1) := by decide +kernel
theorem dX4_both_51 : decode cX4_both 51 = .ok (.invokevirtual 169, 3) := by decide +kernel
theorem dX4_both_54 : decode cX4_both 54 = .ok (.aload 5, 2) := by decide +kernel
theorem dX4_both_56 : decode cX4_both 56 = .ok (.getfield 139, 3) := by decide +kernel
theorem dX4_both_59 : decode cX4_both 59 = .ok (.aload 5, 2) := by decide +kernel
theorem dX4_both_61 : decode cX4_both 61 = .ok (.getfield 139, 3) := by decide +kernel
theorem dX4_both_64 : decode cX4_both 64 = .ok (.lmul, 1) := by decide +kernel
theorem dX4_both_65 : decode cX4_both 65 = .ok (.iload 4, 2) := by decide +kernel
theorem dX4_both_67 : decode cX4_both 67 = .ok (.invokestatic 148, 3) := by decide +kernel
theorem dX4_both_70 : decode cX4_both 70 = .ok (.lreturn, 1) := by decide +kernel
set_option maxRecDepth 20000 in
theorem ggX4_shuns_X4_lawAt : GoodIn wsX4_shuns wsX4_lawAt := goodIn_r _ [6, 7, 8, 9, 10, 5, 11, 12, 13, 14, 28, 29, 30, 31, 32, 33, 34, 35, 36, 37, 38] (by decide +kernel) (by decide +kernel)
set_option maxRecDepth 20000 in
theorem gX4_shuns_X4_lawAt : GoodIn wsX4_shuns (wsV RX4 123 RX4 yX4_lawAt wsX4_lawAt) := goodIn_app (goodIn_of _ (by decide +kernel)) ggX4_shuns_X4_lawAt
set_option maxRecDepth 20000 in
theorem ggX4_shuns_X0_apartness : GoodIn wsX4_shuns wsX0_apartness := goodIn_r _ [19, 20, 21, 22, 23, 18, 24, 25, 26, 5, 27, 36, 37, 38] (by decide +kernel) (by decide +kernel)
set_option maxRecDepth 20000 in
theorem gX4_shuns_X0_apartness : GoodIn wsX4_shuns (wsV RX4 169 RX0 yX0_apartness wsX0_apartness) := goodIn_app (goodIn_of _ (by decide +kernel)) ggX4_shuns_X0_apartness
theorem dX4_shuns_0 : decode cX4_shuns 0 = .ok (.aload_n 0, 1) := by decide +kernel
theorem dX4_shuns_1 : decode cX4_shuns 1 = .ok (.iload_n 1, 1) := by decide +kernel
theorem dX4_shuns_2 : decode cX4_shuns 2 = .ok (.invokevirtual 123, 3) := by decide +kernel
theorem dX4_shuns_5 : decode cX4_shuns 5 = .ok (.astore_n 2, 1) := by decide +kernel
theorem dX4_shuns_6 : decode cX4_shuns 6 = .ok (.aload_n 2, 1) := by decide +kernel
theorem dX4_shuns_7 : decode cX4_shuns 7 = .ok (.ifnonnull 5, 3) := by decide +kernel
theorem dX4_shuns_10 : decode cX4_shuns 10 = .ok (.iconst (-1), 1) := by decide +kernel
theorem dX4_shuns_11 : decode cX4_shuns 11 = .ok (.ireturn, 1) := by decide +kernel
theorem dX4_shuns_12 : decode cX4_shuns 12 = .ok (.iconst 1, 1) := by decide +kernel
theorem dX4_shuns_13 : decode cX4_shuns 13 = .ok (.istore_n 3, 1) := by decide +kernel
theorem dX4_shuns_14 : decode cX4_shuns 14 = .ok (.iload_n 3, 1) := by decide +kernel
theorem dX4_shuns_15 : decode cX4_shuns 15 = .ok (.aload_n 0, 1) := by decide +kernel
theorem dX4_shuns_16 : decode cX4_shuns 16 = .ok (.getfield 18, 3) := by decide +kernel
theorem dX4_shuns_19 : decode cX4_shuns 19 = .ok (.if_icmp .ge 42, 3) := by decide +kernel
theorem dX4_shuns_22 : decode cX4_shuns 22 = .ok (.iconst 0, 1) := by decide +kernel
theorem dX4_shuns_23 : decode cX4_shuns 23 = .ok (.istore 4, 2) := by decide +kernel
theorem dX4_shuns_25 : decode cX4_shuns 25 = .ok (.iload 4, 2) := by decide +kernel
theorem dX4_shuns_27 : decode cX4_shuns 27 = .ok (.iload_n 3, 1) := by decide +kernel
theorem dX4_shuns_28 : decode cX4_shuns 28 = .ok (.if_icmp .ge 27, 3) := by decide +kernel
theorem dX4_shuns_31 : decode cX4_shuns 31 = .ok (.aload_n 2, 1) := by decide +kernel
theorem dX4_shuns_32 : decode cX4_shuns 32 = .ok (.iconst 1, 1) := by decide +kernel
theorem dX4_shuns_33 : decode cX4_shuns 33 = .ok (.iload_n 3, 1) := by decide +kernel
theorem dX4_shuns_34 : decode cX4_shuns 34 = .ok (.ishl, 1) := by decide +kernel
theorem dX4_shuns_35 : decode cX4_shuns 35 = .ok (.iconst 1, 1) := by decide +kernel
theorem dX4_shuns_36 : decode cX4_shuns 36 = .ok (.iload 4, 2) := by decide +kernel
theorem dX4_shuns_38 : decode cX4_shuns 38 = .ok (.ishl, 1) := by decide +kernel
theorem dX4_shuns_39 : decode cX4_shuns 39 = .ok (.invokevirtual 169, 3) := by decide +kernel
theorem dX4_shuns_42 : decode cX4_shuns 42 = .ok (.lconst 0, 1) := by decide +kernel
theorem dX4_shuns_43 : decode cX4_shuns 43 = .ok (.lcmp, 1) := by decide +kernel
theorem dX4_shuns_44 : decode cX4_shuns 44 = .ok (.ifCond .ge 5, 3) := by decide +kernel
theorem dX4_shuns_47 : decode cX4_shuns 47 = .ok (.iconst 0, 1) := by decide +kernel
theorem dX4_shuns_48 : decode cX4_shuns 48 = .ok (.ireturn, 1) := by decide +kernel
theorem dX4_shuns_49 : decode cX4_shuns 49 = .ok (.iinc 4 1, 3) := by decide +kernel
theorem dX4_shuns_52 : decode cX4_shuns 52 = .ok (.goto (-27), 3) := by decide +kernel
theorem dX4_shuns_55 : decode cX4_shuns 55 = .ok (.iinc 3 1, 3) := by decide +kernel
theorem dX4_shuns_58 : decode cX4_shuns 58 = .ok (.goto (-44), 3) := by decide +kernel
theorem dX4_shuns_61 : decode cX4_shuns 61 = .ok (.iconst 1, 1) := by decide +kernel
theorem dX4_shuns_62 : decode cX4_shuns 62 = .ok (.ireturn, 1) := by decide +kernel
set_option maxRecDepth 20000 in
theorem ggX4_rises_X4_lawAt : GoodIn wsX4_rises wsX4_lawAt := goodIn_r _ [6, 7, 8, 9, 10, 5, 11, 12, 13, 14, 28, 29, 30, 31, 32, 33, 34, 35, 36, 37, 38] (by decide +kernel) (by decide +kernel)
set_option maxRecDepth 20000 in
theorem gX4_rises_X4_lawAt : GoodIn wsX4_rises (wsV RX4 123 RX4 yX4_lawAt wsX4_lawAt) := goodIn_app (goodIn_of _ (by decide +kernel)) ggX4_rises_X4_lawAt
set_option maxRecDepth 20000 in
theorem ggX4_rises_X0_sumOfSize : GoodIn wsX4_rises wsX0_sumOfSize := goodIn_r _ [19, 20, 21, 22, 23, 24, 25, 26, 27, 36, 37, 38] (by decide +kernel) (by decide +kernel)
set_option maxRecDepth 20000 in
theorem gX4_rises_X0_sumOfSize : GoodIn wsX4_rises (wsV RX4 159 RX0 yX0_sumOfSize wsX0_sumOfSize) := goodIn_app (goodIn_of _ (by decide +kernel)) ggX4_rises_X0_sumOfSize
theorem dX4_rises_0 : decode cX4_rises 0 = .ok (.aload_n 0, 1) := by decide +kernel
theorem dX4_rises_1 : decode cX4_rises 1 = .ok (.iload_n 1, 1) := by decide +kernel
theorem dX4_rises_2 : decode cX4_rises 2 = .ok (.invokevirtual 123, 3) := by decide +kernel
theorem dX4_rises_5 : decode cX4_rises 5 = .ok (.astore_n 2, 1) := by decide +kernel
theorem dX4_rises_6 : decode cX4_rises 6 = .ok (.aload_n 2, 1) := by decide +kernel
theorem dX4_rises_7 : decode cX4_rises 7 = .ok (.ifnonnull 5, 3) := by decide +kernel
theorem dX4_rises_10 : decode cX4_rises 10 = .ok (.iconst (-1), 1) := by decide +kernel
theorem dX4_rises_11 : decode cX4_rises 11 = .ok (.ireturn, 1) := by decide +kernel
theorem dX4_rises_12 : decode cX4_rises 12 = .ok (.iconst 0, 1) := by decide +kernel
theorem dX4_rises_13 : decode cX4_rises 13 = .ok (.istore_n 3, 1) := by decide +kernel
theorem dX4_rises_14 : decode cX4_rises 14 = .ok (.aload_n 2, 1) := by decide +kernel
theorem dX4_rises_15 : decode cX4_rises 15 = .ok (.iconst 0, 1) := by decide +kernel
theorem dX4_rises_16 : decode cX4_rises 16 = .ok (.invokevirtual 159, 3) := by decide +kernel
theorem dX4_rises_19 : decode cX4_rises 19 = .ok (.lstore 4, 2) := by decide +kernel
theorem dX4_rises_21 : decode cX4_rises 21 = .ok (.iconst 1, 1) := by decide +kernel
theorem dX4_rises_22 : decode cX4_rises 22 = .ok (.istore 6, 2) := by decide +kernel
theorem dX4_rises_24 : decode cX4_rises 24 = .ok (.iload 6, 2) := by decide +kernel
theorem dX4_rises_26 : decode cX4_rises 26 = .ok (.aload_n 0, 1) := by decide +kernel
theorem dX4_rises_27 : decode cX4_rises 27 = .ok (.getfield 18, 3) := by decide +kernel
theorem dX4_rises_30 : decode cX4_rises 30 = .ok (.if_icmp .gt 45, 3) := by decide +kernel
theorem dX4_rises_33 : decode cX4_rises 33 = .ok (.aload_n 2, 1) := by decide +kernel
theorem dX4_rises_34 : decode cX4_rises 34 = .ok (.iload 6, 2) := by decide +kernel
theorem dX4_rises_36 : decode cX4_rises 36 = .ok (.invokevirtual 159, 3) := by decide +kernel
theorem dX4_rises_39 : decode cX4_rises 39 = .ok (.lstore 7, 2) := by decide +kernel
theorem dX4_rises_41 : decode cX4_rises 41 = .ok (.iload_n 3, 1) := by decide +kernel
theorem dX4_rises_42 : decode cX4_rises 42 = .ok (.ifCond .eq 13, 3) := by decide +kernel
theorem dX4_rises_45 : decode cX4_rises 45 = .ok (.lload 7, 2) := by decide +kernel
theorem dX4_rises_47 : decode cX4_rises 47 = .ok (.lload 4, 2) := by decide +kernel
theorem dX4_rises_49 : decode cX4_rises 49 = .ok (.lcmp, 1) := by decide +kernel
theorem dX4_rises_50 : decode cX4_rises 50 = .ok (.ifCond .le 5, 3) := by decide +kernel
theorem dX4_rises_53 : decode cX4_rises 53 = .ok (.iconst 0, 1) := by decide +kernel
theorem dX4_rises_54 : decode cX4_rises 54 = .ok (.ireturn, 1) := by decide +kernel
theorem dX4_rises_55 : decode cX4_rises 55 = .ok (.lload 7, 2) := by decide +kernel
theorem dX4_rises_57 : decode cX4_rises 57 = .ok (.lload 4, 2) := by decide +kernel
theorem dX4_rises_59 : decode cX4_rises 59 = .ok (.lcmp, 1) := by decide +kernel
theorem dX4_rises_60 : decode cX4_rises 60 = .ok (.ifCond .ge 5, 3) := by decide +kernel
theorem dX4_rises_63 : decode cX4_rises 63 = .ok (.iconst 1, 1) := by decide +kernel
theorem dX4_rises_64 : decode cX4_rises 64 = .ok (.istore_n 3, 1) := by decide +kernel
theorem dX4_rises_65 : decode cX4_rises 65 = .ok (.lload 7, 2) := by decide +kernel
theorem dX4_rises_67 : decode cX4_rises 67 = .ok (.lstore 4, 2) := by decide +kernel
theorem dX4_rises_69 : decode cX4_rises 69 = .ok (.iinc 6 1, 3) := by decide +kernel
theorem dX4_rises_72 : decode cX4_rises 72 = .ok (.goto (-48), 3) := by decide +kernel
theorem dX4_rises_75 : decode cX4_rises 75 = .ok (.iconst 1, 1) := by decide +kernel
theorem dX4_rises_76 : decode cX4_rises 76 = .ok (.ireturn, 1) := by decide +kernel
set_option maxRecDepth 20000 in
theorem ggX4_greatest_X4_lawAt : GoodIn wsX4_greatest wsX4_lawAt := goodIn_r _ [7, 8, 9, 10, 11, 6, 12, 13, 14, 15, 16, 17, 18, 19, 20, 21, 22, 23, 24, 25, 26] (by decide +kernel) (by decide +kernel)
set_option maxRecDepth 20000 in
theorem gX4_greatest_X4_lawAt : GoodIn wsX4_greatest (wsV RX4 123 RX4 yX4_lawAt wsX4_lawAt) := goodIn_app (goodIn_of _ (by decide +kernel)) ggX4_greatest_X4_lawAt
theorem dX4_greatest_0 : decode cX4_greatest 0 = .ok (.aload_n 0, 1) := by decide +kernel
theorem dX4_greatest_1 : decode cX4_greatest 1 = .ok (.iload_n 1, 1) := by decide +kernel
theorem dX4_greatest_2 : decode cX4_greatest 2 = .ok (.invokevirtual 123, 3) := by decide +kernel
theorem dX4_greatest_5 : decode cX4_greatest 5 = .ok (.astore_n 2, 1) := by decide +kernel
theorem dX4_greatest_6 : decode cX4_greatest 6 = .ok (.aload_n 2, 1) := by decide +kernel
theorem dX4_greatest_7 : decode cX4_greatest 7 = .ok (.ifnonnull 5, 3) := by decide +kernel
theorem dX4_greatest_10 : decode cX4_greatest 10 = .ok (.iconst (-1), 1) := by decide +kernel
theorem dX4_greatest_11 : decode cX4_greatest 11 = .ok (.ireturn, 1) := by decide +kernel
theorem dX4_greatest_12 : decode cX4_greatest 12 = .ok (.iconst 0, 1) := by decide +kernel
theorem dX4_greatest_13 : decode cX4_greatest 13 = .ok (.istore_n 3, 1) := by decide +kernel
theorem dX4_greatest_14 : decode cX4_greatest 14 = .ok (.iconst 1, 1) := by decide +kernel
theorem dX4_greatest_15 : decode cX4_greatest 15 = .ok (.istore 4, 2) := by decide +kernel
theorem dX4_greatest_17 : decode cX4_greatest 17 = .ok (.iload 4, 2) := by decide +kernel
theorem dX4_greatest_19 : decode cX4_greatest 19 = .ok (.aload_n 0, 1) := by decide +kernel
theorem dX4_greatest_20 : decode cX4_greatest 20 = .ok (.getfield 22, 3) := by decide +kernel
theorem dX4_greatest_23 : decode cX4_greatest 23 = .ok (.if_icmp .ge 29, 3) := by decide +kernel
theorem dX4_greatest_26 : decode cX4_greatest 26 = .ok (.aload_n 2, 1) := by decide +kernel
theorem dX4_greatest_27 : decode cX4_greatest 27 = .ok (.getfield 130, 3) := by decide +kernel
theorem dX4_greatest_30 : decode cX4_greatest 30 = .ok (.iload 4, 2) := by decide +kernel
theorem dX4_greatest_32 : decode cX4_greatest 32 = .ok (.laload, 1) := by decide +kernel
theorem dX4_greatest_33 : decode cX4_greatest 33 = .ok (.aload_n 2, 1) := by decide +kernel
theorem dX4_greatest_34 : decode cX4_greatest 34 = .ok (.getfield 130, 3) := by decide +kernel
theorem dX4_greatest_37 : decode cX4_greatest 37 = .ok (.iload_n 3, 1) := by decide +kernel
theorem dX4_greatest_38 : decode cX4_greatest 38 = .ok (.laload, 1) := by decide +kernel
theorem dX4_greatest_39 : decode cX4_greatest 39 = .ok (.lcmp, 1) := by decide +kernel
theorem dX4_greatest_40 : decode cX4_greatest 40 = .ok (.ifCond .le 6, 3) := by decide +kernel
theorem dX4_greatest_43 : decode cX4_greatest 43 = .ok (.iload 4, 2) := by decide +kernel
theorem dX4_greatest_45 : decode cX4_greatest 45 = .ok (.istore_n 3, 1) := by decide +kernel
theorem dX4_greatest_46 : decode cX4_greatest 46 = .ok (.iinc 4 1, 3) := by decide +kernel
theorem dX4_greatest_49 : decode cX4_greatest 49 = .ok (.goto (-32), 3) := by decide +kernel
theorem dX4_greatest_52 : decode cX4_greatest 52 = .ok (.iload_n 3, 1) := by decide +kernel
theorem dX4_greatest_53 : decode cX4_greatest 53 = .ok (.ireturn, 1) := by decide +kernel
set_option maxRecDepth 20000 in
theorem ggX4_greedy_X4_lawAt : GoodIn wsX4_greedy wsX4_lawAt := goodIn_r _ [5, 6, 7, 8, 9, 4, 10, 11, 12, 13, 24, 25, 26, 27, 28, 29, 30, 31, 32, 33, 34] (by decide +kernel) (by decide +kernel)
set_option maxRecDepth 20000 in
theorem gX4_greedy_X4_lawAt : GoodIn wsX4_greedy (wsV RX4 123 RX4 yX4_lawAt wsX4_lawAt) := goodIn_app (goodIn_of _ (by decide +kernel)) ggX4_greedy_X4_lawAt
set_option maxRecDepth 20000 in
theorem ggX4_greedy_X4_isCount : GoodIn wsX4_greedy wsX4_isCount := goodIn_r _ [17, 18, 11, 12, 4, 13, 24, 25, 26, 27, 28, 29, 30, 31] (by decide +kernel) (by decide +kernel)
set_option maxRecDepth 20000 in
theorem gX4_greedy_X4_isCount : GoodIn wsX4_greedy (wsV RX4 156 RX4 yX4_isCount wsX4_isCount) := goodIn_app (goodIn_of _ (by decide +kernel)) ggX4_greedy_X4_isCount
set_option maxRecDepth 20000 in
theorem ggX4_greedy_X4_withBestThing : GoodIn wsX4_greedy wsX4_withBestThing := goodIn_r _ [22, 18, 23, 24, 25, 26, 27, 28, 29, 30, 31, 32, 33, 34] (by decide +kernel) (by decide +kernel)
set_option maxRecDepth 20000 in
theorem gX4_greedy_X4_withBestThing : GoodIn wsX4_greedy (wsV RX4 172 RX4 yX4_withBestThing wsX4_withBestThing) := goodIn_app (goodIn_of _ (by decide +kernel)) ggX4_greedy_X4_withBestThing
theorem dX4_greedy_0 : decode cX4_greedy 0 = .ok (.aload_n 0, 1) := by decide +kernel
theorem dX4_greedy_1 : decode cX4_greedy 1 = .ok (.iload_n 1, 1) := by decide +kernel
theorem dX4_greedy_2 : decode cX4_greedy 2 = .ok (.invokevirtual 123, 3) := by decide +kernel
theorem dX4_greedy_5 : decode cX4_greedy 5 = .ok (.astore_n 3, 1) := by decide +kernel
theorem dX4_greedy_6 : decode cX4_greedy 6 = .ok (.aload_n 3, 1) := by decide +kernel
theorem dX4_greedy_7 : decode cX4_greedy 7 = .ok (.ifnull 11, 3) := by decide +kernel
theorem dX4_greedy_10 : decode cX4_greedy 10 = .ok (.aload_n 0, 1) := by decide +kernel
theorem dX4_greedy_11 : decode cX4_greedy 11 = .ok (.iload_n 2, 1) := by decide +kernel
theorem dX4_greedy_12 : decode cX4_greedy 12 = .ok (.invokevirtual 156, 3) := by decide +kernel
theorem dX4_greedy_15 : decode cX4_greedy 15 = .ok (.ifCond .ne 5, 3) := by decide +kernel
theorem dX4_greedy_18 : decode cX4_greedy 18 = .ok (.iconst (-1), 1) := by decide +kernel
theorem dX4_greedy_19 : decode cX4_greedy 19 = .ok (.ireturn, 1) := by decide +kernel
theorem dX4_greedy_20 : decode cX4_greedy 20 = .ok (.iconst 0, 1) := by decide +kernel
theorem dX4_greedy_21 : decode cX4_greedy 21 = .ok (.istore 4, 2) := by decide +kernel
theorem dX4_greedy_23 : decode cX4_greedy 23 = .ok (.iconst 0, 1) := by decide +kernel
theorem dX4_greedy_24 : decode cX4_greedy 24 = .ok (.istore 5, 2) := by decide +kernel
theorem dX4_greedy_26 : decode cX4_greedy 26 = .ok (.iload 5, 2) := by decide +kernel
theorem dX4_greedy_28 : decode cX4_greedy 28 = .ok (.iload_n 2, 1) := by decide +kernel
theorem dX4_greedy_29 : decode cX4_greedy 29 = .ok (.if_icmp .ge 18, 3) := by decide +kernel
theorem dX4_greedy_32 : decode cX4_greedy 32 = .ok (.aload_n 0, 1) := by decide +kernel
theorem dX4_greedy_33 : decode cX4_greedy 33 = .ok (.aload_n 3, 1) := by decide +kernel
theorem dX4_greedy_34 : decode cX4_greedy 34 = .ok (.iload 4, 2) := by decide +kernel
theorem dX4_greedy_36 : decode cX4_greedy 36 = .ok (.invokevirtual 172, 3) := by decide +kernel
theorem dX4_greedy_39 : decode cX4_greedy 39 = .ok (.istore 4, 2) := by decide +kernel
theorem dX4_greedy_41 : decode cX4_greedy 41 = .ok (.iinc 5 1, 3) := by decide +kernel
theorem dX4_greedy_44 : decode cX4_greedy 44 = .ok (.goto (-18), 3) := by decide +kernel
theorem dX4_greedy_47 : decode cX4_greedy 47 = .ok (.iload 4, 2) := by decide +kernel
theorem dX4_greedy_49 : decode cX4_greedy 49 = .ok (.ireturn, 1) := by decide +kernel
set_option maxRecDepth 20000 in
theorem ggX4_same_X4_lawAt : GoodIn wsX4_same wsX4_lawAt := goodIn_r _ [7, 8, 9, 10, 11, 6, 12, 13, 14, 15, 16, 17, 18, 19, 20, 21, 22, 23, 24, 25, 26] (by decide +kernel) (by decide +kernel)
set_option maxRecDepth 20000 in
theorem gX4_same_X4_lawAt : GoodIn wsX4_same (wsV RX4 123 RX4 yX4_lawAt wsX4_lawAt) := goodIn_app (goodIn_of _ (by decide +kernel)) ggX4_same_X4_lawAt
theorem dX4_same_0 : decode cX4_same 0 = .ok (.aload_n 0, 1) := by decide +kernel
theorem dX4_same_1 : decode cX4_same 1 = .ok (.iload_n 1, 1) := by decide +kernel
theorem dX4_same_2 : decode cX4_same 2 = .ok (.invokevirtual 123, 3) := by decide +kernel
theorem dX4_same_5 : decode cX4_same 5 = .ok (.astore_n 3, 1) := by decide +kernel
theorem dX4_same_6 : decode cX4_same 6 = .ok (.aload_n 0, 1) := by decide +kernel
theorem dX4_same_7 : decode cX4_same 7 = .ok (.iload_n 2, 1) := by decide +kernel
theorem dX4_same_8 : decode cX4_same 8 = .ok (.invokevirtual 123, 3) := by decide +kernel
theorem dX4_same_11 : decode cX4_same 11 = .ok (.astore 4, 2) := by decide +kernel
theorem dX4_same_13 : decode cX4_same 13 = .ok (.aload_n 3, 1) := by decide +kernel
theorem dX4_same_14 : decode cX4_same 14 = .ok (.ifnull 8, 3) := by decide +kernel
theorem dX4_same_17 : decode cX4_same 17 = .ok (.aload 4, 2) := by decide +kernel
theorem dX4_same_19 : decode cX4_same 19 = .ok (.ifnonnull 5, 3) := by decide +kernel
theorem dX4_same_22 : decode cX4_same 22 = .ok (.iconst (-1), 1) := by decide +kernel
theorem dX4_same_23 : decode cX4_same 23 = .ok (.ireturn, 1) := by decide +kernel
theorem dX4_same_24 : decode cX4_same 24 = .ok (.iconst 0, 1) := by decide +kernel
theorem dX4_same_25 : decode cX4_same 25 = .ok (.istore 5, 2) := by decide +kernel
theorem dX4_same_27 : decode cX4_same 27 = .ok (.iload 5, 2) := by decide +kernel
theorem dX4_same_29 : decode cX4_same 29 = .ok (.aload_n 0, 1) := by decide +kernel
theorem dX4_same_30 : decode cX4_same 30 = .ok (.getfield 22, 3) := by decide +kernel
theorem dX4_same_33 : decode cX4_same 33 = .ok (.if_icmp .ge 30, 3) := by decide +kernel
theorem dX4_same_36 : decode cX4_same 36 = .ok (.aload_n 3, 1) := by decide +kernel
theorem dX4_same_37 : decode cX4_same 37 = .ok (.getfield 130, 3) := by decide +kernel
theorem dX4_same_40 : decode cX4_same 40 = .ok (.iload 5, 2) := by decide +kernel
theorem dX4_same_42 : decode cX4_same 42 = .ok (.laload, 1) := by decide +kernel
theorem dX4_same_43 : decode cX4_same 43 = .ok (.aload 4, 2) := by decide +kernel
theorem dX4_same_45 : decode cX4_same 45 = .ok (.getfield 130, 3) := by decide +kernel
theorem dX4_same_48 : decode cX4_same 48 = .ok (.iload 5, 2) := by decide +kernel
theorem dX4_same_50 : decode cX4_same 50 = .ok (.laload, 1) := by decide +kernel
theorem dX4_same_51 : decode cX4_same 51 = .ok (.lcmp, 1) := by decide +kernel
theorem dX4_same_52 : decode cX4_same 52 = .ok (.ifCond .eq 5, 3) := by decide +kernel
theorem dX4_same_55 : decode cX4_same 55 = .ok (.iconst 0, 1) := by decide +kernel
theorem dX4_same_56 : decode cX4_same 56 = .ok (.ireturn, 1) := by decide +kernel
theorem dX4_same_57 : decode cX4_same 57 = .ok (.iinc 5 1, 3) := by decide +kernel
theorem dX4_same_60 : decode cX4_same 60 = .ok (.goto (-33), 3) := by decide +kernel
theorem dX4_same_63 : decode cX4_same 63 = .ok (.iconst 1, 1) := by decide +kernel
theorem dX4_same_64 : decode cX4_same 64 = .ok (.ireturn, 1) := by decide +kernel
set_option maxRecDepth 20000 in
theorem ggX4_draw_X4_lawAt : GoodIn wsX4_draw wsX4_lawAt := goodIn_r _ [8, 9, 10, 11, 12, 7, 13, 14, 15, 16, 25, 26, 27, 28, 29, 30, 31, 32, 33, 34, 35] (by decide +kernel) (by decide +kernel)
set_option maxRecDepth 20000 in
theorem gX4_draw_X4_lawAt : GoodIn wsX4_draw (wsV RX4 123 RX4 yX4_lawAt wsX4_lawAt) := goodIn_app (goodIn_of _ (by decide +kernel)) ggX4_draw_X4_lawAt
set_option maxRecDepth 20000 in
theorem ggX4_draw_X0_sumFitting : GoodIn wsX4_draw wsX0_sumFitting := goodIn_r _ [21, 22, 23, 7, 24, 33, 34, 35] (by decide +kernel) (by decide +kernel)
set_option maxRecDepth 20000 in
theorem gX4_draw_X0_sumFitting : GoodIn wsX4_draw (wsV RX4 152 RX0 yX0_sumFitting wsX0_sumFitting) := goodIn_app (goodIn_of _ (by decide +kernel)) ggX4_draw_X0_sumFitting
theorem dX4_draw_0 : decode cX4_draw 0 = .ok (.aload_n 0, 1) := by decide +kernel
theorem dX4_draw_1 : decode cX4_draw 1 = .ok (.iload_n 1, 1) := by decide +kernel
theorem dX4_draw_2 : decode cX4_draw 2 = .ok (.invokevirtual 123, 3) := by decide +kernel
theorem dX4_draw_5 : decode cX4_draw 5 = .ok (.astore 4, 2) := by decide +kernel
theorem dX4_draw_7 : decode cX4_draw 7 = .ok (.aload 4, 2) := by decide +kernel
theorem dX4_draw_9 : decode cX4_draw 9 = .ok (.ifnonnull 5, 3) := by decide +kernel
theorem dX4_draw_12 : decode cX4_draw 12 = .ok (.iconst (-1), 1) := by decide +kernel
theorem dX4_draw_13 : decode cX4_draw 13 = .ok (.ireturn, 1) := by decide +kernel
theorem dX4_draw_14 : decode cX4_draw 14 = .ok (.lload_n 2, 1) := by decide +kernel
theorem dX4_draw_15 : decode cX4_draw 15 = .ok (.lstore 5, 2) := by decide +kernel
theorem dX4_draw_17 : decode cX4_draw 17 = .ok (.iconst 0, 1) := by decide +kernel
theorem dX4_draw_18 : decode cX4_draw 18 = .ok (.istore 7, 2) := by decide +kernel
theorem dX4_draw_20 : decode cX4_draw 20 = .ok (.iconst 0, 1) := by decide +kernel
theorem dX4_draw_21 : decode cX4_draw 21 = .ok (.istore 8, 2) := by decide +kernel
theorem dX4_draw_23 : decode cX4_draw 23 = .ok (.iload 8, 2) := by decide +kernel
theorem dX4_draw_25 : decode cX4_draw 25 = .ok (.aload_n 0, 1) := by decide +kernel
theorem dX4_draw_26 : decode cX4_draw 26 = .ok (.getfield 18, 3) := by decide +kernel
theorem dX4_draw_29 : decode cX4_draw 29 = .ok (.if_icmp .ge 91, 3) := by decide +kernel
theorem dX4_draw_32 : decode cX4_draw 32 = .ok (.iconst 1, 1) := by decide +kernel
theorem dX4_draw_33 : decode cX4_draw 33 = .ok (.iload 8, 2) := by decide +kernel
theorem dX4_draw_35 : decode cX4_draw 35 = .ok (.ishl, 1) := by decide +kernel
theorem dX4_draw_36 : decode cX4_draw 36 = .ok (.istore 9, 2) := by decide +kernel
theorem dX4_draw_38 : decode cX4_draw 38 = .ok (.iload 9, 2) := by decide +kernel
theorem dX4_draw_40 : decode cX4_draw 40 = .ok (.iconst 1, 1) := by decide +kernel
theorem dX4_draw_41 : decode cX4_draw 41 = .ok (.isub, 1) := by decide +kernel
theorem dX4_draw_42 : decode cX4_draw 42 = .ok (.iload 7, 2) := by decide +kernel
theorem dX4_draw_44 : decode cX4_draw 44 = .ok (.iconst (-1), 1) := by decide +kernel
theorem dX4_draw_45 : decode cX4_draw 45 = .ok (.ixor, 1) := by decide +kernel
theorem dX4_draw_46 : decode cX4_draw 46 = .ok (.iand, 1) := by decide +kernel
theorem dX4_draw_47 : decode cX4_draw 47 = .ok (.istore 10, 2) := by decide +kernel
theorem dX4_draw_49 : decode cX4_draw 49 = .ok (.aload 4, 2) := by decide +kernel
theorem dX4_draw_51 : decode cX4_draw 51 = .ok (.iload 7, 2) := by decide +kernel
theorem dX4_draw_53 : decode cX4_draw 53 = .ok (.iload 10, 2) := by decide +kernel
theorem dX4_draw_55 : decode cX4_draw 55 = .ok (.invokevirtual 152, 3) := by decide +kernel
theorem dX4_draw_58 : decode cX4_draw 58 = .ok (.lstore 11, 2) := by decide +kernel
theorem dX4_draw_60 : decode cX4_draw 60 = .ok (.aload 4, 2) := by decide +kernel
theorem dX4_draw_62 : decode cX4_draw 62 = .ok (.iload 7, 2) := by decide +kernel
theorem dX4_draw_64 : decode cX4_draw 64 = .ok (.iload 9, 2) := by decide +kernel
theorem dX4_draw_66 : decode cX4_draw 66 = .ok (.ior, 1) := by decide +kernel
theorem dX4_draw_67 : decode cX4_draw 67 = .ok (.iload 10, 2) := by decide +kernel
theorem dX4_draw_69 : decode cX4_draw 69 = .ok (.invokevirtual 152, 3) := by decide +kernel
theorem dX4_draw_72 : decode cX4_draw 72 = .ok (.lstore 13, 2) := by decide +kernel
theorem dX4_draw_74 : decode cX4_draw 74 = .ok (.lload 5, 2) := by decide +kernel
theorem dX4_draw_76 : decode cX4_draw 76 = .ok (.ldc2_w 176, 3) := by decide +kernel
theorem dX4_draw_79 : decode cX4_draw 79 = .ok (.lmul, 1) := by decide +kernel
theorem dX4_draw_80 : decode cX4_draw 80 = .ok (.ldc2_w 178, 3) := by decide +kernel
theorem dX4_draw_83 : decode cX4_draw 83 = .ok (.ladd, 1) := by decide +kernel
theorem dX4_draw_84 : decode cX4_draw 84 = .ok (.lstore 5, 2) := by decide +kernel
theorem dX4_draw_86 : decode cX4_draw 86 = .ok (.lload 11, 2) := by decide +kernel
theorem dX4_draw_88 : decode cX4_draw 88 = .ok (.lconst 0, 1) := by decide +kernel
theorem dX4_draw_89 : decode cX4_draw 89 = .ok (.lcmp, 1) := by decide +kernel
theorem dX4_draw_90 : decode cX4_draw 90 = .ok (.ifCond .le 24, 3) := by decide +kernel
theorem dX4_draw_93 : decode cX4_draw 93 = .ok (.lload 5, 2) := by decide +kernel
theorem dX4_draw_95 : decode cX4_draw 95 = .ok (.bipush 33, 2) := by decide +kernel
theorem dX4_draw_97 : decode cX4_draw 97 = .ok (.lushr, 1) := by decide +kernel
theorem dX4_draw_98 : decode cX4_draw 98 = .ok (.lload 11, 2) := by decide +kernel
theorem dX4_draw_100 : decode cX4_draw 100 = .ok (.lrem, 1) := by decide +kernel
theorem dX4_draw_101 : decode cX4_draw 101 = .ok (.lload 13, 2) := by decide +kernel
theorem dX4_draw_103 : decode cX4_draw 103 = .ok (.lcmp, 1) := by decide +kernel
theorem dX4_draw_104 : decode cX4_draw 104 = .ok (.ifCond .ge 10, 3) := by decide +kernel
theorem dX4_draw_107 : decode cX4_draw 107 = .ok (.iload 7, 2) := by decide +kernel
theorem dX4_draw_109 : decode cX4_draw 109 = .ok (.iload 9, 2) := by decide +kernel
theorem dX4_draw_111 : decode cX4_draw 111 = .ok (.ior, 1) := by decide +kernel
theorem dX4_draw_112 : decode cX4_draw 112 = .ok (.istore 7, 2) := by decide +kernel
theorem dX4_draw_114 : decode cX4_draw 114 = .ok (.iinc 8 1, 3) := by decide +kernel
theorem dX4_draw_117 : decode cX4_draw 117 = .ok (.goto (-94), 3) := by decide +kernel
theorem dX4_draw_120 : decode cX4_draw 120 = .ok (.iload 7, 2) := by decide +kernel
theorem dX4_draw_122 : decode cX4_draw 122 = .ok (.ireturn, 1) := by decide +kernel
theorem dX4_isAmong_0 : decode cX4_isAmong 0 = .ok (.iload_n 0, 1) := by decide +kernel
theorem dX4_isAmong_1 : decode cX4_isAmong 1 = .ok (.iload_n 1, 1) := by decide +kernel
theorem dX4_isAmong_2 : decode cX4_isAmong 2 = .ok (.if_icmp .lt 12, 3) := by decide +kernel
theorem dX4_isAmong_5 : decode cX4_isAmong 5 = .ok (.iload_n 0, 1) := by decide +kernel
theorem dX4_isAmong_6 : decode cX4_isAmong 6 = .ok (.iload_n 2, 1) := by decide +kernel
theorem dX4_isAmong_7 : decode cX4_isAmong 7 = .ok (.if_icmp .gt 7, 3) := by decide +kernel
theorem dX4_isAmong_10 : decode cX4_isAmong 10 = .ok (.iconst 1, 1) := by decide +kernel
theorem dX4_isAmong_11 : decode cX4_isAmong 11 = .ok (.goto 4, 3) := by decide +kernel
theorem dX4_isAmong_14 : decode cX4_isAmong 14 = .ok (.iconst 0, 1) := by decide +kernel
theorem dX4_isAmong_15 : decode cX4_isAmong 15 = .ok (.ireturn, 1) := by decide +kernel
set_option maxRecDepth 20000 in
theorem ggX4_isPlace_X4_isAmong : GoodIn wsX4_isPlace wsX4_isAmong := goodIn_r _ [4] (by decide +kernel) (by decide +kernel)
set_option maxRecDepth 20000 in
theorem gX4_isPlace_X4_isAmong : GoodIn wsX4_isPlace (va_wsS RX4 69 yX4_isAmong wsX4_isAmong) := goodIn_app (goodIn_of _ (by decide +kernel)) ggX4_isPlace_X4_isAmong
theorem dX4_isPlace_0 : decode cX4_isPlace 0 = .ok (.iload_n 0, 1) := by decide +kernel
theorem dX4_isPlace_1 : decode cX4_isPlace 1 = .ok (.iconst 0, 1) := by decide +kernel
theorem dX4_isPlace_2 : decode cX4_isPlace 2 = .ok (.iconst 5, 1) := by decide +kernel
theorem dX4_isPlace_3 : decode cX4_isPlace 3 = .ok (.invokestatic 69, 3) := by decide +kernel
theorem dX4_isPlace_6 : decode cX4_isPlace 6 = .ok (.ireturn, 1) := by decide +kernel
set_option maxRecDepth 20000 in
theorem ggX4_isPost_X4_isAmong : GoodIn wsX4_isPost wsX4_isAmong := goodIn_r _ [4] (by decide +kernel) (by decide +kernel)
set_option maxRecDepth 20000 in
theorem gX4_isPost_X4_isAmong : GoodIn wsX4_isPost (va_wsS RX4 69 yX4_isAmong wsX4_isAmong) := goodIn_app (goodIn_of _ (by decide +kernel)) ggX4_isPost_X4_isAmong
theorem dX4_isPost_0 : decode cX4_isPost 0 = .ok (.iload_n 0, 1) := by decide +kernel
theorem dX4_isPost_1 : decode cX4_isPost 1 = .ok (.iconst 0, 1) := by decide +kernel
theorem dX4_isPost_2 : decode cX4_isPost 2 = .ok (.iconst 4, 1) := by decide +kernel
theorem dX4_isPost_3 : decode cX4_isPost 3 = .ok (.invokestatic 69, 3) := by decide +kernel
theorem dX4_isPost_6 : decode cX4_isPost 6 = .ok (.ireturn, 1) := by decide +kernel
set_option maxRecDepth 20000 in
theorem ggX4_isPosts_X4_isAmong : GoodIn wsX4_isPosts wsX4_isAmong := goodIn_r _ [4] (by decide +kernel) (by decide +kernel)
set_option maxRecDepth 20000 in
theorem gX4_isPosts_X4_isAmong : GoodIn wsX4_isPosts (va_wsS RX4 69 yX4_isAmong wsX4_isAmong) := goodIn_app (goodIn_of _ (by decide +kernel)) ggX4_isPosts_X4_isAmong
theorem dX4_isPosts_0 : decode cX4_isPosts 0 = .ok (.iload_n 0, 1) := by decide +kernel
theorem dX4_isPosts_1 : decode cX4_isPosts 1 = .ok (.iconst 2, 1) := by decide +kernel
theorem dX4_isPosts_2 : decode cX4_isPosts 2 = .ok (.iconst 5, 1) := by decide +kernel
theorem dX4_isPosts_3 : decode cX4_isPosts 3 = .ok (.invokestatic 69, 3) := by decide +kernel
theorem dX4_isPosts_6 : decode cX4_isPosts 6 = .ok (.ireturn, 1) := by decide +kernel
set_option maxRecDepth 20000 in
theorem ggX4_isWhat_X4_isAmong : GoodIn wsX4_isWhat wsX4_isAmong := goodIn_r _ [4] (by decide +kernel) (by decide +kernel)
set_option maxRecDepth 20000 in
theorem gX4_isWhat_X4_isAmong : GoodIn wsX4_isWhat (va_wsS RX4 69 yX4_isAmong wsX4_isAmong) := goodIn_app (goodIn_of _ (by decide +kernel)) ggX4_isWhat_X4_isAmong
theorem dX4_isWhat_0 : decode cX4_isWhat 0 = .ok (.iload_n 0, 1) := by decide +kernel
theorem dX4_isWhat_1 : decode cX4_isWhat 1 = .ok (.iconst 0, 1) := by decide +kernel
theorem dX4_isWhat_2 : decode cX4_isWhat 2 = .ok (.iconst 1, 1) := by decide +kernel
theorem dX4_isWhat_3 : decode cX4_isWhat 3 = .ok (.invokestatic 69, 3) := by decide +kernel
theorem dX4_isWhat_6 : decode cX4_isWhat 6 = .ok (.ireturn, 1) := by decide +kernel
set_option maxRecDepth 20000 in
theorem ggX4_isThing_X4_isAmong : GoodIn wsX4_isThing wsX4_isAmong := goodIn_r _ [5] (by decide +kernel) (by decide +kernel)
set_option maxRecDepth 20000 in
theorem gX4_isThing_X4_isAmong : GoodIn wsX4_isThing (va_wsS RX4 69 yX4_isAmong wsX4_isAmong) := goodIn_app (goodIn_of _ (by decide +kernel)) ggX4_isThing_X4_isAmong
theorem dX4_isThing_0 : decode cX4_isThing 0 = .ok (.iload_n 1, 1) := by decide +kernel
theorem dX4_isThing_1 : decode cX4_isThing 1 = .ok (.iconst 0, 1) := by decide +kernel
theorem dX4_isThing_2 : decode cX4_isThing 2 = .ok (.aload_n 0, 1) := by decide +kernel
theorem dX4_isThing_3 : decode cX4_isThing 3 = .ok (.getfield 18, 3) := by decide +kernel
theorem dX4_isThing_6 : decode cX4_isThing 6 = .ok (.iconst 1, 1) := by decide +kernel
theorem dX4_isThing_7 : decode cX4_isThing 7 = .ok (.isub, 1) := by decide +kernel
theorem dX4_isThing_8 : decode cX4_isThing 8 = .ok (.invokestatic 69, 3) := by decide +kernel
theorem dX4_isThing_11 : decode cX4_isThing 11 = .ok (.ireturn, 1) := by decide +kernel
set_option maxRecDepth 20000 in
theorem ggX4_isCount_X4_isAmong : GoodIn wsX4_isCount wsX4_isAmong := goodIn_r _ [5] (by decide +kernel) (by decide +kernel)
set_option maxRecDepth 20000 in
theorem gX4_isCount_X4_isAmong : GoodIn wsX4_isCount (va_wsS RX4 69 yX4_isAmong wsX4_isAmong) := goodIn_app (goodIn_of _ (by decide +kernel)) ggX4_isCount_X4_isAmong
theorem dX4_isCount_0 : decode cX4_isCount 0 = .ok (.iload_n 1, 1) := by decide +kernel
theorem dX4_isCount_1 : decode cX4_isCount 1 = .ok (.iconst 0, 1) := by decide +kernel
theorem dX4_isCount_2 : decode cX4_isCount 2 = .ok (.aload_n 0, 1) := by decide +kernel
theorem dX4_isCount_3 : decode cX4_isCount 3 = .ok (.getfield 18, 3) := by decide +kernel
theorem dX4_isCount_6 : decode cX4_isCount 6 = .ok (.invokestatic 69, 3) := by decide +kernel
theorem dX4_isCount_9 : decode cX4_isCount 9 = .ok (.ireturn, 1) := by decide +kernel
set_option maxRecDepth 20000 in
theorem ggX4_isSet_X4_isAmong : GoodIn wsX4_isSet wsX4_isAmong := goodIn_r _ [5] (by decide +kernel) (by decide +kernel)
set_option maxRecDepth 20000 in
theorem gX4_isSet_X4_isAmong : GoodIn wsX4_isSet (va_wsS RX4 69 yX4_isAmong wsX4_isAmong) := goodIn_app (goodIn_of _ (by decide +kernel)) ggX4_isSet_X4_isAmong
theorem dX4_isSet_0 : decode cX4_isSet 0 = .ok (.iload_n 1, 1) := by decide +kernel
theorem dX4_isSet_1 : decode cX4_isSet 1 = .ok (.iconst 0, 1) := by decide +kernel
theorem dX4_isSet_2 : decode cX4_isSet 2 = .ok (.aload_n 0, 1) := by decide +kernel
theorem dX4_isSet_3 : decode cX4_isSet 3 = .ok (.getfield 22, 3) := by decide +kernel
theorem dX4_isSet_6 : decode cX4_isSet 6 = .ok (.iconst 1, 1) := by decide +kernel
theorem dX4_isSet_7 : decode cX4_isSet 7 = .ok (.isub, 1) := by decide +kernel
theorem dX4_isSet_8 : decode cX4_isSet 8 = .ok (.invokestatic 69, 3) := by decide +kernel
theorem dX4_isSet_11 : decode cX4_isSet 11 = .ok (.ireturn, 1) := by decide +kernel
set_option maxRecDepth 20000 in
theorem ggX4_lawAt_X4_isPlace : GoodIn wsX4_lawAt wsX4_isPlace := goodIn_r _ [6, 7, 8, 5, 9] (by decide +kernel) (by decide +kernel)
set_option maxRecDepth 20000 in
theorem gX4_lawAt_X4_isPlace : GoodIn wsX4_lawAt (va_wsS RX4 62 yX4_isPlace wsX4_isPlace) := goodIn_app (goodIn_of _ (by decide +kernel)) ggX4_lawAt_X4_isPlace
theorem dX4_lawAt_0 : decode cX4_lawAt 0 = .ok (.iload_n 1, 1) := by decide +kernel
theorem dX4_lawAt_1 : decode cX4_lawAt 1 = .ok (.invokestatic 62, 3) := by decide +kernel
theorem dX4_lawAt_4 : decode cX4_lawAt 4 = .ok (.ifCond .eq 15, 3) := by decide +kernel
theorem dX4_lawAt_7 : decode cX4_lawAt 7 = .ok (.aload_n 0, 1) := by decide +kernel
theorem dX4_lawAt_8 : decode cX4_lawAt 8 = .ok (.getfield 33, 3) := by decide +kernel
theorem dX4_lawAt_11 : decode cX4_lawAt 11 = .ok (.iload_n 1, 1) := by decide +kernel
theorem dX4_lawAt_12 : decode cX4_lawAt 12 = .ok (.aaload, 1) := by decide +kernel
theorem dX4_lawAt_13 : decode cX4_lawAt 13 = .ok (.getfield 180, 3) := by decide +kernel
theorem dX4_lawAt_16 : decode cX4_lawAt 16 = .ok (.ifCond .ne 5, 3) := by decide +kernel
theorem dX4_lawAt_19 : decode cX4_lawAt 19 = .ok (.aconst_null, 1) := by decide +kernel
theorem dX4_lawAt_20 : decode cX4_lawAt 20 = .ok (.areturn, 1) := by decide +kernel
theorem dX4_lawAt_21 : decode cX4_lawAt 21 = .ok (.aload_n 0, 1) := by decide +kernel
theorem dX4_lawAt_22 : decode cX4_lawAt 22 = .ok (.getfield 33, 3) := by decide +kernel
theorem dX4_lawAt_25 : decode cX4_lawAt 25 = .ok (.iload_n 1, 1) := by decide +kernel
theorem dX4_lawAt_26 : decode cX4_lawAt 26 = .ok (.aaload, 1) := by decide +kernel
theorem dX4_lawAt_27 : decode cX4_lawAt 27 = .ok (.areturn, 1) := by decide +kernel
set_option maxRecDepth 20000 in
theorem ggX4_draftWorths_X3_worthOf : GoodIn wsX4_draftWorths wsX3_worthOf := goodIn_r _ [8, 9, 10, 11, 12, 13, 14, 15, 16, 17, 18, 19, 20, 21, 22, 23, 24, 25, 26, 27, 28, 29, 30, 31, 32, 33, 34, 35, 36, 7, 37, 38, 39, 40, 41, 42, 43, 44, 45, 46, 47, 48, 49, 50, 51, 52, 53, 54, 55, 56, 57, 58, 67, 68, 69, 70, 71] (by decide +kernel) (by decide +kernel)
set_option maxRecDepth 20000 in
theorem gX4_draftWorths_X3_worthOf : GoodIn wsX4_draftWorths (wsV RX4 83 RX3 yX3_worthOf wsX3_worthOf) := goodIn_app (goodIn_of _ (by decide +kernel)) ggX4_draftWorths_X3_worthOf
theorem dX4_draftWorths_0 : decode cX4_draftWorths 0 = .ok (.iconst 0, 1) := by decide +kernel
theorem dX4_draftWorths_1 : decode cX4_draftWorths 1 = .ok (.istore_n 2, 1) := by decide +kernel
theorem dX4_draftWorths_2 : decode cX4_draftWorths 2 = .ok (.iload_n 2, 1) := by decide +kernel
theorem dX4_draftWorths_3 : decode cX4_draftWorths 3 = .ok (.aload_n 0, 1) := by decide +kernel
theorem dX4_draftWorths_4 : decode cX4_draftWorths 4 = .ok (.getfield 22, 3) := by decide +kernel
theorem dX4_draftWorths_7 : decode cX4_draftWorths 7 = .ok (.if_icmp .ge 38, 3) := by decide +kernel
theorem dX4_draftWorths_10 : decode cX4_draftWorths 10 = .ok (.aload_n 0, 1) := by decide +kernel
theorem dX4_draftWorths_11 : decode cX4_draftWorths 11 = .ok (.getfield 52, 3) := by decide +kernel
theorem dX4_draftWorths_14 : decode cX4_draftWorths 14 = .ok (.iload_n 2, 1) := by decide +kernel
theorem dX4_draftWorths_15 : decode cX4_draftWorths 15 = .ok (.aload_n 1, 1) := by decide +kernel
theorem dX4_draftWorths_16 : decode cX4_draftWorths 16 = .ok (.iload_n 2, 1) := by decide +kernel
theorem dX4_draftWorths_17 : decode cX4_draftWorths 17 = .ok (.iconst 0, 1) := by decide +kernel
theorem dX4_draftWorths_18 : decode cX4_draftWorths 18 = .ok (.aload_n 0, 1) := by decide +kernel
theorem dX4_draftWorths_19 : decode cX4_draftWorths 19 = .ok (.getfield 58, 3) := by decide +kernel
theorem dX4_draftWorths_22 : decode cX4_draftWorths 22 = .ok (.invokevirtual 83, 3) := by decide +kernel
theorem dX4_draftWorths_25 : decode cX4_draftWorths 25 = .ok (.lastore, 1) := by decide +kernel
theorem dX4_draftWorths_26 : decode cX4_draftWorths 26 = .ok (.aload_n 0, 1) := by decide +kernel
theorem dX4_draftWorths_27 : decode cX4_draftWorths 27 = .ok (.getfield 52, 3) := by decide +kernel
theorem dX4_draftWorths_30 : decode cX4_draftWorths 30 = .ok (.iload_n 2, 1) := by decide +kernel
theorem dX4_draftWorths_31 : decode cX4_draftWorths 31 = .ok (.laload, 1) := by decide +kernel
theorem dX4_draftWorths_32 : decode cX4_draftWorths 32 = .ok (.lconst 0, 1) := by decide +kernel
theorem dX4_draftWorths_33 : decode cX4_draftWorths 33 = .ok (.lcmp, 1) := by decide +kernel
theorem dX4_draftWorths_34 : decode cX4_draftWorths 34 = .ok (.ifCond .ge 5, 3) := by decide +kernel
theorem dX4_draftWorths_37 : decode cX4_draftWorths 37 = .ok (.iload_n 2, 1) := by decide +kernel
theorem dX4_draftWorths_38 : decode cX4_draftWorths 38 = .ok (.ireturn, 1) := by decide +kernel
theorem dX4_draftWorths_39 : decode cX4_draftWorths 39 = .ok (.iinc 2 1, 3) := by decide +kernel
theorem dX4_draftWorths_42 : decode cX4_draftWorths 42 = .ok (.goto (-40), 3) := by decide +kernel
theorem dX4_draftWorths_45 : decode cX4_draftWorths 45 = .ok (.iconst (-1), 1) := by decide +kernel
theorem dX4_draftWorths_46 : decode cX4_draftWorths 46 = .ok (.ireturn, 1) := by decide +kernel
theorem dX4_halveDraft_0 : decode cX4_halveDraft 0 = .ok (.iconst 0, 1) := by decide +kernel
theorem dX4_halveDraft_1 : decode cX4_halveDraft 1 = .ok (.istore_n 2, 1) := by decide +kernel
theorem dX4_halveDraft_2 : decode cX4_halveDraft 2 = .ok (.iload_n 2, 1) := by decide +kernel
theorem dX4_halveDraft_3 : decode cX4_halveDraft 3 = .ok (.aload_n 0, 1) := by decide +kernel
theorem dX4_halveDraft_4 : decode cX4_halveDraft 4 = .ok (.getfield 22, 3) := by decide +kernel
theorem dX4_halveDraft_7 : decode cX4_halveDraft 7 = .ok (.if_icmp .ge 40, 3) := by decide +kernel
theorem dX4_halveDraft_10 : decode cX4_halveDraft 10 = .ok (.iload_n 2, 1) := by decide +kernel
theorem dX4_halveDraft_11 : decode cX4_halveDraft 11 = .ok (.iload_n 1, 1) := by decide +kernel
theorem dX4_halveDraft_12 : decode cX4_halveDraft 12 = .ok (.iand, 1) := by decide +kernel
theorem dX4_halveDraft_13 : decode cX4_halveDraft 13 = .ok (.ifCond .ne 28, 3) := by decide +kernel
theorem dX4_halveDraft_16 : decode cX4_halveDraft 16 = .ok (.aload_n 0, 1) := by decide +kernel
theorem dX4_halveDraft_17 : decode cX4_halveDraft 17 = .ok (.getfield 52, 3) := by decide +kernel
theorem dX4_halveDraft_20 : decode cX4_halveDraft 20 = .ok (.iload_n 2, 1) := by decide +kernel
theorem dX4_halveDraft_21 : decode cX4_halveDraft 21 = .ok (.ldc2_w 184, 3) := by decide +kernel
theorem dX4_halveDraft_24 : decode cX4_halveDraft 24 = .ok (.aload_n 0, 1) := by decide +kernel
theorem dX4_halveDraft_25 : decode cX4_halveDraft 25 = .ok (.getfield 52, 3) := by decide +kernel
theorem dX4_halveDraft_28 : decode cX4_halveDraft 28 = .ok (.iload_n 2, 1) := by decide +kernel
theorem dX4_halveDraft_29 : decode cX4_halveDraft 29 = .ok (.laload, 1) := by decide +kernel
theorem dX4_halveDraft_30 : decode cX4_halveDraft 30 = .ok (.lmul, 1) := by decide +kernel
theorem dX4_halveDraft_31 : decode cX4_halveDraft 31 = .ok (.aload_n 0, 1) := by decide +kernel
theorem dX4_halveDraft_32 : decode cX4_halveDraft 32 = .ok (.getfield 52, 3) := by decide +kernel
theorem dX4_halveDraft_35 : decode cX4_halveDraft 35 = .ok (.iload_n 2, 1) := by decide +kernel
theorem dX4_halveDraft_36 : decode cX4_halveDraft 36 = .ok (.iload_n 1, 1) := by decide +kernel
theorem dX4_halveDraft_37 : decode cX4_halveDraft 37 = .ok (.ior, 1) := by decide +kernel
theorem dX4_halveDraft_38 : decode cX4_halveDraft 38 = .ok (.laload, 1) := by decide +kernel
theorem dX4_halveDraft_39 : decode cX4_halveDraft 39 = .ok (.ladd, 1) := by decide +kernel
theorem dX4_halveDraft_40 : decode cX4_halveDraft 40 = .ok (.lastore, 1) := by decide +kernel
theorem dX4_halveDraft_41 : decode cX4_halveDraft 41 = .ok (.iinc 2 1, 3) := by decide +kernel
theorem dX4_halveDraft_44 : decode cX4_halveDraft 44 = .ok (.goto (-42), 3) := by decide +kernel
theorem dX4_halveDraft_47 : decode cX4_halveDraft 47 = .ok (.return_, 1) := by decide +kernel
set_option maxRecDepth 20000 in
theorem ggX4_settle_X4_commonDivisor : GoodIn wsX4_settle wsX4_commonDivisor := goodIn_r _ [8] (by decide +kernel) (by decide +kernel)
set_option maxRecDepth 20000 in
theorem gX4_settle_X4_commonDivisor : GoodIn wsX4_settle (va_wsS RX4 186 yX4_commonDivisor wsX4_commonDivisor) := goodIn_app (goodIn_of _ (by decide +kernel)) ggX4_settle_X4_commonDivisor
set_option maxRecDepth 20000 in
theorem ggX4_settle_X0_become : GoodIn wsX4_settle wsX0_become := goodIn_r _ [13, 14, 15, 16, 25, 26, 27] (by decide +kernel) (by decide +kernel)
set_option maxRecDepth 20000 in
theorem gX4_settle_X0_become : GoodIn wsX4_settle (wsV RX4 190 RX0 yX0_become wsX0_become) := goodIn_app (goodIn_of _ (by decide +kernel)) ggX4_settle_X0_become
theorem dX4_settle_0 : decode cX4_settle 0 = .ok (.lconst 0, 1) := by decide +kernel
theorem dX4_settle_1 : decode cX4_settle 1 = .ok (.lstore_n 2, 1) := by decide +kernel
theorem dX4_settle_2 : decode cX4_settle 2 = .ok (.iconst 0, 1) := by decide +kernel
theorem dX4_settle_3 : decode cX4_settle 3 = .ok (.istore 4, 2) := by decide +kernel
theorem dX4_settle_5 : decode cX4_settle 5 = .ok (.iload 4, 2) := by decide +kernel
theorem dX4_settle_7 : decode cX4_settle 7 = .ok (.aload_n 0, 1) := by decide +kernel
theorem dX4_settle_8 : decode cX4_settle 8 = .ok (.getfield 22, 3) := by decide +kernel
theorem dX4_settle_11 : decode cX4_settle 11 = .ok (.if_icmp .ge 21, 3) := by decide +kernel
theorem dX4_settle_14 : decode cX4_settle 14 = .ok (.aload_n 0, 1) := by decide +kernel
theorem dX4_settle_15 : decode cX4_settle 15 = .ok (.getfield 52, 3) := by decide +kernel
theorem dX4_settle_18 : decode cX4_settle 18 = .ok (.iload 4, 2) := by decide +kernel
theorem dX4_settle_20 : decode cX4_settle 20 = .ok (.laload, 1) := by decide +kernel
theorem dX4_settle_21 : decode cX4_settle 21 = .ok (.lload_n 2, 1) := by decide +kernel
theorem dX4_settle_22 : decode cX4_settle 22 = .ok (.invokestatic 186, 3) := by decide +kernel
theorem dX4_settle_25 : decode cX4_settle 25 = .ok (.lstore_n 2, 1) := by decide +kernel
theorem dX4_settle_26 : decode cX4_settle 26 = .ok (.iinc 4 1, 3) := by decide +kernel
theorem dX4_settle_29 : decode cX4_settle 29 = .ok (.goto (-24), 3) := by decide +kernel
theorem dX4_settle_32 : decode cX4_settle 32 = .ok (.lload_n 2, 1) := by decide +kernel
theorem dX4_settle_33 : decode cX4_settle 33 = .ok (.lconst 1, 1) := by decide +kernel
theorem dX4_settle_34 : decode cX4_settle 34 = .ok (.lcmp, 1) := by decide +kernel
theorem dX4_settle_35 : decode cX4_settle 35 = .ok (.ifCond .ge 5, 3) := by decide +kernel
theorem dX4_settle_38 : decode cX4_settle 38 = .ok (.iconst 0, 1) := by decide +kernel
theorem dX4_settle_39 : decode cX4_settle 39 = .ok (.ireturn, 1) := by decide +kernel
theorem dX4_settle_40 : decode cX4_settle 40 = .ok (.iconst 0, 1) := by decide +kernel
theorem dX4_settle_41 : decode cX4_settle 41 = .ok (.istore 4, 2) := by decide +kernel
theorem dX4_settle_43 : decode cX4_settle 43 = .ok (.iload 4, 2) := by decide +kernel
theorem dX4_settle_45 : decode cX4_settle 45 = .ok (.aload_n 0, 1) := by decide +kernel
theorem dX4_settle_46 : decode cX4_settle 46 = .ok (.getfield 22, 3) := by decide +kernel
theorem dX4_settle_49 : decode cX4_settle 49 = .ok (.if_icmp .ge 36, 3) := by decide +kernel
theorem dX4_settle_52 : decode cX4_settle 52 = .ok (.aload_n 0, 1) := by decide +kernel
theorem dX4_settle_53 : decode cX4_settle 53 = .ok (.getfield 52, 3) := by decide +kernel
theorem dX4_settle_56 : decode cX4_settle 56 = .ok (.iload 4, 2) := by decide +kernel
theorem dX4_settle_58 : decode cX4_settle 58 = .ok (.dup2, 1) := by decide +kernel
theorem dX4_settle_59 : decode cX4_settle 59 = .ok (.laload, 1) := by decide +kernel
theorem dX4_settle_60 : decode cX4_settle 60 = .ok (.lload_n 2, 1) := by decide +kernel
theorem dX4_settle_61 : decode cX4_settle 61 = .ok (.ldiv, 1) := by decide +kernel
theorem dX4_settle_62 : decode cX4_settle 62 = .ok (.lastore, 1) := by decide +kernel
theorem dX4_settle_63 : decode cX4_settle 63 = .ok (.aload_n 0, 1) := by decide +kernel
theorem dX4_settle_64 : decode cX4_settle 64 = .ok (.getfield 52, 3) := by decide +kernel
theorem dX4_settle_67 : decode cX4_settle 67 = .ok (.iload 4, 2) := by decide +kernel
theorem dX4_settle_69 : decode cX4_settle 69 = .ok (.laload, 1) := by decide +kernel
theorem dX4_settle_70 : decode cX4_settle 70 = .ok (.ldc2_w 115, 3) := by decide +kernel
theorem dX4_settle_73 : decode cX4_settle 73 = .ok (.lcmp, 1) := by decide +kernel
theorem dX4_settle_74 : decode cX4_settle 74 = .ok (.ifCond .le 5, 3) := by decide +kernel
theorem dX4_settle_77 : decode cX4_settle 77 = .ok (.iconst 0, 1) := by decide +kernel
theorem dX4_settle_78 : decode cX4_settle 78 = .ok (.ireturn, 1) := by decide +kernel
theorem dX4_settle_79 : decode cX4_settle 79 = .ok (.iinc 4 1, 3) := by decide +kernel
theorem dX4_settle_82 : decode cX4_settle 82 = .ok (.goto (-39), 3) := by decide +kernel
theorem dX4_settle_85 : decode cX4_settle 85 = .ok (.aload_n 0, 1) := by decide +kernel
theorem dX4_settle_86 : decode cX4_settle 86 = .ok (.getfield 33, 3) := by decide +kernel
theorem dX4_settle_89 : decode cX4_settle 89 = .ok (.iload_n 1, 1) := by decide +kernel
theorem dX4_settle_90 : decode cX4_settle 90 = .ok (.aaload, 1) := by decide +kernel
theorem dX4_settle_91 : decode cX4_settle 91 = .ok (.aload_n 0, 1) := by decide +kernel
theorem dX4_settle_92 : decode cX4_settle 92 = .ok (.getfield 52, 3) := by decide +kernel
theorem dX4_settle_95 : decode cX4_settle 95 = .ok (.invokevirtual 190, 3) := by decide +kernel
theorem dX4_settle_98 : decode cX4_settle 98 = .ok (.iconst 1, 1) := by decide +kernel
theorem dX4_settle_99 : decode cX4_settle 99 = .ok (.ireturn, 1) := by decide +kernel
theorem dX4_withBestThing_0 : decode cX4_withBestThing 0 = .ok (.iload_n 2, 1) := by decide +kernel
theorem dX4_withBestThing_1 : decode cX4_withBestThing 1 = .ok (.istore_n 3, 1) := by decide +kernel
theorem dX4_withBestThing_2 : decode cX4_withBestThing 2 = .ok (.iconst 0, 1) := by decide +kernel
theorem dX4_withBestThing_3 : decode cX4_withBestThing 3 = .ok (.istore 4, 2) := by decide +kernel
theorem dX4_withBestThing_5 : decode cX4_withBestThing 5 = .ok (.iload 4, 2) := by decide +kernel
theorem dX4_withBestThing_7 : decode cX4_withBestThing 7 = .ok (.aload_n 0, 1) := by decide +kernel
theorem dX4_withBestThing_8 : decode cX4_withBestThing 8 = .ok (.getfield 18, 3) := by decide +kernel
theorem dX4_withBestThing_11 : decode cX4_withBestThing 11 = .ok (.if_icmp .ge 48, 3) := by decide +kernel
theorem dX4_withBestThing_14 : decode cX4_withBestThing 14 = .ok (.iload_n 2, 1) := by decide +kernel
theorem dX4_withBestThing_15 : decode cX4_withBestThing 15 = .ok (.iconst 1, 1) := by decide +kernel
theorem dX4_withBestThing_16 : decode cX4_withBestThing 16 = .ok (.iload 4, 2) := by decide +kernel
theorem dX4_withBestThing_18 : decode cX4_withBestThing 18 = .ok (.ishl, 1) := by decide +kernel
theorem dX4_withBestThing_19 : decode cX4_withBestThing 19 = .ok (.ior, 1) := by decide +kernel
theorem dX4_withBestThing_20 : decode cX4_withBestThing 20 = .ok (.istore 5, 2) := by decide +kernel
theorem dX4_withBestThing_22 : decode cX4_withBestThing 22 = .ok (.iload 5, 2) := by decide +kernel
theorem dX4_withBestThing_24 : decode cX4_withBestThing 24 = .ok (.iload_n 2, 1) := by decide +kernel
theorem dX4_withBestThing_25 : decode cX4_withBestThing 25 = .ok (.if_icmp .eq 28, 3) := by decide +kernel
theorem dX4_withBestThing_28 : decode cX4_withBestThing 28 = .ok (.iload_n 3, 1) := by decide +kernel
theorem dX4_withBestThing_29 : decode cX4_withBestThing 29 = .ok (.iload_n 2, 1) := by decide +kernel
theorem dX4_withBestThing_30 : decode cX4_withBestThing 30 = .ok (.if_icmp .eq 20, 3) := by decide +kernel
theorem dX4_withBestThing_33 : decode cX4_withBestThing 33 = .ok (.aload_n 1, 1) := by decide +kernel
theorem dX4_withBestThing_34 : decode cX4_withBestThing 34 = .ok (.getfield 130, 3) := by decide +kernel
theorem dX4_withBestThing_37 : decode cX4_withBestThing 37 = .ok (.iload 5, 2) := by decide +kernel
theorem dX4_withBestThing_39 : decode cX4_withBestThing 39 = .ok (.laload, 1) := by decide +kernel
theorem dX4_withBestThing_40 : decode cX4_withBestThing 40 = .ok (.aload_n 1, 1) := by decide +kernel
theorem dX4_withBestThing_41 : decode cX4_withBestThing 41 = .ok (.getfield 130, 3) := by decide +kernel
theorem dX4_withBestThing_44 : decode cX4_withBestThing 44 = .ok (.iload_n 3, 1) := by decide +kernel
theorem dX4_withBestThing_45 : decode cX4_withBestThing 45 = .ok (.laload, 1) := by decide +kernel
theorem dX4_withBestThing_46 : decode cX4_withBestThing 46 = .ok (.lcmp, 1) := by decide +kernel
theorem dX4_withBestThing_47 : decode cX4_withBestThing 47 = .ok (.ifCond .le 6, 3) := by decide +kernel
theorem dX4_withBestThing_50 : decode cX4_withBestThing 50 = .ok (.iload 5, 2) := by decide +kernel
theorem dX4_withBestThing_52 : decode cX4_withBestThing 52 = .ok (.istore_n 3, 1) := by decide +kernel
theorem dX4_withBestThing_53 : decode cX4_withBestThing 53 = .ok (.iinc 4 1, 3) := by decide +kernel
theorem dX4_withBestThing_56 : decode cX4_withBestThing 56 = .ok (.goto (-51), 3) := by decide +kernel
theorem dX4_withBestThing_59 : decode cX4_withBestThing 59 = .ok (.iload_n 3, 1) := by decide +kernel
theorem dX4_withBestThing_60 : decode cX4_withBestThing 60 = .ok (.ireturn, 1) := by decide +kernel
theorem dX4_has_0 : decode cX4_has 0 = .ok (.iload_n 0, 1) := by decide +kernel
theorem dX4_has_1 : decode cX4_has 1 = .ok (.iload_n 1, 1) := by decide +kernel
theorem dX4_has_2 : decode cX4_has 2 = .ok (.ishr, 1) := by decide +kernel
theorem dX4_has_3 : decode cX4_has 3 = .ok (.iconst 1, 1) := by decide +kernel
theorem dX4_has_4 : decode cX4_has 4 = .ok (.iand, 1) := by decide +kernel
theorem dX4_has_5 : decode cX4_has 5 = .ok (.ifCond .eq 7, 3) := by decide +kernel
theorem dX4_has_8 : decode cX4_has 8 = .ok (.iconst 1, 1) := by decide +kernel
theorem dX4_has_9 : decode cX4_has 9 = .ok (.goto 4, 3) := by decide +kernel
theorem dX4_has_12 : decode cX4_has 12 = .ok (.iconst 0, 1) := by decide +kernel
theorem dX4_has_13 : decode cX4_has 13 = .ok (.ireturn, 1) := by decide +kernel
theorem dX4_fits_0 : decode cX4_fits 0 = .ok (.iload_n 0, 1) := by decide +kernel
theorem dX4_fits_1 : decode cX4_fits 1 = .ok (.iload_n 1, 1) := by decide +kernel
theorem dX4_fits_2 : decode cX4_fits 2 = .ok (.iand, 1) := by decide +kernel
theorem dX4_fits_3 : decode cX4_fits 3 = .ok (.iload_n 1, 1) := by decide +kernel
theorem dX4_fits_4 : decode cX4_fits 4 = .ok (.if_icmp .ne 13, 3) := by decide +kernel
theorem dX4_fits_7 : decode cX4_fits 7 = .ok (.iload_n 0, 1) := by decide +kernel
theorem dX4_fits_8 : decode cX4_fits 8 = .ok (.iload_n 2, 1) := by decide +kernel
theorem dX4_fits_9 : decode cX4_fits 9 = .ok (.iand, 1) := by decide +kernel
theorem dX4_fits_10 : decode cX4_fits 10 = .ok (.ifCond .ne 7, 3) := by decide +kernel
theorem dX4_fits_13 : decode cX4_fits 13 = .ok (.iconst 1, 1) := by decide +kernel
theorem dX4_fits_14 : decode cX4_fits 14 = .ok (.goto 4, 3) := by decide +kernel
theorem dX4_fits_17 : decode cX4_fits 17 = .ok (.iconst 0, 1) := by decide +kernel
theorem dX4_fits_18 : decode cX4_fits 18 = .ok (.ireturn, 1) := by decide +kernel
set_option maxRecDepth 20000 in
theorem ggX4_lowest_X4_commonDivisor : GoodIn wsX4_lowest wsX4_commonDivisor := goodIn_r _ [9] (by decide +kernel) (by decide +kernel)
set_option maxRecDepth 20000 in
theorem gX4_lowest_X4_commonDivisor : GoodIn wsX4_lowest (va_wsS RX4 186 yX4_commonDivisor wsX4_commonDivisor) := goodIn_app (goodIn_of _ (by decide +kernel)) ggX4_lowest_X4_commonDivisor
theorem dX4_lowest_0 : decode cX4_lowest 0 = .ok (.lload_n 0, 1) := by decide +kernel
theorem dX4_lowest_1 : decode cX4_lowest 1 = .ok (.invokestatic 194, 3) := by decide +kernel
theorem dX4_lowest_4 : decode cX4_lowest 4 = .ok (.lload_n 2, 1) := by decide +kernel
theorem dX4_lowest_5 : decode cX4_lowest 5 = .ok (.invokestatic 186, 3) := by decide +kernel
theorem dX4_lowest_8 : decode cX4_lowest 8 = .ok (.lstore 5, 2) := by decide +kernel
theorem dX4_lowest_10 : decode cX4_lowest 10 = .ok (.lload 5, 2) := by decide +kernel
theorem dX4_lowest_12 : decode cX4_lowest 12 = .ok (.lconst 1, 1) := by decide +kernel
theorem dX4_lowest_13 : decode cX4_lowest 13 = .ok (.lcmp, 1) := by decide +kernel
theorem dX4_lowest_14 : decode cX4_lowest 14 = .ok (.ifCond .ge 7, 3) := by decide +kernel
theorem dX4_lowest_17 : decode cX4_lowest 17 = .ok (.ldc2_w 143, 3) := by decide +kernel
theorem dX4_lowest_20 : decode cX4_lowest 20 = .ok (.lreturn, 1) := by decide +kernel
theorem dX4_lowest_21 : decode cX4_lowest 21 = .ok (.iload 4, 2) := by decide +kernel
theorem dX4_lowest_23 : decode cX4_lowest 23 = .ok (.ifCond .ne 10, 3) := by decide +kernel
theorem dX4_lowest_26 : decode cX4_lowest 26 = .ok (.lload_n 0, 1) := by decide +kernel
theorem dX4_lowest_27 : decode cX4_lowest 27 = .ok (.lload 5, 2) := by decide +kernel
theorem dX4_lowest_29 : decode cX4_lowest 29 = .ok (.ldiv, 1) := by decide +kernel
theorem dX4_lowest_30 : decode cX4_lowest 30 = .ok (.goto 7, 3) := by decide +kernel
theorem dX4_lowest_33 : decode cX4_lowest 33 = .ok (.lload_n 2, 1) := by decide +kernel
theorem dX4_lowest_34 : decode cX4_lowest 34 = .ok (.lload 5, 2) := by decide +kernel
theorem dX4_lowest_36 : decode cX4_lowest 36 = .ok (.ldiv, 1) := by decide +kernel
theorem dX4_lowest_37 : decode cX4_lowest 37 = .ok (.lreturn, 1) := by decide +kernel
theorem dX4_commonDivisor_0 : decode cX4_commonDivisor 0 = .ok (.lload_n 0, 1) := by decide +kernel
theorem dX4_commonDivisor_1 : decode cX4_commonDivisor 1 = .ok (.lstore 4, 2) := by decide +kernel
theorem dX4_commonDivisor_3 : decode cX4_commonDivisor 3 = .ok (.lload_n 2, 1) := by decide +kernel
theorem dX4_commonDivisor_4 : decode cX4_commonDivisor 4 = .ok (.lstore 6, 2) := by decide +kernel
theorem dX4_commonDivisor_6 : decode cX4_commonDivisor 6 = .ok (.iconst 0, 1) := by decide +kernel
theorem dX4_commonDivisor_7 : decode cX4_commonDivisor 7 = .ok (.istore 8, 2) := by decide +kernel
theorem dX4_commonDivisor_9 : decode cX4_commonDivisor 9 = .ok (.iload 8, 2) := by decide +kernel
theorem dX4_commonDivisor_11 : decode cX4_commonDivisor 11 = .ok (.bipush 100, 2) := by decide +kernel
theorem dX4_commonDivisor_13 : decode cX4_commonDivisor 13 = .ok (.if_icmp .ge 31, 3) := by decide +kernel
theorem dX4_commonDivisor_16 : decode cX4_commonDivisor 16 = .ok (.lload 6, 2) := by decide +kernel
theorem dX4_commonDivisor_18 : decode cX4_commonDivisor 18 = .ok (.lconst 0, 1) := by decide +kernel
theorem dX4_commonDivisor_19 : decode cX4_commonDivisor 19 = .ok (.lcmp, 1) := by decide +kernel
theorem dX4_commonDivisor_20 : decode cX4_commonDivisor 20 = .ok (.ifCond .eq 24, 3) := by decide +kernel
theorem dX4_commonDivisor_23 : decode cX4_commonDivisor 23 = .ok (.lload 4, 2) := by decide +kernel
theorem dX4_commonDivisor_25 : decode cX4_commonDivisor 25 = .ok (.lload 6, 2) := by decide +kernel
theorem dX4_commonDivisor_27 : decode cX4_commonDivisor 27 = .ok (.lrem, 1) := by decide +kernel
theorem dX4_commonDivisor_28 : decode cX4_commonDivisor 28 = .ok (.lstore 9, 2) := by decide +kernel
theorem dX4_commonDivisor_30 : decode cX4_commonDivisor 30 = .ok (.lload 6, 2) := by decide +kernel
theorem dX4_commonDivisor_32 : decode cX4_commonDivisor 32 = .ok (.lstore 4, 2) := by decide +kernel
theorem dX4_commonDivisor_34 : decode cX4_commonDivisor 34 = .ok (.lload 9, 2) := by decide +kernel
theorem dX4_commonDivisor_36 : decode cX4_commonDivisor 36 = .ok (.lstore 6, 2) := by decide +kernel
theorem dX4_commonDivisor_38 : decode cX4_commonDivisor 38 = .ok (.iinc 8 1, 3) := by decide +kernel
theorem dX4_commonDivisor_41 : decode cX4_commonDivisor 41 = .ok (.goto (-32), 3) := by decide +kernel
theorem dX4_commonDivisor_44 : decode cX4_commonDivisor 44 = .ok (.lload 4, 2) := by decide +kernel
theorem dX4_commonDivisor_46 : decode cX4_commonDivisor 46 = .ok (.lreturn, 1) := by decide +kernel
