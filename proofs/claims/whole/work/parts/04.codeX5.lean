theorem dX5_in_0 : decode cX5_in 0 = .ok (.iload_n 0, 1) := by decide +kernel
theorem dX5_in_1 : decode cX5_in 1 = .ok (.iload_n 1, 1) := by decide +kernel
theorem dX5_in_2 : decode cX5_in 2 = .ok (.if_icmp .lt 12, 3) := by decide +kernel
theorem dX5_in_5 : decode cX5_in 5 = .ok (.iload_n 0, 1) := by decide +kernel
theorem dX5_in_6 : decode cX5_in 6 = .ok (.iload_n 2, 1) := by decide +kernel
theorem dX5_in_7 : decode cX5_in 7 = .ok (.if_icmp .gt 7, 3) := by decide +kernel
theorem dX5_in_10 : decode cX5_in 10 = .ok (.iconst 1, 1) := by decide +kernel
theorem dX5_in_11 : decode cX5_in 11 = .ok (.goto 4, 3) := by decide +kernel
theorem dX5_in_14 : decode cX5_in 14 = .ok (.iconst 0, 1) := by decide +kernel
theorem dX5_in_15 : decode cX5_in 15 = .ok (.ireturn, 1) := by decide +kernel
theorem dX5_init_0 : decode cX5_init 0 = .ok (.aload_n 0, 1) := by decide +kernel
theorem dX5_init_1 : decode cX5_init 1 = .ok (.invokespecial 1, 3) := by decide +kernel
theorem dX5_init_4 : decode cX5_init 4 = .ok (.aload_n 0, 1) := by decide +kernel
theorem dX5_init_5 : decode cX5_init 5 = .ok (.sipush 216, 3) := by decide +kernel
theorem dX5_init_8 : decode cX5_init 8 = .ok (.newarray .int, 2) := by decide +kernel
theorem dX5_init_10 : decode cX5_init 10 = .ok (.putfield 7, 3) := by decide +kernel
theorem dX5_init_13 : decode cX5_init 13 = .ok (.aload_n 0, 1) := by decide +kernel
theorem dX5_init_14 : decode cX5_init 14 = .ok (.bipush 6, 2) := by decide +kernel
theorem dX5_init_16 : decode cX5_init 16 = .ok (.newarray .int, 2) := by decide +kernel
theorem dX5_init_18 : decode cX5_init 18 = .ok (.putfield 13, 3) := by decide +kernel
theorem dX5_init_21 : decode cX5_init 21 = .ok (.aload_n 0, 1) := by decide +kernel
theorem dX5_init_22 : decode cX5_init 22 = .ok (.bipush 64, 2) := by decide +kernel
theorem dX5_init_24 : decode cX5_init 24 = .ok (.newarray .long, 2) := by decide +kernel
theorem dX5_init_26 : decode cX5_init 26 = .ok (.putfield 16, 3) := by decide +kernel
theorem dX5_init_29 : decode cX5_init 29 = .ok (.aload_n 0, 1) := by decide +kernel
theorem dX5_init_30 : decode cX5_init 30 = .ok (.sipush 384, 3) := by decide +kernel
theorem dX5_init_33 : decode cX5_init 33 = .ok (.newarray .long, 2) := by decide +kernel
theorem dX5_init_35 : decode cX5_init 35 = .ok (.putfield 20, 3) := by decide +kernel
theorem dX5_init_38 : decode cX5_init 38 = .ok (.aload_n 0, 1) := by decide +kernel
theorem dX5_init_39 : decode cX5_init 39 = .ok (.bipush 64, 2) := by decide +kernel
theorem dX5_init_41 : decode cX5_init 41 = .ok (.newarray .long, 2) := by decide +kernel
theorem dX5_init_43 : decode cX5_init 43 = .ok (.putfield 23, 3) := by decide +kernel
theorem dX5_init_46 : decode cX5_init 46 = .ok (.aload_n 0, 1) := by decide +kernel
theorem dX5_init_47 : decode cX5_init 47 = .ok (.bipush 64, 2) := by decide +kernel
theorem dX5_init_49 : decode cX5_init 49 = .ok (.newarray .long, 2) := by decide +kernel
theorem dX5_init_51 : decode cX5_init 51 = .ok (.putfield 26, 3) := by decide +kernel
theorem dX5_init_54 : decode cX5_init 54 = .ok (.aload_n 0, 1) := by decide +kernel
theorem dX5_init_55 : decode cX5_init 55 = .ok (.bipush 6, 2) := by decide +kernel
theorem dX5_init_57 : decode cX5_init 57 = .ok (.newarray .boolean, 2) := by decide +kernel
theorem dX5_init_59 : decode cX5_init 59 = .ok (.putfield 29, 3) := by decide +kernel
theorem dX5_init_62 : decode cX5_init 62 = .ok (.aload_n 0, 1) := by decide +kernel
theorem dX5_init_63 : decode cX5_init 63 = .ok (.bipush 6, 2) := by decide +kernel
theorem dX5_init_65 : decode cX5_init 65 = .ok (.newarray .int, 2) := by decide +kernel
theorem dX5_init_67 : decode cX5_init 67 = .ok (.putfield 33, 3) := by decide +kernel
theorem dX5_init_70 : decode cX5_init 70 = .ok (.aload_n 0, 1) := by decide +kernel
theorem dX5_init_71 : decode cX5_init 71 = .ok (.bipush 6, 2) := by decide +kernel
theorem dX5_init_73 : decode cX5_init 73 = .ok (.newarray .int, 2) := by decide +kernel
theorem dX5_init_75 : decode cX5_init 75 = .ok (.putfield 36, 3) := by decide +kernel
theorem dX5_init_78 : decode cX5_init 78 = .ok (.aload_n 0, 1) := by decide +kernel
theorem dX5_init_79 : decode cX5_init 79 = .ok (.bipush 6, 2) := by decide +kernel
theorem dX5_init_81 : decode cX5_init 81 = .ok (.newarray .int, 2) := by decide +kernel
theorem dX5_init_83 : decode cX5_init 83 = .ok (.putfield 39, 3) := by decide +kernel
theorem dX5_init_86 : decode cX5_init 86 = .ok (.aload_n 0, 1) := by decide +kernel
theorem dX5_init_87 : decode cX5_init 87 = .ok (.iconst 5, 1) := by decide +kernel
theorem dX5_init_88 : decode cX5_init 88 = .ok (.newarray .int, 2) := by decide +kernel
theorem dX5_init_90 : decode cX5_init 90 = .ok (.putfield 42, 3) := by decide +kernel
theorem dX5_init_93 : decode cX5_init 93 = .ok (.aload_n 0, 1) := by decide +kernel
theorem dX5_init_94 : decode cX5_init 94 = .ok (.iload_n 1, 1) := by decide +kernel
theorem dX5_init_95 : decode cX5_init 95 = .ok (.iconst 2, 1) := by decide +kernel
theorem dX5_init_96 : decode cX5_init 96 = .ok (.if_icmp .ge 7, 3) := by decide +kernel
theorem dX5_init_99 : decode cX5_init 99 = .ok (.iconst 2, 1) := by decide +kernel
theorem dX5_init_100 : decode cX5_init 100 = .ok (.goto 15, 3) := by decide +kernel
theorem dX5_init_103 : decode cX5_init 103 = .ok (.iload_n 1, 1) := by decide +kernel
theorem dX5_init_104 : decode cX5_init 104 = .ok (.bipush 6, 2) := by decide +kernel
theorem dX5_init_106 : decode cX5_init 106 = .ok (.if_icmp .le 8, 3) := by decide +kernel
theorem dX5_init_109 : decode cX5_init 109 = .ok (.bipush 6, 2) := by decide +kernel
theorem dX5_init_111 : decode cX5_init 111 = .ok (.goto 4, 3) := by decide +kernel
theorem dX5_init_114 : decode cX5_init 114 = .ok (.iload_n 1, 1) := by decide +kernel
theorem dX5_init_115 : decode cX5_init 115 = .ok (.putfield 45, 3) := by decide +kernel
theorem dX5_init_118 : decode cX5_init 118 = .ok (.aload_n 0, 1) := by decide +kernel
theorem dX5_init_119 : decode cX5_init 119 = .ok (.iconst 1, 1) := by decide +kernel
theorem dX5_init_120 : decode cX5_init 120 = .ok (.aload_n 0, 1) := by decide +kernel
theorem dX5_init_121 : decode cX5_init 121 = .ok (.getfield 45, 3) := by decide +kernel
theorem dX5_init_124 : decode cX5_init 124 = .ok (.ishl, 1) := by decide +kernel
theorem dX5_init_125 : decode cX5_init 125 = .ok (.putfield 49, 3) := by decide +kernel
theorem dX5_init_128 : decode cX5_init 128 = .ok (.return_, 1) := by decide +kernel
set_option maxRecDepth 20000 in
theorem ggX5_isThing_X5_in : GoodIn wsX5_isThing wsX5_in := goodIn_r _ [5] (by decide +kernel) (by decide +kernel)
set_option maxRecDepth 20000 in
theorem gX5_isThing_X5_in : GoodIn wsX5_isThing (va_wsS RX5 52 yX5_in wsX5_in) := goodIn_app (goodIn_of _ (by decide +kernel)) ggX5_isThing_X5_in
theorem dX5_isThing_0 : decode cX5_isThing 0 = .ok (.iload_n 1, 1) := by decide +kernel
theorem dX5_isThing_1 : decode cX5_isThing 1 = .ok (.iconst 0, 1) := by decide +kernel
theorem dX5_isThing_2 : decode cX5_isThing 2 = .ok (.aload_n 0, 1) := by decide +kernel
theorem dX5_isThing_3 : decode cX5_isThing 3 = .ok (.getfield 45, 3) := by decide +kernel
theorem dX5_isThing_6 : decode cX5_isThing 6 = .ok (.iconst 1, 1) := by decide +kernel
theorem dX5_isThing_7 : decode cX5_isThing 7 = .ok (.isub, 1) := by decide +kernel
theorem dX5_isThing_8 : decode cX5_isThing 8 = .ok (.invokestatic 52, 3) := by decide +kernel
theorem dX5_isThing_11 : decode cX5_isThing 11 = .ok (.ireturn, 1) := by decide +kernel
set_option maxRecDepth 20000 in
theorem ggX5_isSet_X5_in : GoodIn wsX5_isSet wsX5_in := goodIn_r _ [5] (by decide +kernel) (by decide +kernel)
set_option maxRecDepth 20000 in
theorem gX5_isSet_X5_in : GoodIn wsX5_isSet (va_wsS RX5 52 yX5_in wsX5_in) := goodIn_app (goodIn_of _ (by decide +kernel)) ggX5_isSet_X5_in
theorem dX5_isSet_0 : decode cX5_isSet 0 = .ok (.iload_n 1, 1) := by decide +kernel
theorem dX5_isSet_1 : decode cX5_isSet 1 = .ok (.iconst 0, 1) := by decide +kernel
theorem dX5_isSet_2 : decode cX5_isSet 2 = .ok (.aload_n 0, 1) := by decide +kernel
theorem dX5_isSet_3 : decode cX5_isSet 3 = .ok (.getfield 49, 3) := by decide +kernel
theorem dX5_isSet_6 : decode cX5_isSet 6 = .ok (.iconst 1, 1) := by decide +kernel
theorem dX5_isSet_7 : decode cX5_isSet 7 = .ok (.isub, 1) := by decide +kernel
theorem dX5_isSet_8 : decode cX5_isSet 8 = .ok (.invokestatic 52, 3) := by decide +kernel
theorem dX5_isSet_11 : decode cX5_isSet 11 = .ok (.ireturn, 1) := by decide +kernel
set_option maxRecDepth 20000 in
theorem ggX5_isPlace_X5_in : GoodIn wsX5_isPlace wsX5_in := goodIn_r _ [4] (by decide +kernel) (by decide +kernel)
set_option maxRecDepth 20000 in
theorem gX5_isPlace_X5_in : GoodIn wsX5_isPlace (va_wsS RX5 52 yX5_in wsX5_in) := goodIn_app (goodIn_of _ (by decide +kernel)) ggX5_isPlace_X5_in
theorem dX5_isPlace_0 : decode cX5_isPlace 0 = .ok (.iload_n 0, 1) := by decide +kernel
theorem dX5_isPlace_1 : decode cX5_isPlace 1 = .ok (.iconst 0, 1) := by decide +kernel
theorem dX5_isPlace_2 : decode cX5_isPlace 2 = .ok (.iconst 5, 1) := by decide +kernel
theorem dX5_isPlace_3 : decode cX5_isPlace 3 = .ok (.invokestatic 52, 3) := by decide +kernel
theorem dX5_isPlace_6 : decode cX5_isPlace 6 = .ok (.ireturn, 1) := by decide +kernel
theorem dX5_sizeOf_0 : decode cX5_sizeOf 0 = .ok (.iconst 0, 1) := by decide +kernel
theorem dX5_sizeOf_1 : decode cX5_sizeOf 1 = .ok (.istore_n 1, 1) := by decide +kernel
theorem dX5_sizeOf_2 : decode cX5_sizeOf 2 = .ok (.iconst 0, 1) := by decide +kernel
theorem dX5_sizeOf_3 : decode cX5_sizeOf 3 = .ok (.istore_n 2, 1) := by decide +kernel
theorem dX5_sizeOf_4 : decode cX5_sizeOf 4 = .ok (.iload_n 2, 1) := by decide +kernel
theorem dX5_sizeOf_5 : decode cX5_sizeOf 5 = .ok (.bipush 6, 2) := by decide +kernel
theorem dX5_sizeOf_7 : decode cX5_sizeOf 7 = .ok (.if_icmp .ge 17, 3) := by decide +kernel
theorem dX5_sizeOf_10 : decode cX5_sizeOf 10 = .ok (.iload_n 1, 1) := by decide +kernel
theorem dX5_sizeOf_11 : decode cX5_sizeOf 11 = .ok (.iload_n 0, 1) := by decide +kernel
theorem dX5_sizeOf_12 : decode cX5_sizeOf 12 = .ok (.iload_n 2, 1) := by decide +kernel
theorem dX5_sizeOf_13 : decode cX5_sizeOf 13 = .ok (.ishr, 1) := by decide +kernel
theorem dX5_sizeOf_14 : decode cX5_sizeOf 14 = .ok (.iconst 1, 1) := by decide +kernel
theorem dX5_sizeOf_15 : decode cX5_sizeOf 15 = .ok (.iand, 1) := by decide +kernel
theorem dX5_sizeOf_16 : decode cX5_sizeOf 16 = .ok (.iadd, 1) := by decide +kernel
theorem dX5_sizeOf_17 : decode cX5_sizeOf 17 = .ok (.istore_n 1, 1) := by decide +kernel
theorem dX5_sizeOf_18 : decode cX5_sizeOf 18 = .ok (.iinc 2 1, 3) := by decide +kernel
theorem dX5_sizeOf_21 : decode cX5_sizeOf 21 = .ok (.goto (-17), 3) := by decide +kernel
theorem dX5_sizeOf_24 : decode cX5_sizeOf 24 = .ok (.iload_n 1, 1) := by decide +kernel
theorem dX5_sizeOf_25 : decode cX5_sizeOf 25 = .ok (.ireturn, 1) := by decide +kernel
set_option maxRecDepth 20000 in
theorem ggX5_entry_X5_isPlace : GoodIn wsX5_entry wsX5_isPlace := goodIn_r _ [5, 6, 7, 4, 8] (by decide +kernel) (by decide +kernel)
set_option maxRecDepth 20000 in
theorem gX5_entry_X5_isPlace : GoodIn wsX5_entry (va_wsS RX5 56 yX5_isPlace wsX5_isPlace) := goodIn_app (goodIn_of _ (by decide +kernel)) ggX5_entry_X5_isPlace
set_option maxRecDepth 20000 in
theorem ggX5_entry_X5_isThing : GoodIn wsX5_entry wsX5_isThing := goodIn_r _ [12, 13, 6, 7, 4, 8, 14, 15, 16, 17, 18, 19, 20, 21, 22, 23, 24, 25, 26] (by decide +kernel) (by decide +kernel)
set_option maxRecDepth 20000 in
theorem gX5_entry_X5_isThing : GoodIn wsX5_entry (wsV RX5 60 RX5 yX5_isThing wsX5_isThing) := goodIn_app (goodIn_of _ (by decide +kernel)) ggX5_entry_X5_isThing
set_option maxRecDepth 20000 in
theorem ggX5_entry_X5_in : GoodIn wsX5_entry wsX5_in := goodIn_r _ [8] (by decide +kernel) (by decide +kernel)
set_option maxRecDepth 20000 in
theorem gX5_entry_X5_in : GoodIn wsX5_entry (va_wsS RX5 52 yX5_in wsX5_in) := goodIn_app (goodIn_of _ (by decide +kernel)) ggX5_entry_X5_in
theorem dX5_entry_0 : decode cX5_entry 0 = .ok (.iload_n 1, 1) := by decide +kernel
theorem dX5_entry_1 : decode cX5_entry 1 = .ok (.invokestatic 56, 3) := by decide +kernel
theorem dX5_entry_4 : decode cX5_entry 4 = .ok (.ifCond .eq 30, 3) := by decide +kernel
theorem dX5_entry_7 : decode cX5_entry 7 = .ok (.aload_n 0, 1) := by decide +kernel
theorem dX5_entry_8 : decode cX5_entry 8 = .ok (.iload_n 2, 1) := by decide +kernel
theorem dX5_entry_9 : decode cX5_entry 9 = .ok (.invokevirtual 60, 3) := by decide +kernel
theorem dX5_entry_12 : decode cX5_entry 12 = .ok (.ifCond .eq 22, 3) := by decide +kernel
theorem dX5_entry_15 : decode cX5_entry 15 = .ok (.aload_n 0, 1) := by decide +kernel
theorem dX5_entry_16 : decode cX5_entry 16 = .ok (.iload_n 3, 1) := by decide +kernel
theorem dX5_entry_17 : decode cX5_entry 17 = .ok (.invokevirtual 60, 3) := by decide +kernel
theorem dX5_entry_20 : decode cX5_entry 20 = .ok (.ifCond .eq 14, 3) := by decide +kernel
theorem dX5_entry_23 : decode cX5_entry 23 = .ok (.iload 4, 2) := by decide +kernel
theorem dX5_entry_25 : decode cX5_entry 25 = .ok (.bipush (-5), 2) := by decide +kernel
theorem dX5_entry_27 : decode cX5_entry 27 = .ok (.iconst 5, 1) := by decide +kernel
theorem dX5_entry_28 : decode cX5_entry 28 = .ok (.invokestatic 52, 3) := by decide +kernel
theorem dX5_entry_31 : decode cX5_entry 31 = .ok (.ifCond .ne 5, 3) := by decide +kernel
theorem dX5_entry_34 : decode cX5_entry 34 = .ok (.iconst 0, 1) := by decide +kernel
theorem dX5_entry_35 : decode cX5_entry 35 = .ok (.ireturn, 1) := by decide +kernel
theorem dX5_entry_36 : decode cX5_entry 36 = .ok (.aload_n 0, 1) := by decide +kernel
theorem dX5_entry_37 : decode cX5_entry 37 = .ok (.getfield 7, 3) := by decide +kernel
theorem dX5_entry_40 : decode cX5_entry 40 = .ok (.bipush 36, 2) := by decide +kernel
theorem dX5_entry_42 : decode cX5_entry 42 = .ok (.iload_n 1, 1) := by decide +kernel
theorem dX5_entry_43 : decode cX5_entry 43 = .ok (.imul, 1) := by decide +kernel
theorem dX5_entry_44 : decode cX5_entry 44 = .ok (.bipush 6, 2) := by decide +kernel
theorem dX5_entry_46 : decode cX5_entry 46 = .ok (.iload_n 2, 1) := by decide +kernel
theorem dX5_entry_47 : decode cX5_entry 47 = .ok (.imul, 1) := by decide +kernel
theorem dX5_entry_48 : decode cX5_entry 48 = .ok (.iadd, 1) := by decide +kernel
theorem dX5_entry_49 : decode cX5_entry 49 = .ok (.iload_n 3, 1) := by decide +kernel
theorem dX5_entry_50 : decode cX5_entry 50 = .ok (.iadd, 1) := by decide +kernel
theorem dX5_entry_51 : decode cX5_entry 51 = .ok (.iload 4, 2) := by decide +kernel
theorem dX5_entry_53 : decode cX5_entry 53 = .ok (.iastore, 1) := by decide +kernel
theorem dX5_entry_54 : decode cX5_entry 54 = .ok (.aload_n 0, 1) := by decide +kernel
theorem dX5_entry_55 : decode cX5_entry 55 = .ok (.getfield 7, 3) := by decide +kernel
theorem dX5_entry_58 : decode cX5_entry 58 = .ok (.bipush 36, 2) := by decide +kernel
theorem dX5_entry_60 : decode cX5_entry 60 = .ok (.iload_n 1, 1) := by decide +kernel
theorem dX5_entry_61 : decode cX5_entry 61 = .ok (.imul, 1) := by decide +kernel
theorem dX5_entry_62 : decode cX5_entry 62 = .ok (.bipush 6, 2) := by decide +kernel
theorem dX5_entry_64 : decode cX5_entry 64 = .ok (.iload_n 3, 1) := by decide +kernel
theorem dX5_entry_65 : decode cX5_entry 65 = .ok (.imul, 1) := by decide +kernel
theorem dX5_entry_66 : decode cX5_entry 66 = .ok (.iadd, 1) := by decide +kernel
theorem dX5_entry_67 : decode cX5_entry 67 = .ok (.iload_n 2, 1) := by decide +kernel
theorem dX5_entry_68 : decode cX5_entry 68 = .ok (.iadd, 1) := by decide +kernel
theorem dX5_entry_69 : decode cX5_entry 69 = .ok (.iload 4, 2) := by decide +kernel
theorem dX5_entry_71 : decode cX5_entry 71 = .ok (.iastore, 1) := by decide +kernel
theorem dX5_entry_72 : decode cX5_entry 72 = .ok (.iconst 1, 1) := by decide +kernel
theorem dX5_entry_73 : decode cX5_entry 73 = .ok (.ireturn, 1) := by decide +kernel
set_option maxRecDepth 20000 in
theorem ggX5_told_X5_isPlace : GoodIn wsX5_told wsX5_isPlace := goodIn_r _ [5, 6, 7, 4, 8] (by decide +kernel) (by decide +kernel)
set_option maxRecDepth 20000 in
theorem gX5_told_X5_isPlace : GoodIn wsX5_told (va_wsS RX5 56 yX5_isPlace wsX5_isPlace) := goodIn_app (goodIn_of _ (by decide +kernel)) ggX5_told_X5_isPlace
set_option maxRecDepth 20000 in
theorem ggX5_told_X5_isThing : GoodIn wsX5_told wsX5_isThing := goodIn_r _ [12, 13, 6, 7, 4, 8, 14, 15, 16, 17, 18, 19, 20, 21, 22, 23, 24, 25, 26] (by decide +kernel) (by decide +kernel)
set_option maxRecDepth 20000 in
theorem gX5_told_X5_isThing : GoodIn wsX5_told (wsV RX5 60 RX5 yX5_isThing wsX5_isThing) := goodIn_app (goodIn_of _ (by decide +kernel)) ggX5_told_X5_isThing
theorem dX5_told_0 : decode cX5_told 0 = .ok (.iload_n 1, 1) := by decide +kernel
theorem dX5_told_1 : decode cX5_told 1 = .ok (.invokestatic 56, 3) := by decide +kernel
theorem dX5_told_4 : decode cX5_told 4 = .ok (.ifCond .eq 38, 3) := by decide +kernel
theorem dX5_told_7 : decode cX5_told 7 = .ok (.aload_n 0, 1) := by decide +kernel
theorem dX5_told_8 : decode cX5_told 8 = .ok (.iload_n 2, 1) := by decide +kernel
theorem dX5_told_9 : decode cX5_told 9 = .ok (.invokevirtual 60, 3) := by decide +kernel
theorem dX5_told_12 : decode cX5_told 12 = .ok (.ifCond .eq 30, 3) := by decide +kernel
theorem dX5_told_15 : decode cX5_told 15 = .ok (.aload_n 0, 1) := by decide +kernel
theorem dX5_told_16 : decode cX5_told 16 = .ok (.iload_n 3, 1) := by decide +kernel
theorem dX5_told_17 : decode cX5_told 17 = .ok (.invokevirtual 60, 3) := by decide +kernel
theorem dX5_told_20 : decode cX5_told 20 = .ok (.ifCond .eq 22, 3) := by decide +kernel
theorem dX5_told_23 : decode cX5_told 23 = .ok (.aload_n 0, 1) := by decide +kernel
theorem dX5_told_24 : decode cX5_told 24 = .ok (.getfield 7, 3) := by decide +kernel
theorem dX5_told_27 : decode cX5_told 27 = .ok (.bipush 36, 2) := by decide +kernel
theorem dX5_told_29 : decode cX5_told 29 = .ok (.iload_n 1, 1) := by decide +kernel
theorem dX5_told_30 : decode cX5_told 30 = .ok (.imul, 1) := by decide +kernel
theorem dX5_told_31 : decode cX5_told 31 = .ok (.bipush 6, 2) := by decide +kernel
theorem dX5_told_33 : decode cX5_told 33 = .ok (.iload_n 2, 1) := by decide +kernel
theorem dX5_told_34 : decode cX5_told 34 = .ok (.imul, 1) := by decide +kernel
theorem dX5_told_35 : decode cX5_told 35 = .ok (.iadd, 1) := by decide +kernel
theorem dX5_told_36 : decode cX5_told 36 = .ok (.iload_n 3, 1) := by decide +kernel
theorem dX5_told_37 : decode cX5_told 37 = .ok (.iadd, 1) := by decide +kernel
theorem dX5_told_38 : decode cX5_told 38 = .ok (.iaload, 1) := by decide +kernel
theorem dX5_told_39 : decode cX5_told 39 = .ok (.goto 5, 3) := by decide +kernel
theorem dX5_told_42 : decode cX5_told 42 = .ok (.bipush (-10), 2) := by decide +kernel
theorem dX5_told_44 : decode cX5_told 44 = .ok (.ireturn, 1) := by decide +kernel
set_option maxRecDepth 20000 in
theorem ggX5_determinant_X5_sizeOf : GoodIn wsX5_determinant wsX5_sizeOf := goodIn_r _ [8] (by decide +kernel) (by decide +kernel)
set_option maxRecDepth 20000 in
theorem gX5_determinant_X5_sizeOf : GoodIn wsX5_determinant (va_wsS RX5 63 yX5_sizeOf wsX5_sizeOf) := goodIn_app (goodIn_of _ (by decide +kernel)) ggX5_determinant_X5_sizeOf
theorem dX5_determinant_0 : decode cX5_determinant 0 = .ok (.iconst 0, 1) := by decide +kernel
theorem dX5_determinant_1 : decode cX5_determinant 1 = .ok (.istore 4, 2) := by decide +kernel
theorem dX5_determinant_3 : decode cX5_determinant 3 = .ok (.iconst 0, 1) := by decide +kernel
theorem dX5_determinant_4 : decode cX5_determinant 4 = .ok (.istore 5, 2) := by decide +kernel
theorem dX5_determinant_6 : decode cX5_determinant 6 = .ok (.iload 5, 2) := by decide +kernel
theorem dX5_determinant_8 : decode cX5_determinant 8 = .ok (.aload_n 0, 1) := by decide +kernel
theorem dX5_determinant_9 : decode cX5_determinant 9 = .ok (.getfield 45, 3) := by decide +kernel
theorem dX5_determinant_12 : decode cX5_determinant 12 = .ok (.if_icmp .ge 33, 3) := by decide +kernel
theorem dX5_determinant_15 : decode cX5_determinant 15 = .ok (.iload_n 2, 1) := by decide +kernel
theorem dX5_determinant_16 : decode cX5_determinant 16 = .ok (.iload 5, 2) := by decide +kernel
theorem dX5_determinant_18 : decode cX5_determinant 18 = .ok (.ishr, 1) := by decide +kernel
theorem dX5_determinant_19 : decode cX5_determinant 19 = .ok (.iconst 1, 1) := by decide +kernel
theorem dX5_determinant_20 : decode cX5_determinant 20 = .ok (.iand, 1) := by decide +kernel
theorem dX5_determinant_21 : decode cX5_determinant 21 = .ok (.ifCond .ne 6, 3) := by decide +kernel
theorem dX5_determinant_24 : decode cX5_determinant 24 = .ok (.goto 15, 3) := by decide +kernel
theorem dX5_determinant_27 : decode cX5_determinant 27 = .ok (.aload_n 0, 1) := by decide +kernel
theorem dX5_determinant_28 : decode cX5_determinant 28 = .ok (.getfield 13, 3) := by decide +kernel
theorem dX5_determinant_31 : decode cX5_determinant 31 = .ok (.iload 4, 2) := by decide +kernel
theorem dX5_determinant_33 : decode cX5_determinant 33 = .ok (.iload 5, 2) := by decide +kernel
theorem dX5_determinant_35 : decode cX5_determinant 35 = .ok (.iastore, 1) := by decide +kernel
theorem dX5_determinant_36 : decode cX5_determinant 36 = .ok (.iinc 4 1, 3) := by decide +kernel
theorem dX5_determinant_39 : decode cX5_determinant 39 = .ok (.iinc 5 1, 3) := by decide +kernel
theorem dX5_determinant_42 : decode cX5_determinant 42 = .ok (.goto (-36), 3) := by decide +kernel
theorem dX5_determinant_45 : decode cX5_determinant 45 = .ok (.aload_n 0, 1) := by decide +kernel
theorem dX5_determinant_46 : decode cX5_determinant 46 = .ok (.getfield 16, 3) := by decide +kernel
theorem dX5_determinant_49 : decode cX5_determinant 49 = .ok (.iconst 0, 1) := by decide +kernel
theorem dX5_determinant_50 : decode cX5_determinant 50 = .ok (.lconst 1, 1) := by decide +kernel
theorem dX5_determinant_51 : decode cX5_determinant 51 = .ok (.lastore, 1) := by decide +kernel
theorem dX5_determinant_52 : decode cX5_determinant 52 = .ok (.iconst 1, 1) := by decide +kernel
theorem dX5_determinant_53 : decode cX5_determinant 53 = .ok (.istore 5, 2) := by decide +kernel
theorem dX5_determinant_55 : decode cX5_determinant 55 = .ok (.iload 5, 2) := by decide +kernel
theorem dX5_determinant_57 : decode cX5_determinant 57 = .ok (.iconst 1, 1) := by decide +kernel
theorem dX5_determinant_58 : decode cX5_determinant 58 = .ok (.iload 4, 2) := by decide +kernel
theorem dX5_determinant_60 : decode cX5_determinant 60 = .ok (.ishl, 1) := by decide +kernel
theorem dX5_determinant_61 : decode cX5_determinant 61 = .ok (.if_icmp .ge 160, 3) := by decide +kernel
theorem dX5_determinant_64 : decode cX5_determinant 64 = .ok (.iload 5, 2) := by decide +kernel
theorem dX5_determinant_66 : decode cX5_determinant 66 = .ok (.invokestatic 63, 3) := by decide +kernel
theorem dX5_determinant_69 : decode cX5_determinant 69 = .ok (.iconst 1, 1) := by decide +kernel
theorem dX5_determinant_70 : decode cX5_determinant 70 = .ok (.isub, 1) := by decide +kernel
theorem dX5_determinant_71 : decode cX5_determinant 71 = .ok (.istore 6, 2) := by decide +kernel
theorem dX5_determinant_73 : decode cX5_determinant 73 = .ok (.aload_n 0, 1) := by decide +kernel
theorem dX5_determinant_74 : decode cX5_determinant 74 = .ok (.getfield 16, 3) := by decide +kernel
theorem dX5_determinant_77 : decode cX5_determinant 77 = .ok (.iload 5, 2) := by decide +kernel
theorem dX5_determinant_79 : decode cX5_determinant 79 = .ok (.lconst 0, 1) := by decide +kernel
theorem dX5_determinant_80 : decode cX5_determinant 80 = .ok (.lastore, 1) := by decide +kernel
theorem dX5_determinant_81 : decode cX5_determinant 81 = .ok (.iconst 0, 1) := by decide +kernel
theorem dX5_determinant_82 : decode cX5_determinant 82 = .ok (.istore 7, 2) := by decide +kernel
theorem dX5_determinant_84 : decode cX5_determinant 84 = .ok (.iload 7, 2) := by decide +kernel
theorem dX5_determinant_86 : decode cX5_determinant 86 = .ok (.iload 4, 2) := by decide +kernel
theorem dX5_determinant_88 : decode cX5_determinant 88 = .ok (.if_icmp .ge 127, 3) := by decide +kernel
theorem dX5_determinant_91 : decode cX5_determinant 91 = .ok (.iload 5, 2) := by decide +kernel
theorem dX5_determinant_93 : decode cX5_determinant 93 = .ok (.iload 7, 2) := by decide +kernel
theorem dX5_determinant_95 : decode cX5_determinant 95 = .ok (.ishr, 1) := by decide +kernel
theorem dX5_determinant_96 : decode cX5_determinant 96 = .ok (.iconst 1, 1) := by decide +kernel
theorem dX5_determinant_97 : decode cX5_determinant 97 = .ok (.iand, 1) := by decide +kernel
theorem dX5_determinant_98 : decode cX5_determinant 98 = .ok (.ifCond .ne 6, 3) := by decide +kernel
theorem dX5_determinant_101 : decode cX5_determinant 101 = .ok (.goto 108, 3) := by decide +kernel
theorem dX5_determinant_104 : decode cX5_determinant 104 = .ok (.aload_n 0, 1) := by decide +kernel
theorem dX5_determinant_105 : decode cX5_determinant 105 = .ok (.getfield 7, 3) := by decide +kernel
theorem dX5_determinant_108 : decode cX5_determinant 108 = .ok (.bipush 36, 2) := by decide +kernel
theorem dX5_determinant_110 : decode cX5_determinant 110 = .ok (.iload_n 1, 1) := by decide +kernel
theorem dX5_determinant_111 : decode cX5_determinant 111 = .ok (.imul, 1) := by decide +kernel
theorem dX5_determinant_112 : decode cX5_determinant 112 = .ok (.bipush 6, 2) := by decide +kernel
theorem dX5_determinant_114 : decode cX5_determinant 114 = .ok (.aload_n 0, 1) := by decide +kernel
theorem dX5_determinant_115 : decode cX5_determinant 115 = .ok (.getfield 13, 3) := by decide +kernel
theorem dX5_determinant_118 : decode cX5_determinant 118 = .ok (.iload 6, 2) := by decide +kernel
theorem dX5_determinant_120 : decode cX5_determinant 120 = .ok (.iaload, 1) := by decide +kernel
theorem dX5_determinant_121 : decode cX5_determinant 121 = .ok (.imul, 1) := by decide +kernel
theorem dX5_determinant_122 : decode cX5_determinant 122 = .ok (.iadd, 1) := by decide +kernel
theorem dX5_determinant_123 : decode cX5_determinant 123 = .ok (.aload_n 0, 1) := by decide +kernel
theorem dX5_determinant_124 : decode cX5_determinant 124 = .ok (.getfield 13, 3) := by decide +kernel
theorem dX5_determinant_127 : decode cX5_determinant 127 = .ok (.iload 7, 2) := by decide +kernel
theorem dX5_determinant_129 : decode cX5_determinant 129 = .ok (.iaload, 1) := by decide +kernel
theorem dX5_determinant_130 : decode cX5_determinant 130 = .ok (.iadd, 1) := by decide +kernel
theorem dX5_determinant_131 : decode cX5_determinant 131 = .ok (.iaload, 1) := by decide +kernel
theorem dX5_determinant_132 : decode cX5_determinant 132 = .ok (.iload 6, 2) := by decide +kernel
theorem dX5_determinant_134 : decode cX5_determinant 134 = .ok (.iload 7, 2) := by decide +kernel
theorem dX5_determinant_136 : decode cX5_determinant 136 = .ok (.if_icmp .ne 7, 3) := by decide +kernel
theorem dX5_determinant_139 : decode cX5_determinant 139 = .ok (.iload_n 3, 1) := by decide +kernel
theorem dX5_determinant_140 : decode cX5_determinant 140 = .ok (.goto 4, 3) := by decide +kernel
theorem dX5_determinant_143 : decode cX5_determinant 143 = .ok (.iconst 0, 1) := by decide +kernel
theorem dX5_determinant_144 : decode cX5_determinant 144 = .ok (.iadd, 1) := by decide +kernel
theorem dX5_determinant_145 : decode cX5_determinant 145 = .ok (.i2l, 1) := by decide +kernel
theorem dX5_determinant_146 : decode cX5_determinant 146 = .ok (.lstore 8, 2) := by decide +kernel
theorem dX5_determinant_148 : decode cX5_determinant 148 = .ok (.iload 5, 2) := by decide +kernel
theorem dX5_determinant_150 : decode cX5_determinant 150 = .ok (.iload 7, 2) := by decide +kernel
theorem dX5_determinant_152 : decode cX5_determinant 152 = .ok (.iconst 1, 1) := by decide +kernel
theorem dX5_determinant_153 : decode cX5_determinant 153 = .ok (.iadd, 1) := by decide +kernel
theorem dX5_determinant_154 : decode cX5_determinant 154 = .ok (.ishr, 1) := by decide +kernel
theorem dX5_determinant_155 : decode cX5_determinant 155 = .ok (.invokestatic 63, 3) := by decide +kernel
theorem dX5_determinant_158 : decode cX5_determinant 158 = .ok (.iconst 2, 1) := by decide +kernel
theorem dX5_determinant_159 : decode cX5_determinant 159 = .ok (.irem, 1) := by decide +kernel
theorem dX5_determinant_160 : decode cX5_determinant 160 = .ok (.iconst 1, 1) := by decide +kernel
theorem dX5_determinant_161 : decode cX5_determinant 161 = .ok (.if_icmp .ne 7, 3) := by decide +kernel
theorem dX5_determinant_164 : decode cX5_determinant 164 = .ok (.iconst 1, 1) := by decide +kernel
theorem dX5_determinant_165 : decode cX5_determinant 165 = .ok (.goto 4, 3) := by decide +kernel
theorem dX5_determinant_168 : decode cX5_determinant 168 = .ok (.iconst 0, 1) := by decide +kernel
theorem dX5_determinant_169 : decode cX5_determinant 169 = .ok (.istore 10, 2) := by decide +kernel
theorem dX5_determinant_171 : decode cX5_determinant 171 = .ok (.aload_n 0, 1) := by decide +kernel
theorem dX5_determinant_172 : decode cX5_determinant 172 = .ok (.getfield 16, 3) := by decide +kernel
theorem dX5_determinant_175 : decode cX5_determinant 175 = .ok (.iload 5, 2) := by decide +kernel
theorem dX5_determinant_177 : decode cX5_determinant 177 = .ok (.dup2, 1) := by decide +kernel
theorem dX5_determinant_178 : decode cX5_determinant 178 = .ok (.laload, 1) := by decide +kernel
theorem dX5_determinant_179 : decode cX5_determinant 179 = .ok (.iload 10, 2) := by decide +kernel
theorem dX5_determinant_181 : decode cX5_determinant 181 = .ok (.ifCond .eq 9, 3) := by decide +kernel
theorem dX5_determinant_184 : decode cX5_determinant 184 = .ok (.lload 8, 2) := by decide +kernel
theorem dX5_determinant_186 : decode cX5_determinant 186 = .ok (.lneg, 1) := by decide +kernel
theorem dX5_determinant_187 : decode cX5_determinant 187 = .ok (.goto 5, 3) := by decide +kernel
theorem dX5_determinant_190 : decode cX5_determinant 190 = .ok (.lload 8, 2) := by decide +kernel
theorem dX5_determinant_192 : decode cX5_determinant 192 = .ok (.aload_n 0, 1) := by decide +kernel
theorem dX5_determinant_193 : decode cX5_determinant 193 = .ok (.getfield 16, 3) := by decide +kernel
theorem dX5_determinant_196 : decode cX5_determinant 196 = .ok (.iload 5, 2) := by decide +kernel
theorem dX5_determinant_198 : decode cX5_determinant 198 = .ok (.iconst 1, 1) := by decide +kernel
theorem dX5_determinant_199 : decode cX5_determinant 199 = .ok (.iload 7, 2) := by decide +kernel
theorem dX5_determinant_201 : decode cX5_determinant 201 = .ok (.ishl, 1) := by decide +kernel
theorem dX5_determinant_202 : decode cX5_determinant 202 = .ok (.iconst (-1), 1) := by decide +kernel
theorem dX5_determinant_203 : decode cX5_determinant 203 = .ok (.ixor, 1) := by decide +kernel
theorem dX5_determinant_204 : decode cX5_determinant 204 = .ok (.iand, 1) := by decide +kernel
theorem dX5_determinant_205 : decode cX5_determinant 205 = .ok (.laload, 1) := by decide +kernel
theorem dX5_determinant_206 : decode cX5_determinant 206 = .ok (.lmul, 1) := by decide +kernel
theorem dX5_determinant_207 : decode cX5_determinant 207 = .ok (.ladd, 1) := by decide +kernel
theorem dX5_determinant_208 : decode cX5_determinant 208 = .ok (.lastore, 1) := by decide +kernel
theorem dX5_determinant_209 : decode cX5_determinant 209 = .ok (.iinc 7 1, 3) := by decide +kernel
theorem dX5_determinant_212 : decode cX5_determinant 212 = .ok (.goto (-128), 3) := by decide +kernel
theorem dX5_determinant_215 : decode cX5_determinant 215 = .ok (.iinc 5 1, 3) := by decide +kernel
theorem dX5_determinant_218 : decode cX5_determinant 218 = .ok (.goto (-163), 3) := by decide +kernel
theorem dX5_determinant_221 : decode cX5_determinant 221 = .ok (.aload_n 0, 1) := by decide +kernel
theorem dX5_determinant_222 : decode cX5_determinant 222 = .ok (.getfield 16, 3) := by decide +kernel
theorem dX5_determinant_225 : decode cX5_determinant 225 = .ok (.iconst 1, 1) := by decide +kernel
theorem dX5_determinant_226 : decode cX5_determinant 226 = .ok (.iload 4, 2) := by decide +kernel
theorem dX5_determinant_228 : decode cX5_determinant 228 = .ok (.ishl, 1) := by decide +kernel
theorem dX5_determinant_229 : decode cX5_determinant 229 = .ok (.iconst 1, 1) := by decide +kernel
theorem dX5_determinant_230 : decode cX5_determinant 230 = .ok (.isub, 1) := by decide +kernel
theorem dX5_determinant_231 : decode cX5_determinant 231 = .ok (.laload, 1) := by decide +kernel
theorem dX5_determinant_232 : decode cX5_determinant 232 = .ok (.lreturn, 1) := by decide +kernel
set_option maxRecDepth 20000 in
theorem ggX5_worth_X5_isPlace : GoodIn wsX5_worth wsX5_isPlace := goodIn_r _ [4, 5, 6, 3, 7] (by decide +kernel) (by decide +kernel)
set_option maxRecDepth 20000 in
theorem gX5_worth_X5_isPlace : GoodIn wsX5_worth (va_wsS RX5 56 yX5_isPlace wsX5_isPlace) := goodIn_app (goodIn_of _ (by decide +kernel)) ggX5_worth_X5_isPlace
set_option maxRecDepth 20000 in
theorem ggX5_worth_X5_isSet : GoodIn wsX5_worth wsX5_isSet := goodIn_r _ [11, 12, 5, 6, 3, 7, 24, 25, 26, 27, 28, 29, 30, 31, 32, 33, 34, 35, 36] (by decide +kernel) (by decide +kernel)
set_option maxRecDepth 20000 in
theorem gX5_worth_X5_isSet : GoodIn wsX5_worth (wsV RX5 67 RX5 yX5_isSet wsX5_isSet) := goodIn_app (goodIn_of _ (by decide +kernel)) ggX5_worth_X5_isSet
set_option maxRecDepth 20000 in
theorem ggX5_worth_X5_determinant : GoodIn wsX5_worth wsX5_determinant := goodIn_r _ [16, 17, 18, 19, 20, 21, 22, 3, 23, 24, 25, 26, 27, 28, 29, 30, 31, 32, 33, 34, 35, 36] (by decide +kernel) (by decide +kernel)
set_option maxRecDepth 20000 in
theorem gX5_worth_X5_determinant : GoodIn wsX5_worth (wsV RX5 70 RX5 yX5_determinant wsX5_determinant) := goodIn_app (goodIn_of _ (by decide +kernel)) ggX5_worth_X5_determinant
theorem dX5_worth_0 : decode cX5_worth 0 = .ok (.iload_n 1, 1) := by decide +kernel
theorem dX5_worth_1 : decode cX5_worth 1 = .ok (.invokestatic 56, 3) := by decide +kernel
theorem dX5_worth_4 : decode cX5_worth 4 = .ok (.ifCond .eq 21, 3) := by decide +kernel
theorem dX5_worth_7 : decode cX5_worth 7 = .ok (.aload_n 0, 1) := by decide +kernel
theorem dX5_worth_8 : decode cX5_worth 8 = .ok (.iload_n 2, 1) := by decide +kernel
theorem dX5_worth_9 : decode cX5_worth 9 = .ok (.invokevirtual 67, 3) := by decide +kernel
theorem dX5_worth_12 : decode cX5_worth 12 = .ok (.ifCond .eq 13, 3) := by decide +kernel
theorem dX5_worth_15 : decode cX5_worth 15 = .ok (.aload_n 0, 1) := by decide +kernel
theorem dX5_worth_16 : decode cX5_worth 16 = .ok (.iload_n 1, 1) := by decide +kernel
theorem dX5_worth_17 : decode cX5_worth 17 = .ok (.iload_n 2, 1) := by decide +kernel
theorem dX5_worth_18 : decode cX5_worth 18 = .ok (.iconst 0, 1) := by decide +kernel
theorem dX5_worth_19 : decode cX5_worth 19 = .ok (.invokevirtual 70, 3) := by decide +kernel
theorem dX5_worth_22 : decode cX5_worth 22 = .ok (.goto 4, 3) := by decide +kernel
theorem dX5_worth_25 : decode cX5_worth 25 = .ok (.lconst 0, 1) := by decide +kernel
theorem dX5_worth_26 : decode cX5_worth 26 = .ok (.lreturn, 1) := by decide +kernel
set_option maxRecDepth 20000 in
theorem ggX5_why_X5_isPlace : GoodIn wsX5_why wsX5_isPlace := goodIn_r _ [5, 6, 7, 4, 8] (by decide +kernel) (by decide +kernel)
set_option maxRecDepth 20000 in
theorem gX5_why_X5_isPlace : GoodIn wsX5_why (va_wsS RX5 56 yX5_isPlace wsX5_isPlace) := goodIn_app (goodIn_of _ (by decide +kernel)) ggX5_why_X5_isPlace
set_option maxRecDepth 20000 in
theorem ggX5_why_X5_determinant : GoodIn wsX5_why wsX5_determinant := goodIn_r _ [12, 13, 14, 15, 16, 17, 18, 4, 19, 20, 21, 22, 23, 24, 25, 26, 27, 28, 29, 30, 31, 32] (by decide +kernel) (by decide +kernel)
set_option maxRecDepth 20000 in
theorem gX5_why_X5_determinant : GoodIn wsX5_why (wsV RX5 70 RX5 yX5_determinant wsX5_determinant) := goodIn_app (goodIn_of _ (by decide +kernel)) ggX5_why_X5_determinant
theorem dX5_why_0 : decode cX5_why 0 = .ok (.iconst 0, 1) := by decide +kernel
theorem dX5_why_1 : decode cX5_why 1 = .ok (.istore_n 2, 1) := by decide +kernel
theorem dX5_why_2 : decode cX5_why 2 = .ok (.iload_n 2, 1) := by decide +kernel
theorem dX5_why_3 : decode cX5_why 3 = .ok (.aload_n 0, 1) := by decide +kernel
theorem dX5_why_4 : decode cX5_why 4 = .ok (.getfield 49, 3) := by decide +kernel
theorem dX5_why_7 : decode cX5_why 7 = .ok (.if_icmp .ge 30, 3) := by decide +kernel
theorem dX5_why_10 : decode cX5_why 10 = .ok (.iload_n 1, 1) := by decide +kernel
theorem dX5_why_11 : decode cX5_why 11 = .ok (.invokestatic 56, 3) := by decide +kernel
theorem dX5_why_14 : decode cX5_why 14 = .ok (.ifCond .eq 23, 3) := by decide +kernel
theorem dX5_why_17 : decode cX5_why 17 = .ok (.aload_n 0, 1) := by decide +kernel
theorem dX5_why_18 : decode cX5_why 18 = .ok (.iload_n 1, 1) := by decide +kernel
theorem dX5_why_19 : decode cX5_why 19 = .ok (.iload_n 2, 1) := by decide +kernel
theorem dX5_why_20 : decode cX5_why 20 = .ok (.iconst 0, 1) := by decide +kernel
theorem dX5_why_21 : decode cX5_why 21 = .ok (.invokevirtual 70, 3) := by decide +kernel
theorem dX5_why_24 : decode cX5_why 24 = .ok (.lconst 0, 1) := by decide +kernel
theorem dX5_why_25 : decode cX5_why 25 = .ok (.lcmp, 1) := by decide +kernel
theorem dX5_why_26 : decode cX5_why 26 = .ok (.ifCond .ge 5, 3) := by decide +kernel
theorem dX5_why_29 : decode cX5_why 29 = .ok (.iload_n 2, 1) := by decide +kernel
theorem dX5_why_30 : decode cX5_why 30 = .ok (.ireturn, 1) := by decide +kernel
theorem dX5_why_31 : decode cX5_why 31 = .ok (.iinc 2 1, 3) := by decide +kernel
theorem dX5_why_34 : decode cX5_why 34 = .ok (.goto (-32), 3) := by decide +kernel
theorem dX5_why_37 : decode cX5_why 37 = .ok (.iconst (-1), 1) := by decide +kernel
theorem dX5_why_38 : decode cX5_why 38 = .ok (.ireturn, 1) := by decide +kernel
set_option maxRecDepth 20000 in
theorem ggX5_whole_X5_isPlace : GoodIn wsX5_whole wsX5_isPlace := goodIn_r _ [5, 6, 7, 4, 8] (by decide +kernel) (by decide +kernel)
set_option maxRecDepth 20000 in
theorem gX5_whole_X5_isPlace : GoodIn wsX5_whole (va_wsS RX5 56 yX5_isPlace wsX5_isPlace) := goodIn_app (goodIn_of _ (by decide +kernel)) ggX5_whole_X5_isPlace
set_option maxRecDepth 20000 in
theorem ggX5_whole_X5_determinant : GoodIn wsX5_whole wsX5_determinant := goodIn_r _ [12, 13, 14, 15, 16, 17, 18, 4, 19, 20, 21, 22, 23, 24, 25, 26, 27, 28, 29, 30, 31, 32] (by decide +kernel) (by decide +kernel)
set_option maxRecDepth 20000 in
theorem gX5_whole_X5_determinant : GoodIn wsX5_whole (wsV RX5 70 RX5 yX5_determinant wsX5_determinant) := goodIn_app (goodIn_of _ (by decide +kernel)) ggX5_whole_X5_determinant
theorem dX5_whole_0 : decode cX5_whole 0 = .ok (.iload_n 1, 1) := by decide +kernel
theorem dX5_whole_1 : decode cX5_whole 1 = .ok (.invokestatic 56, 3) := by decide +kernel
theorem dX5_whole_4 : decode cX5_whole 4 = .ok (.ifCond .eq 18, 3) := by decide +kernel
theorem dX5_whole_7 : decode cX5_whole 7 = .ok (.aload_n 0, 1) := by decide +kernel
theorem dX5_whole_8 : decode cX5_whole 8 = .ok (.iload_n 1, 1) := by decide +kernel
theorem dX5_whole_9 : decode cX5_whole 9 = .ok (.aload_n 0, 1) := by decide +kernel
theorem dX5_whole_10 : decode cX5_whole 10 = .ok (.getfield 49, 3) := by decide +kernel
theorem dX5_whole_13 : decode cX5_whole 13 = .ok (.iconst 1, 1) := by decide +kernel
theorem dX5_whole_14 : decode cX5_whole 14 = .ok (.isub, 1) := by decide +kernel
theorem dX5_whole_15 : decode cX5_whole 15 = .ok (.iconst 1, 1) := by decide +kernel
theorem dX5_whole_16 : decode cX5_whole 16 = .ok (.invokevirtual 70, 3) := by decide +kernel
theorem dX5_whole_19 : decode cX5_whole 19 = .ok (.goto 4, 3) := by decide +kernel
theorem dX5_whole_22 : decode cX5_whole 22 = .ok (.lconst 0, 1) := by decide +kernel
theorem dX5_whole_23 : decode cX5_whole 23 = .ok (.lreturn, 1) := by decide +kernel
set_option maxRecDepth 20000 in
theorem ggX5_isLaw_X5_isPlace : GoodIn wsX5_isLaw wsX5_isPlace := goodIn_r _ [5, 6, 7, 4, 8] (by decide +kernel) (by decide +kernel)
set_option maxRecDepth 20000 in
theorem gX5_isLaw_X5_isPlace : GoodIn wsX5_isLaw (va_wsS RX5 56 yX5_isPlace wsX5_isPlace) := goodIn_app (goodIn_of _ (by decide +kernel)) ggX5_isLaw_X5_isPlace
theorem dX5_isLaw_0 : decode cX5_isLaw 0 = .ok (.iload_n 1, 1) := by decide +kernel
theorem dX5_isLaw_1 : decode cX5_isLaw 1 = .ok (.invokestatic 56, 3) := by decide +kernel
theorem dX5_isLaw_4 : decode cX5_isLaw 4 = .ok (.ifCond .eq 16, 3) := by decide +kernel
theorem dX5_isLaw_7 : decode cX5_isLaw 7 = .ok (.aload_n 0, 1) := by decide +kernel
theorem dX5_isLaw_8 : decode cX5_isLaw 8 = .ok (.getfield 29, 3) := by decide +kernel
theorem dX5_isLaw_11 : decode cX5_isLaw 11 = .ok (.iload_n 1, 1) := by decide +kernel
theorem dX5_isLaw_12 : decode cX5_isLaw 12 = .ok (.baload, 1) := by decide +kernel
theorem dX5_isLaw_13 : decode cX5_isLaw 13 = .ok (.ifCond .eq 7, 3) := by decide +kernel
theorem dX5_isLaw_16 : decode cX5_isLaw 16 = .ok (.iconst 1, 1) := by decide +kernel
theorem dX5_isLaw_17 : decode cX5_isLaw 17 = .ok (.goto 4, 3) := by decide +kernel
theorem dX5_isLaw_20 : decode cX5_isLaw 20 = .ok (.iconst 0, 1) := by decide +kernel
theorem dX5_isLaw_21 : decode cX5_isLaw 21 = .ok (.ireturn, 1) := by decide +kernel
theorem dX5_common_0 : decode cX5_common 0 = .ok (.lload_n 0, 1) := by decide +kernel
theorem dX5_common_1 : decode cX5_common 1 = .ok (.lstore 4, 2) := by decide +kernel
theorem dX5_common_3 : decode cX5_common 3 = .ok (.lload_n 2, 1) := by decide +kernel
theorem dX5_common_4 : decode cX5_common 4 = .ok (.lstore 6, 2) := by decide +kernel
theorem dX5_common_6 : decode cX5_common 6 = .ok (.lload 6, 2) := by decide +kernel
theorem dX5_common_8 : decode cX5_common 8 = .ok (.lconst 0, 1) := by decide +kernel
theorem dX5_common_9 : decode cX5_common 9 = .ok (.lcmp, 1) := by decide +kernel
theorem dX5_common_10 : decode cX5_common 10 = .ok (.ifCond .eq 21, 3) := by decide +kernel
theorem dX5_common_13 : decode cX5_common 13 = .ok (.lload 4, 2) := by decide +kernel
theorem dX5_common_15 : decode cX5_common 15 = .ok (.lload 6, 2) := by decide +kernel
theorem dX5_common_17 : decode cX5_common 17 = .ok (.lrem, 1) := by decide +kernel
theorem dX5_common_18 : decode cX5_common 18 = .ok (.lstore 8, 2) := by decide +kernel
theorem dX5_common_20 : decode cX5_common 20 = .ok (.lload 6, 2) := by decide +kernel
theorem dX5_common_22 : decode cX5_common 22 = .ok (.lstore 4, 2) := by decide +kernel
theorem dX5_common_24 : decode cX5_common 24 = .ok (.lload 8, 2) := by decide +kernel
theorem dX5_common_26 : decode cX5_common 26 = .ok (.lstore 6, 2) := by decide +kernel
theorem dX5_common_28 : decode cX5_common 28 = .ok (.goto (-22), 3) := by decide +kernel
theorem dX5_common_31 : decode cX5_common 31 = .ok (.lload 4, 2) := by decide +kernel
theorem dX5_common_33 : decode cX5_common 33 = .ok (.lreturn, 1) := by decide +kernel
theorem dX5_clear_0 : decode cX5_clear 0 = .ok (.iconst 0, 1) := by decide +kernel
theorem dX5_clear_1 : decode cX5_clear 1 = .ok (.istore_n 1, 1) := by decide +kernel
theorem dX5_clear_2 : decode cX5_clear 2 = .ok (.iload_n 1, 1) := by decide +kernel
theorem dX5_clear_3 : decode cX5_clear 3 = .ok (.bipush 64, 2) := by decide +kernel
theorem dX5_clear_5 : decode cX5_clear 5 = .ok (.if_icmp .ge 16, 3) := by decide +kernel
theorem dX5_clear_8 : decode cX5_clear 8 = .ok (.aload_n 0, 1) := by decide +kernel
theorem dX5_clear_9 : decode cX5_clear 9 = .ok (.getfield 23, 3) := by decide +kernel
theorem dX5_clear_12 : decode cX5_clear 12 = .ok (.iload_n 1, 1) := by decide +kernel
theorem dX5_clear_13 : decode cX5_clear 13 = .ok (.lconst 0, 1) := by decide +kernel
theorem dX5_clear_14 : decode cX5_clear 14 = .ok (.lastore, 1) := by decide +kernel
theorem dX5_clear_15 : decode cX5_clear 15 = .ok (.iinc 1 1, 3) := by decide +kernel
theorem dX5_clear_18 : decode cX5_clear 18 = .ok (.goto (-16), 3) := by decide +kernel
theorem dX5_clear_21 : decode cX5_clear 21 = .ok (.return_, 1) := by decide +kernel
set_option maxRecDepth 20000 in
theorem ggX5_makes_X5_common : GoodIn wsX5_makes wsX5_common := goodIn_r _ [9] (by decide +kernel) (by decide +kernel)
set_option maxRecDepth 20000 in
theorem gX5_makes_X5_common : GoodIn wsX5_makes (va_wsS RX5 74 yX5_common wsX5_common) := goodIn_app (goodIn_of _ (by decide +kernel)) ggX5_makes_X5_common
theorem dX5_makes_0 : decode cX5_makes 0 = .ok (.lconst 0, 1) := by decide +kernel
theorem dX5_makes_1 : decode cX5_makes 1 = .ok (.lstore_n 2, 1) := by decide +kernel
theorem dX5_makes_2 : decode cX5_makes 2 = .ok (.iconst 0, 1) := by decide +kernel
theorem dX5_makes_3 : decode cX5_makes 3 = .ok (.istore 4, 2) := by decide +kernel
theorem dX5_makes_5 : decode cX5_makes 5 = .ok (.iload 4, 2) := by decide +kernel
theorem dX5_makes_7 : decode cX5_makes 7 = .ok (.aload_n 0, 1) := by decide +kernel
theorem dX5_makes_8 : decode cX5_makes 8 = .ok (.getfield 49, 3) := by decide +kernel
theorem dX5_makes_11 : decode cX5_makes 11 = .ok (.if_icmp .ge 21, 3) := by decide +kernel
theorem dX5_makes_14 : decode cX5_makes 14 = .ok (.aload_n 0, 1) := by decide +kernel
theorem dX5_makes_15 : decode cX5_makes 15 = .ok (.getfield 23, 3) := by decide +kernel
theorem dX5_makes_18 : decode cX5_makes 18 = .ok (.iload 4, 2) := by decide +kernel
theorem dX5_makes_20 : decode cX5_makes 20 = .ok (.laload, 1) := by decide +kernel
theorem dX5_makes_21 : decode cX5_makes 21 = .ok (.lload_n 2, 1) := by decide +kernel
theorem dX5_makes_22 : decode cX5_makes 22 = .ok (.invokestatic 74, 3) := by decide +kernel
theorem dX5_makes_25 : decode cX5_makes 25 = .ok (.lstore_n 2, 1) := by decide +kernel
theorem dX5_makes_26 : decode cX5_makes 26 = .ok (.iinc 4 1, 3) := by decide +kernel
theorem dX5_makes_29 : decode cX5_makes 29 = .ok (.goto (-24), 3) := by decide +kernel
theorem dX5_makes_32 : decode cX5_makes 32 = .ok (.lload_n 2, 1) := by decide +kernel
theorem dX5_makes_33 : decode cX5_makes 33 = .ok (.lconst 0, 1) := by decide +kernel
theorem dX5_makes_34 : decode cX5_makes 34 = .ok (.lcmp, 1) := by decide +kernel
theorem dX5_makes_35 : decode cX5_makes 35 = .ok (.ifCond .ne 5, 3) := by decide +kernel
theorem dX5_makes_38 : decode cX5_makes 38 = .ok (.iconst 0, 1) := by decide +kernel
theorem dX5_makes_39 : decode cX5_makes 39 = .ok (.ireturn, 1) := by decide +kernel
theorem dX5_makes_40 : decode cX5_makes 40 = .ok (.iconst 0, 1) := by decide +kernel
theorem dX5_makes_41 : decode cX5_makes 41 = .ok (.istore 4, 2) := by decide +kernel
theorem dX5_makes_43 : decode cX5_makes 43 = .ok (.iload 4, 2) := by decide +kernel
theorem dX5_makes_45 : decode cX5_makes 45 = .ok (.aload_n 0, 1) := by decide +kernel
theorem dX5_makes_46 : decode cX5_makes 46 = .ok (.getfield 49, 3) := by decide +kernel
theorem dX5_makes_49 : decode cX5_makes 49 = .ok (.if_icmp .ge 27, 3) := by decide +kernel
theorem dX5_makes_52 : decode cX5_makes 52 = .ok (.aload_n 0, 1) := by decide +kernel
theorem dX5_makes_53 : decode cX5_makes 53 = .ok (.getfield 23, 3) := by decide +kernel
theorem dX5_makes_56 : decode cX5_makes 56 = .ok (.iload 4, 2) := by decide +kernel
theorem dX5_makes_58 : decode cX5_makes 58 = .ok (.laload, 1) := by decide +kernel
theorem dX5_makes_59 : decode cX5_makes 59 = .ok (.lload_n 2, 1) := by decide +kernel
theorem dX5_makes_60 : decode cX5_makes 60 = .ok (.ldiv, 1) := by decide +kernel
theorem dX5_makes_61 : decode cX5_makes 61 = .ok (.ldc2_w 78, 3) := by decide +kernel
theorem dX5_makes_64 : decode cX5_makes 64 = .ok (.lcmp, 1) := by decide +kernel
theorem dX5_makes_65 : decode cX5_makes 65 = .ok (.ifCond .le 5, 3) := by decide +kernel
theorem dX5_makes_68 : decode cX5_makes 68 = .ok (.iconst 0, 1) := by decide +kernel
theorem dX5_makes_69 : decode cX5_makes 69 = .ok (.ireturn, 1) := by decide +kernel
theorem dX5_makes_70 : decode cX5_makes 70 = .ok (.iinc 4 1, 3) := by decide +kernel
theorem dX5_makes_73 : decode cX5_makes 73 = .ok (.goto (-30), 3) := by decide +kernel
theorem dX5_makes_76 : decode cX5_makes 76 = .ok (.iconst 0, 1) := by decide +kernel
theorem dX5_makes_77 : decode cX5_makes 77 = .ok (.istore 4, 2) := by decide +kernel
theorem dX5_makes_79 : decode cX5_makes 79 = .ok (.iload 4, 2) := by decide +kernel
theorem dX5_makes_81 : decode cX5_makes 81 = .ok (.aload_n 0, 1) := by decide +kernel
theorem dX5_makes_82 : decode cX5_makes 82 = .ok (.getfield 49, 3) := by decide +kernel
theorem dX5_makes_85 : decode cX5_makes 85 = .ok (.if_icmp .ge 30, 3) := by decide +kernel
theorem dX5_makes_88 : decode cX5_makes 88 = .ok (.aload_n 0, 1) := by decide +kernel
theorem dX5_makes_89 : decode cX5_makes 89 = .ok (.getfield 20, 3) := by decide +kernel
theorem dX5_makes_92 : decode cX5_makes 92 = .ok (.bipush 64, 2) := by decide +kernel
theorem dX5_makes_94 : decode cX5_makes 94 = .ok (.iload_n 1, 1) := by decide +kernel
theorem dX5_makes_95 : decode cX5_makes 95 = .ok (.imul, 1) := by decide +kernel
theorem dX5_makes_96 : decode cX5_makes 96 = .ok (.iload 4, 2) := by decide +kernel
theorem dX5_makes_98 : decode cX5_makes 98 = .ok (.iadd, 1) := by decide +kernel
theorem dX5_makes_99 : decode cX5_makes 99 = .ok (.aload_n 0, 1) := by decide +kernel
theorem dX5_makes_100 : decode cX5_makes 100 = .ok (.getfield 23, 3) := by decide +kernel
theorem dX5_makes_103 : decode cX5_makes 103 = .ok (.iload 4, 2) := by decide +kernel
theorem dX5_makes_105 : decode cX5_makes 105 = .ok (.laload, 1) := by decide +kernel
theorem dX5_makes_106 : decode cX5_makes 106 = .ok (.lload_n 2, 1) := by decide +kernel
theorem dX5_makes_107 : decode cX5_makes 107 = .ok (.ldiv, 1) := by decide +kernel
theorem dX5_makes_108 : decode cX5_makes 108 = .ok (.lastore, 1) := by decide +kernel
theorem dX5_makes_109 : decode cX5_makes 109 = .ok (.iinc 4 1, 3) := by decide +kernel
theorem dX5_makes_112 : decode cX5_makes 112 = .ok (.goto (-33), 3) := by decide +kernel
theorem dX5_makes_115 : decode cX5_makes 115 = .ok (.aload_n 0, 1) := by decide +kernel
theorem dX5_makes_116 : decode cX5_makes 116 = .ok (.getfield 29, 3) := by decide +kernel
theorem dX5_makes_119 : decode cX5_makes 119 = .ok (.iload_n 1, 1) := by decide +kernel
theorem dX5_makes_120 : decode cX5_makes 120 = .ok (.iconst 1, 1) := by decide +kernel
theorem dX5_makes_121 : decode cX5_makes 121 = .ok (.bastore, 1) := by decide +kernel
theorem dX5_makes_122 : decode cX5_makes 122 = .ok (.iconst 1, 1) := by decide +kernel
theorem dX5_makes_123 : decode cX5_makes 123 = .ok (.ireturn, 1) := by decide +kernel
set_option maxRecDepth 20000 in
theorem ggX5_shun_X5_isPlace : GoodIn wsX5_shun wsX5_isPlace := goodIn_r _ [6, 7, 8, 5, 9] (by decide +kernel) (by decide +kernel)
set_option maxRecDepth 20000 in
theorem gX5_shun_X5_isPlace : GoodIn wsX5_shun (va_wsS RX5 56 yX5_isPlace wsX5_isPlace) := goodIn_app (goodIn_of _ (by decide +kernel)) ggX5_shun_X5_isPlace
set_option maxRecDepth 20000 in
theorem ggX5_shun_X5_why : GoodIn wsX5_shun wsX5_why := goodIn_r _ [13, 1, 3, 4, 5, 6, 7, 8, 9, 14, 15, 16, 17, 18, 19, 20, 21, 22, 23, 24, 39, 40, 41, 42, 43, 44, 45, 46, 47, 48, 49, 50, 51] (by decide +kernel) (by decide +kernel)
set_option maxRecDepth 20000 in
theorem gX5_shun_X5_why : GoodIn wsX5_shun (wsV RX5 80 RX5 yX5_why wsX5_why) := goodIn_app (goodIn_of _ (by decide +kernel)) ggX5_shun_X5_why
set_option maxRecDepth 20000 in
theorem ggX5_shun_X5_clear : GoodIn wsX5_shun wsX5_clear := goodIn_r _ [28, 2, 39, 40, 41, 42, 43, 44, 45, 46, 47, 48, 49, 50, 51] (by decide +kernel) (by decide +kernel)
set_option maxRecDepth 20000 in
theorem gX5_shun_X5_clear : GoodIn wsX5_shun (wsV RX5 83 RX5 yX5_clear wsX5_clear) := goodIn_app (goodIn_of _ (by decide +kernel)) ggX5_shun_X5_clear
set_option maxRecDepth 20000 in
theorem ggX5_shun_X5_determinant : GoodIn wsX5_shun wsX5_determinant := goodIn_r _ [17, 18, 19, 20, 21, 22, 23, 5, 24, 39, 40, 41, 42, 43, 44, 45, 46, 47, 48, 49, 50, 51] (by decide +kernel) (by decide +kernel)
set_option maxRecDepth 20000 in
theorem gX5_shun_X5_determinant : GoodIn wsX5_shun (wsV RX5 70 RX5 yX5_determinant wsX5_determinant) := goodIn_app (goodIn_of _ (by decide +kernel)) ggX5_shun_X5_determinant
set_option maxRecDepth 20000 in
theorem ggX5_shun_X5_makes : GoodIn wsX5_shun wsX5_makes := goodIn_r _ [32, 1, 2, 33, 34, 35, 36, 37, 5, 38, 39, 40, 41, 42, 43, 44, 45, 46, 47, 48, 49, 50, 51] (by decide +kernel) (by decide +kernel)
set_option maxRecDepth 20000 in
theorem gX5_shun_X5_makes : GoodIn wsX5_shun (wsV RX5 86 RX5 yX5_makes wsX5_makes) := goodIn_app (goodIn_of _ (by decide +kernel)) ggX5_shun_X5_makes
theorem dX5_shun_0 : decode cX5_shun 0 = .ok (.iload_n 1, 1) := by decide +kernel
theorem dX5_shun_1 : decode cX5_shun 1 = .ok (.invokestatic 56, 3) := by decide +kernel
theorem dX5_shun_4 : decode cX5_shun 4 = .ok (.ifCond .eq 18, 3) := by decide +kernel
theorem dX5_shun_7 : decode cX5_shun 7 = .ok (.iload_n 2, 1) := by decide +kernel
theorem dX5_shun_8 : decode cX5_shun 8 = .ok (.invokestatic 56, 3) := by decide +kernel
theorem dX5_shun_11 : decode cX5_shun 11 = .ok (.ifCond .eq 11, 3) := by decide +kernel
theorem dX5_shun_14 : decode cX5_shun 14 = .ok (.aload_n 0, 1) := by decide +kernel
theorem dX5_shun_15 : decode cX5_shun 15 = .ok (.iload_n 1, 1) := by decide +kernel
theorem dX5_shun_16 : decode cX5_shun 16 = .ok (.invokevirtual 80, 3) := by decide +kernel
theorem dX5_shun_19 : decode cX5_shun 19 = .ok (.ifCond .lt 5, 3) := by decide +kernel
theorem dX5_shun_22 : decode cX5_shun 22 = .ok (.iconst 0, 1) := by decide +kernel
theorem dX5_shun_23 : decode cX5_shun 23 = .ok (.ireturn, 1) := by decide +kernel
theorem dX5_shun_24 : decode cX5_shun 24 = .ok (.aload_n 0, 1) := by decide +kernel
theorem dX5_shun_25 : decode cX5_shun 25 = .ok (.invokevirtual 83, 3) := by decide +kernel
theorem dX5_shun_28 : decode cX5_shun 28 = .ok (.iconst 0, 1) := by decide +kernel
theorem dX5_shun_29 : decode cX5_shun 29 = .ok (.istore_n 3, 1) := by decide +kernel
theorem dX5_shun_30 : decode cX5_shun 30 = .ok (.iload_n 3, 1) := by decide +kernel
theorem dX5_shun_31 : decode cX5_shun 31 = .ok (.aload_n 0, 1) := by decide +kernel
theorem dX5_shun_32 : decode cX5_shun 32 = .ok (.getfield 49, 3) := by decide +kernel
theorem dX5_shun_35 : decode cX5_shun 35 = .ok (.if_icmp .ge 22, 3) := by decide +kernel
theorem dX5_shun_38 : decode cX5_shun 38 = .ok (.aload_n 0, 1) := by decide +kernel
theorem dX5_shun_39 : decode cX5_shun 39 = .ok (.getfield 23, 3) := by decide +kernel
theorem dX5_shun_42 : decode cX5_shun 42 = .ok (.iload_n 3, 1) := by decide +kernel
theorem dX5_shun_43 : decode cX5_shun 43 = .ok (.aload_n 0, 1) := by decide +kernel
theorem dX5_shun_44 : decode cX5_shun 44 = .ok (.iload_n 1, 1) := by decide +kernel
theorem dX5_shun_45 : decode cX5_shun 45 = .ok (.iload_n 3, 1) := by decide +kernel
theorem dX5_shun_46 : decode cX5_shun 46 = .ok (.iconst 0, 1) := by decide +kernel
theorem dX5_shun_47 : decode cX5_shun 47 = .ok (.invokevirtual 70, 3) := by decide +kernel
theorem dX5_shun_50 : decode cX5_shun 50 = .ok (.lastore, 1) := by decide +kernel
theorem dX5_shun_51 : decode cX5_shun 51 = .ok (.iinc 3 1, 3) := by decide +kernel
theorem dX5_shun_54 : decode cX5_shun 54 = .ok (.goto (-24), 3) := by decide +kernel
theorem dX5_shun_57 : decode cX5_shun 57 = .ok (.aload_n 0, 1) := by decide +kernel
theorem dX5_shun_58 : decode cX5_shun 58 = .ok (.iload_n 2, 1) := by decide +kernel
theorem dX5_shun_59 : decode cX5_shun 59 = .ok (.invokevirtual 86, 3) := by decide +kernel
theorem dX5_shun_62 : decode cX5_shun 62 = .ok (.ireturn, 1) := by decide +kernel
set_option maxRecDepth 20000 in
theorem ggX5_edge_X5_isThing : GoodIn wsX5_edge wsX5_isThing := goodIn_r _ [8, 9, 10, 11, 7, 12, 13, 14, 15, 16, 17, 18, 19, 20, 21, 22, 23, 24, 25] (by decide +kernel) (by decide +kernel)
set_option maxRecDepth 20000 in
theorem gX5_edge_X5_isThing : GoodIn wsX5_edge (wsV RX5 60 RX5 yX5_isThing wsX5_isThing) := goodIn_app (goodIn_of _ (by decide +kernel)) ggX5_edge_X5_isThing
set_option maxRecDepth 20000 in
theorem ggX5_edge_X5_in : GoodIn wsX5_edge wsX5_in := goodIn_r _ [12] (by decide +kernel) (by decide +kernel)
set_option maxRecDepth 20000 in
theorem gX5_edge_X5_in : GoodIn wsX5_edge (va_wsS RX5 52 yX5_in wsX5_in) := goodIn_app (goodIn_of _ (by decide +kernel)) ggX5_edge_X5_in
theorem dX5_edge_0 : decode cX5_edge 0 = .ok (.aload_n 0, 1) := by decide +kernel
theorem dX5_edge_1 : decode cX5_edge 1 = .ok (.iload_n 1, 1) := by decide +kernel
theorem dX5_edge_2 : decode cX5_edge 2 = .ok (.invokevirtual 60, 3) := by decide +kernel
theorem dX5_edge_5 : decode cX5_edge 5 = .ok (.ifCond .eq 32, 3) := by decide +kernel
theorem dX5_edge_8 : decode cX5_edge 8 = .ok (.iload_n 2, 1) := by decide +kernel
theorem dX5_edge_9 : decode cX5_edge 9 = .ok (.iconst 0, 1) := by decide +kernel
theorem dX5_edge_10 : decode cX5_edge 10 = .ok (.iconst 4, 1) := by decide +kernel
theorem dX5_edge_11 : decode cX5_edge 11 = .ok (.invokestatic 52, 3) := by decide +kernel
theorem dX5_edge_14 : decode cX5_edge 14 = .ok (.ifCond .eq 23, 3) := by decide +kernel
theorem dX5_edge_17 : decode cX5_edge 17 = .ok (.iload_n 3, 1) := by decide +kernel
theorem dX5_edge_18 : decode cX5_edge 18 = .ok (.iconst 0, 1) := by decide +kernel
theorem dX5_edge_19 : decode cX5_edge 19 = .ok (.iconst 4, 1) := by decide +kernel
theorem dX5_edge_20 : decode cX5_edge 20 = .ok (.invokestatic 52, 3) := by decide +kernel
theorem dX5_edge_23 : decode cX5_edge 23 = .ok (.ifCond .eq 14, 3) := by decide +kernel
theorem dX5_edge_26 : decode cX5_edge 26 = .ok (.iload 4, 2) := by decide +kernel
theorem dX5_edge_28 : decode cX5_edge 28 = .ok (.iconst 0, 1) := by decide +kernel
theorem dX5_edge_29 : decode cX5_edge 29 = .ok (.bipush 9, 2) := by decide +kernel
theorem dX5_edge_31 : decode cX5_edge 31 = .ok (.invokestatic 52, 3) := by decide +kernel
theorem dX5_edge_34 : decode cX5_edge 34 = .ok (.ifCond .ne 5, 3) := by decide +kernel
theorem dX5_edge_37 : decode cX5_edge 37 = .ok (.iconst 0, 1) := by decide +kernel
theorem dX5_edge_38 : decode cX5_edge 38 = .ok (.ireturn, 1) := by decide +kernel
theorem dX5_edge_39 : decode cX5_edge 39 = .ok (.aload_n 0, 1) := by decide +kernel
theorem dX5_edge_40 : decode cX5_edge 40 = .ok (.getfield 33, 3) := by decide +kernel
theorem dX5_edge_43 : decode cX5_edge 43 = .ok (.iload_n 1, 1) := by decide +kernel
theorem dX5_edge_44 : decode cX5_edge 44 = .ok (.iload_n 2, 1) := by decide +kernel
theorem dX5_edge_45 : decode cX5_edge 45 = .ok (.iastore, 1) := by decide +kernel
theorem dX5_edge_46 : decode cX5_edge 46 = .ok (.aload_n 0, 1) := by decide +kernel
theorem dX5_edge_47 : decode cX5_edge 47 = .ok (.getfield 36, 3) := by decide +kernel
theorem dX5_edge_50 : decode cX5_edge 50 = .ok (.iload_n 1, 1) := by decide +kernel
theorem dX5_edge_51 : decode cX5_edge 51 = .ok (.iload_n 3, 1) := by decide +kernel
theorem dX5_edge_52 : decode cX5_edge 52 = .ok (.iastore, 1) := by decide +kernel
theorem dX5_edge_53 : decode cX5_edge 53 = .ok (.aload_n 0, 1) := by decide +kernel
theorem dX5_edge_54 : decode cX5_edge 54 = .ok (.getfield 39, 3) := by decide +kernel
theorem dX5_edge_57 : decode cX5_edge 57 = .ok (.iload_n 1, 1) := by decide +kernel
theorem dX5_edge_58 : decode cX5_edge 58 = .ok (.iload 4, 2) := by decide +kernel
theorem dX5_edge_60 : decode cX5_edge 60 = .ok (.iastore, 1) := by decide +kernel
theorem dX5_edge_61 : decode cX5_edge 61 = .ok (.iconst 1, 1) := by decide +kernel
theorem dX5_edge_62 : decode cX5_edge 62 = .ok (.ireturn, 1) := by decide +kernel
set_option maxRecDepth 20000 in
theorem ggX5_treeOf_X5_sizeOf : GoodIn wsX5_treeOf wsX5_sizeOf := goodIn_r _ [9] (by decide +kernel) (by decide +kernel)
set_option maxRecDepth 20000 in
theorem gX5_treeOf_X5_sizeOf : GoodIn wsX5_treeOf (va_wsS RX5 63 yX5_sizeOf wsX5_sizeOf) := goodIn_app (goodIn_of _ (by decide +kernel)) ggX5_treeOf_X5_sizeOf
theorem dX5_treeOf_0 : decode cX5_treeOf 0 = .ok (.iload_n 1, 1) := by decide +kernel
theorem dX5_treeOf_1 : decode cX5_treeOf 1 = .ok (.invokestatic 63, 3) := by decide +kernel
theorem dX5_treeOf_4 : decode cX5_treeOf 4 = .ok (.iload_n 2, 1) := by decide +kernel
theorem dX5_treeOf_5 : decode cX5_treeOf 5 = .ok (.iconst 1, 1) := by decide +kernel
theorem dX5_treeOf_6 : decode cX5_treeOf 6 = .ok (.isub, 1) := by decide +kernel
theorem dX5_treeOf_7 : decode cX5_treeOf 7 = .ok (.if_icmp .eq 5, 3) := by decide +kernel
theorem dX5_treeOf_10 : decode cX5_treeOf 10 = .ok (.lconst 0, 1) := by decide +kernel
theorem dX5_treeOf_11 : decode cX5_treeOf 11 = .ok (.lreturn, 1) := by decide +kernel
theorem dX5_treeOf_12 : decode cX5_treeOf 12 = .ok (.iconst 0, 1) := by decide +kernel
theorem dX5_treeOf_13 : decode cX5_treeOf 13 = .ok (.istore_n 3, 1) := by decide +kernel
theorem dX5_treeOf_14 : decode cX5_treeOf 14 = .ok (.iload_n 3, 1) := by decide +kernel
theorem dX5_treeOf_15 : decode cX5_treeOf 15 = .ok (.iconst 5, 1) := by decide +kernel
theorem dX5_treeOf_16 : decode cX5_treeOf 16 = .ok (.if_icmp .ge 16, 3) := by decide +kernel
theorem dX5_treeOf_19 : decode cX5_treeOf 19 = .ok (.aload_n 0, 1) := by decide +kernel
theorem dX5_treeOf_20 : decode cX5_treeOf 20 = .ok (.getfield 42, 3) := by decide +kernel
theorem dX5_treeOf_23 : decode cX5_treeOf 23 = .ok (.iload_n 3, 1) := by decide +kernel
theorem dX5_treeOf_24 : decode cX5_treeOf 24 = .ok (.iload_n 3, 1) := by decide +kernel
theorem dX5_treeOf_25 : decode cX5_treeOf 25 = .ok (.iastore, 1) := by decide +kernel
theorem dX5_treeOf_26 : decode cX5_treeOf 26 = .ok (.iinc 3 1, 3) := by decide +kernel
theorem dX5_treeOf_29 : decode cX5_treeOf 29 = .ok (.goto (-15), 3) := by decide +kernel
theorem dX5_treeOf_32 : decode cX5_treeOf 32 = .ok (.lconst 1, 1) := by decide +kernel
theorem dX5_treeOf_33 : decode cX5_treeOf 33 = .ok (.lstore_n 3, 1) := by decide +kernel
theorem dX5_treeOf_34 : decode cX5_treeOf 34 = .ok (.iconst 0, 1) := by decide +kernel
theorem dX5_treeOf_35 : decode cX5_treeOf 35 = .ok (.istore 5, 2) := by decide +kernel
theorem dX5_treeOf_37 : decode cX5_treeOf 37 = .ok (.iload 5, 2) := by decide +kernel
theorem dX5_treeOf_39 : decode cX5_treeOf 39 = .ok (.aload_n 0, 1) := by decide +kernel
theorem dX5_treeOf_40 : decode cX5_treeOf 40 = .ok (.getfield 45, 3) := by decide +kernel
theorem dX5_treeOf_43 : decode cX5_treeOf 43 = .ok (.if_icmp .ge 135, 3) := by decide +kernel
theorem dX5_treeOf_46 : decode cX5_treeOf 46 = .ok (.iload_n 1, 1) := by decide +kernel
theorem dX5_treeOf_47 : decode cX5_treeOf 47 = .ok (.iload 5, 2) := by decide +kernel
theorem dX5_treeOf_49 : decode cX5_treeOf 49 = .ok (.ishr, 1) := by decide +kernel
theorem dX5_treeOf_50 : decode cX5_treeOf 50 = .ok (.iconst 1, 1) := by decide +kernel
theorem dX5_treeOf_51 : decode cX5_treeOf 51 = .ok (.iand, 1) := by decide +kernel
theorem dX5_treeOf_52 : decode cX5_treeOf 52 = .ok (.ifCond .ne 6, 3) := by decide +kernel
theorem dX5_treeOf_55 : decode cX5_treeOf 55 = .ok (.goto 117, 3) := by decide +kernel
theorem dX5_treeOf_58 : decode cX5_treeOf 58 = .ok (.aload_n 0, 1) := by decide +kernel
theorem dX5_treeOf_59 : decode cX5_treeOf 59 = .ok (.getfield 33, 3) := by decide +kernel
theorem dX5_treeOf_62 : decode cX5_treeOf 62 = .ok (.iload 5, 2) := by decide +kernel
theorem dX5_treeOf_64 : decode cX5_treeOf 64 = .ok (.iaload, 1) := by decide +kernel
theorem dX5_treeOf_65 : decode cX5_treeOf 65 = .ok (.istore 6, 2) := by decide +kernel
theorem dX5_treeOf_67 : decode cX5_treeOf 67 = .ok (.aload_n 0, 1) := by decide +kernel
theorem dX5_treeOf_68 : decode cX5_treeOf 68 = .ok (.getfield 36, 3) := by decide +kernel
theorem dX5_treeOf_71 : decode cX5_treeOf 71 = .ok (.iload 5, 2) := by decide +kernel
theorem dX5_treeOf_73 : decode cX5_treeOf 73 = .ok (.iaload, 1) := by decide +kernel
theorem dX5_treeOf_74 : decode cX5_treeOf 74 = .ok (.istore 7, 2) := by decide +kernel
theorem dX5_treeOf_76 : decode cX5_treeOf 76 = .ok (.iload 6, 2) := by decide +kernel
theorem dX5_treeOf_78 : decode cX5_treeOf 78 = .ok (.iload_n 2, 1) := by decide +kernel
theorem dX5_treeOf_79 : decode cX5_treeOf 79 = .ok (.if_icmp .ge 26, 3) := by decide +kernel
theorem dX5_treeOf_82 : decode cX5_treeOf 82 = .ok (.iload 7, 2) := by decide +kernel
theorem dX5_treeOf_84 : decode cX5_treeOf 84 = .ok (.iload_n 2, 1) := by decide +kernel
theorem dX5_treeOf_85 : decode cX5_treeOf 85 = .ok (.if_icmp .ge 20, 3) := by decide +kernel
theorem dX5_treeOf_88 : decode cX5_treeOf 88 = .ok (.aload_n 0, 1) := by decide +kernel
theorem dX5_treeOf_89 : decode cX5_treeOf 89 = .ok (.getfield 42, 3) := by decide +kernel
theorem dX5_treeOf_92 : decode cX5_treeOf 92 = .ok (.iload 6, 2) := by decide +kernel
theorem dX5_treeOf_94 : decode cX5_treeOf 94 = .ok (.iaload, 1) := by decide +kernel
theorem dX5_treeOf_95 : decode cX5_treeOf 95 = .ok (.aload_n 0, 1) := by decide +kernel
theorem dX5_treeOf_96 : decode cX5_treeOf 96 = .ok (.getfield 42, 3) := by decide +kernel
theorem dX5_treeOf_99 : decode cX5_treeOf 99 = .ok (.iload 7, 2) := by decide +kernel
theorem dX5_treeOf_101 : decode cX5_treeOf 101 = .ok (.iaload, 1) := by decide +kernel
theorem dX5_treeOf_102 : decode cX5_treeOf 102 = .ok (.if_icmp .ne 5, 3) := by decide +kernel
theorem dX5_treeOf_105 : decode cX5_treeOf 105 = .ok (.lconst 0, 1) := by decide +kernel
theorem dX5_treeOf_106 : decode cX5_treeOf 106 = .ok (.lreturn, 1) := by decide +kernel
theorem dX5_treeOf_107 : decode cX5_treeOf 107 = .ok (.aload_n 0, 1) := by decide +kernel
theorem dX5_treeOf_108 : decode cX5_treeOf 108 = .ok (.getfield 42, 3) := by decide +kernel
theorem dX5_treeOf_111 : decode cX5_treeOf 111 = .ok (.iload 7, 2) := by decide +kernel
theorem dX5_treeOf_113 : decode cX5_treeOf 113 = .ok (.iaload, 1) := by decide +kernel
theorem dX5_treeOf_114 : decode cX5_treeOf 114 = .ok (.istore 8, 2) := by decide +kernel
theorem dX5_treeOf_116 : decode cX5_treeOf 116 = .ok (.aload_n 0, 1) := by decide +kernel
theorem dX5_treeOf_117 : decode cX5_treeOf 117 = .ok (.getfield 42, 3) := by decide +kernel
theorem dX5_treeOf_120 : decode cX5_treeOf 120 = .ok (.iload 6, 2) := by decide +kernel
theorem dX5_treeOf_122 : decode cX5_treeOf 122 = .ok (.iaload, 1) := by decide +kernel
theorem dX5_treeOf_123 : decode cX5_treeOf 123 = .ok (.istore 9, 2) := by decide +kernel
theorem dX5_treeOf_125 : decode cX5_treeOf 125 = .ok (.iconst 0, 1) := by decide +kernel
theorem dX5_treeOf_126 : decode cX5_treeOf 126 = .ok (.istore 10, 2) := by decide +kernel
theorem dX5_treeOf_128 : decode cX5_treeOf 128 = .ok (.iload 10, 2) := by decide +kernel
theorem dX5_treeOf_130 : decode cX5_treeOf 130 = .ok (.iconst 5, 1) := by decide +kernel
theorem dX5_treeOf_131 : decode cX5_treeOf 131 = .ok (.if_icmp .ge 30, 3) := by decide +kernel
theorem dX5_treeOf_134 : decode cX5_treeOf 134 = .ok (.aload_n 0, 1) := by decide +kernel
theorem dX5_treeOf_135 : decode cX5_treeOf 135 = .ok (.getfield 42, 3) := by decide +kernel
theorem dX5_treeOf_138 : decode cX5_treeOf 138 = .ok (.iload 10, 2) := by decide +kernel
theorem dX5_treeOf_140 : decode cX5_treeOf 140 = .ok (.iaload, 1) := by decide +kernel
theorem dX5_treeOf_141 : decode cX5_treeOf 141 = .ok (.iload 8, 2) := by decide +kernel
theorem dX5_treeOf_143 : decode cX5_treeOf 143 = .ok (.if_icmp .ne 12, 3) := by decide +kernel
theorem dX5_treeOf_146 : decode cX5_treeOf 146 = .ok (.aload_n 0, 1) := by decide +kernel
theorem dX5_treeOf_147 : decode cX5_treeOf 147 = .ok (.getfield 42, 3) := by decide +kernel
theorem dX5_treeOf_150 : decode cX5_treeOf 150 = .ok (.iload 10, 2) := by decide +kernel
theorem dX5_treeOf_152 : decode cX5_treeOf 152 = .ok (.iload 9, 2) := by decide +kernel
theorem dX5_treeOf_154 : decode cX5_treeOf 154 = .ok (.iastore, 1) := by decide +kernel
theorem dX5_treeOf_155 : decode cX5_treeOf 155 = .ok (.iinc 10 1, 3) := by decide +kernel
theorem dX5_treeOf_158 : decode cX5_treeOf 158 = .ok (.goto (-30), 3) := by decide +kernel
theorem dX5_treeOf_161 : decode cX5_treeOf 161 = .ok (.lload_n 3, 1) := by decide +kernel
theorem dX5_treeOf_162 : decode cX5_treeOf 162 = .ok (.aload_n 0, 1) := by decide +kernel
theorem dX5_treeOf_163 : decode cX5_treeOf 163 = .ok (.getfield 39, 3) := by decide +kernel
theorem dX5_treeOf_166 : decode cX5_treeOf 166 = .ok (.iload 5, 2) := by decide +kernel
theorem dX5_treeOf_168 : decode cX5_treeOf 168 = .ok (.iaload, 1) := by decide +kernel
theorem dX5_treeOf_169 : decode cX5_treeOf 169 = .ok (.i2l, 1) := by decide +kernel
theorem dX5_treeOf_170 : decode cX5_treeOf 170 = .ok (.lmul, 1) := by decide +kernel
theorem dX5_treeOf_171 : decode cX5_treeOf 171 = .ok (.lstore_n 3, 1) := by decide +kernel
theorem dX5_treeOf_172 : decode cX5_treeOf 172 = .ok (.iinc 5 1, 3) := by decide +kernel
theorem dX5_treeOf_175 : decode cX5_treeOf 175 = .ok (.goto (-138), 3) := by decide +kernel
theorem dX5_treeOf_178 : decode cX5_treeOf 178 = .ok (.lload_n 3, 1) := by decide +kernel
theorem dX5_treeOf_179 : decode cX5_treeOf 179 = .ok (.lreturn, 1) := by decide +kernel
set_option maxRecDepth 20000 in
theorem ggX5_all_X5_in : GoodIn wsX5_all wsX5_in := goodIn_r _ [5] (by decide +kernel) (by decide +kernel)
set_option maxRecDepth 20000 in
theorem gX5_all_X5_in : GoodIn wsX5_all (va_wsS RX5 52 yX5_in wsX5_in) := goodIn_app (goodIn_of _ (by decide +kernel)) ggX5_all_X5_in
set_option maxRecDepth 20000 in
theorem ggX5_all_X5_treeOf : GoodIn wsX5_all wsX5_treeOf := goodIn_r _ [9, 10, 11, 12, 13, 14, 15, 16, 4, 17, 18, 19, 20, 21, 22, 23, 24, 25, 26, 27, 28, 29, 30] (by decide +kernel) (by decide +kernel)
set_option maxRecDepth 20000 in
theorem gX5_all_X5_treeOf : GoodIn wsX5_all (wsV RX5 89 RX5 yX5_treeOf wsX5_treeOf) := goodIn_app (goodIn_of _ (by decide +kernel)) ggX5_all_X5_treeOf
theorem dX5_all_0 : decode cX5_all 0 = .ok (.lconst 0, 1) := by decide +kernel
theorem dX5_all_1 : decode cX5_all 1 = .ok (.lstore_n 2, 1) := by decide +kernel
theorem dX5_all_2 : decode cX5_all 2 = .ok (.iconst 0, 1) := by decide +kernel
theorem dX5_all_3 : decode cX5_all 3 = .ok (.istore 4, 2) := by decide +kernel
theorem dX5_all_5 : decode cX5_all 5 = .ok (.iload 4, 2) := by decide +kernel
theorem dX5_all_7 : decode cX5_all 7 = .ok (.aload_n 0, 1) := by decide +kernel
theorem dX5_all_8 : decode cX5_all 8 = .ok (.getfield 49, 3) := by decide +kernel
theorem dX5_all_11 : decode cX5_all 11 = .ok (.if_icmp .ge 28, 3) := by decide +kernel
theorem dX5_all_14 : decode cX5_all 14 = .ok (.iload_n 1, 1) := by decide +kernel
theorem dX5_all_15 : decode cX5_all 15 = .ok (.iconst 2, 1) := by decide +kernel
theorem dX5_all_16 : decode cX5_all 16 = .ok (.iconst 5, 1) := by decide +kernel
theorem dX5_all_17 : decode cX5_all 17 = .ok (.invokestatic 52, 3) := by decide +kernel
theorem dX5_all_20 : decode cX5_all 20 = .ok (.ifCond .eq 19, 3) := by decide +kernel
theorem dX5_all_23 : decode cX5_all 23 = .ok (.lload_n 2, 1) := by decide +kernel
theorem dX5_all_24 : decode cX5_all 24 = .ok (.aload_n 0, 1) := by decide +kernel
theorem dX5_all_25 : decode cX5_all 25 = .ok (.iload 4, 2) := by decide +kernel
theorem dX5_all_27 : decode cX5_all 27 = .ok (.iload_n 1, 1) := by decide +kernel
theorem dX5_all_28 : decode cX5_all 28 = .ok (.invokevirtual 89, 3) := by decide +kernel
theorem dX5_all_31 : decode cX5_all 31 = .ok (.ladd, 1) := by decide +kernel
theorem dX5_all_32 : decode cX5_all 32 = .ok (.lstore_n 2, 1) := by decide +kernel
theorem dX5_all_33 : decode cX5_all 33 = .ok (.iinc 4 1, 3) := by decide +kernel
theorem dX5_all_36 : decode cX5_all 36 = .ok (.goto (-31), 3) := by decide +kernel
theorem dX5_all_39 : decode cX5_all 39 = .ok (.lload_n 2, 1) := by decide +kernel
theorem dX5_all_40 : decode cX5_all 40 = .ok (.lreturn, 1) := by decide +kernel
set_option maxRecDepth 20000 in
theorem ggX5_trees_X5_in : GoodIn wsX5_trees wsX5_in := goodIn_r _ [6] (by decide +kernel) (by decide +kernel)
set_option maxRecDepth 20000 in
theorem gX5_trees_X5_in : GoodIn wsX5_trees (va_wsS RX5 52 yX5_in wsX5_in) := goodIn_app (goodIn_of _ (by decide +kernel)) ggX5_trees_X5_in
set_option maxRecDepth 20000 in
theorem ggX5_trees_X5_isPlace : GoodIn wsX5_trees wsX5_isPlace := goodIn_r _ [9, 3, 4, 5, 6] (by decide +kernel) (by decide +kernel)
set_option maxRecDepth 20000 in
theorem gX5_trees_X5_isPlace : GoodIn wsX5_trees (va_wsS RX5 56 yX5_isPlace wsX5_isPlace) := goodIn_app (goodIn_of _ (by decide +kernel)) ggX5_trees_X5_isPlace
set_option maxRecDepth 20000 in
theorem ggX5_trees_X5_clear : GoodIn wsX5_trees wsX5_clear := goodIn_r _ [13, 2, 36, 37, 38, 39, 40, 41, 42, 43, 44, 45, 46, 47, 48] (by decide +kernel) (by decide +kernel)
set_option maxRecDepth 20000 in
theorem gX5_trees_X5_clear : GoodIn wsX5_trees (wsV RX5 83 RX5 yX5_clear wsX5_clear) := goodIn_app (goodIn_of _ (by decide +kernel)) ggX5_trees_X5_clear
set_option maxRecDepth 20000 in
theorem ggX5_trees_X5_treeOf : GoodIn wsX5_trees wsX5_treeOf := goodIn_r _ [17, 18, 19, 20, 21, 22, 23, 24, 5, 25, 36, 37, 38, 39, 40, 41, 42, 43, 44, 45, 46, 47, 48] (by decide +kernel) (by decide +kernel)
set_option maxRecDepth 20000 in
theorem gX5_trees_X5_treeOf : GoodIn wsX5_trees (wsV RX5 89 RX5 yX5_treeOf wsX5_treeOf) := goodIn_app (goodIn_of _ (by decide +kernel)) ggX5_trees_X5_treeOf
set_option maxRecDepth 20000 in
theorem ggX5_trees_X5_makes : GoodIn wsX5_trees wsX5_makes := goodIn_r _ [29, 1, 2, 30, 31, 32, 33, 34, 5, 35, 36, 37, 38, 39, 40, 41, 42, 43, 44, 45, 46, 47, 48] (by decide +kernel) (by decide +kernel)
set_option maxRecDepth 20000 in
theorem gX5_trees_X5_makes : GoodIn wsX5_trees (wsV RX5 86 RX5 yX5_makes wsX5_makes) := goodIn_app (goodIn_of _ (by decide +kernel)) ggX5_trees_X5_makes
theorem dX5_trees_0 : decode cX5_trees 0 = .ok (.iload_n 1, 1) := by decide +kernel
theorem dX5_trees_1 : decode cX5_trees 1 = .ok (.iconst 2, 1) := by decide +kernel
theorem dX5_trees_2 : decode cX5_trees 2 = .ok (.iconst 5, 1) := by decide +kernel
theorem dX5_trees_3 : decode cX5_trees 3 = .ok (.invokestatic 52, 3) := by decide +kernel
theorem dX5_trees_6 : decode cX5_trees 6 = .ok (.ifCond .eq 10, 3) := by decide +kernel
theorem dX5_trees_9 : decode cX5_trees 9 = .ok (.iload_n 2, 1) := by decide +kernel
theorem dX5_trees_10 : decode cX5_trees 10 = .ok (.invokestatic 56, 3) := by decide +kernel
theorem dX5_trees_13 : decode cX5_trees 13 = .ok (.ifCond .ne 5, 3) := by decide +kernel
theorem dX5_trees_16 : decode cX5_trees 16 = .ok (.iconst 0, 1) := by decide +kernel
theorem dX5_trees_17 : decode cX5_trees 17 = .ok (.ireturn, 1) := by decide +kernel
theorem dX5_trees_18 : decode cX5_trees 18 = .ok (.aload_n 0, 1) := by decide +kernel
theorem dX5_trees_19 : decode cX5_trees 19 = .ok (.invokevirtual 83, 3) := by decide +kernel
theorem dX5_trees_22 : decode cX5_trees 22 = .ok (.iconst 0, 1) := by decide +kernel
theorem dX5_trees_23 : decode cX5_trees 23 = .ok (.istore_n 3, 1) := by decide +kernel
theorem dX5_trees_24 : decode cX5_trees 24 = .ok (.iload_n 3, 1) := by decide +kernel
theorem dX5_trees_25 : decode cX5_trees 25 = .ok (.aload_n 0, 1) := by decide +kernel
theorem dX5_trees_26 : decode cX5_trees 26 = .ok (.getfield 49, 3) := by decide +kernel
theorem dX5_trees_29 : decode cX5_trees 29 = .ok (.if_icmp .ge 21, 3) := by decide +kernel
theorem dX5_trees_32 : decode cX5_trees 32 = .ok (.aload_n 0, 1) := by decide +kernel
theorem dX5_trees_33 : decode cX5_trees 33 = .ok (.getfield 23, 3) := by decide +kernel
theorem dX5_trees_36 : decode cX5_trees 36 = .ok (.iload_n 3, 1) := by decide +kernel
theorem dX5_trees_37 : decode cX5_trees 37 = .ok (.aload_n 0, 1) := by decide +kernel
theorem dX5_trees_38 : decode cX5_trees 38 = .ok (.iload_n 3, 1) := by decide +kernel
theorem dX5_trees_39 : decode cX5_trees 39 = .ok (.iload_n 1, 1) := by decide +kernel
theorem dX5_trees_40 : decode cX5_trees 40 = .ok (.invokevirtual 89, 3) := by decide +kernel
theorem dX5_trees_43 : decode cX5_trees 43 = .ok (.lastore, 1) := by decide +kernel
theorem dX5_trees_44 : decode cX5_trees 44 = .ok (.iinc 3 1, 3) := by decide +kernel
theorem dX5_trees_47 : decode cX5_trees 47 = .ok (.goto (-23), 3) := by decide +kernel
theorem dX5_trees_50 : decode cX5_trees 50 = .ok (.aload_n 0, 1) := by decide +kernel
theorem dX5_trees_51 : decode cX5_trees 51 = .ok (.iload_n 2, 1) := by decide +kernel
theorem dX5_trees_52 : decode cX5_trees 52 = .ok (.invokevirtual 86, 3) := by decide +kernel
theorem dX5_trees_55 : decode cX5_trees 55 = .ok (.ireturn, 1) := by decide +kernel
set_option maxRecDepth 20000 in
theorem ggX5_tell_X5_isSet : GoodIn wsX5_tell wsX5_isSet := goodIn_r _ [7, 8, 9, 10, 6, 11, 12, 13, 14, 15, 16, 17, 18, 19, 20, 21, 22, 23, 24] (by decide +kernel) (by decide +kernel)
set_option maxRecDepth 20000 in
theorem gX5_tell_X5_isSet : GoodIn wsX5_tell (wsV RX5 67 RX5 yX5_isSet wsX5_isSet) := goodIn_app (goodIn_of _ (by decide +kernel)) ggX5_tell_X5_isSet
set_option maxRecDepth 20000 in
theorem ggX5_tell_X5_in : GoodIn wsX5_tell wsX5_in := goodIn_r _ [11] (by decide +kernel) (by decide +kernel)
set_option maxRecDepth 20000 in
theorem gX5_tell_X5_in : GoodIn wsX5_tell (va_wsS RX5 52 yX5_in wsX5_in) := goodIn_app (goodIn_of _ (by decide +kernel)) ggX5_tell_X5_in
theorem dX5_tell_0 : decode cX5_tell 0 = .ok (.aload_n 0, 1) := by decide +kernel
theorem dX5_tell_1 : decode cX5_tell 1 = .ok (.iload_n 1, 1) := by decide +kernel
theorem dX5_tell_2 : decode cX5_tell 2 = .ok (.invokevirtual 67, 3) := by decide +kernel
theorem dX5_tell_5 : decode cX5_tell 5 = .ok (.ifCond .eq 13, 3) := by decide +kernel
theorem dX5_tell_8 : decode cX5_tell 8 = .ok (.iload_n 2, 1) := by decide +kernel
theorem dX5_tell_9 : decode cX5_tell 9 = .ok (.iconst 0, 1) := by decide +kernel
theorem dX5_tell_10 : decode cX5_tell 10 = .ok (.ldc 93, 2) := by decide +kernel
theorem dX5_tell_12 : decode cX5_tell 12 = .ok (.invokestatic 52, 3) := by decide +kernel
theorem dX5_tell_15 : decode cX5_tell 15 = .ok (.ifCond .ne 5, 3) := by decide +kernel
theorem dX5_tell_18 : decode cX5_tell 18 = .ok (.iconst 0, 1) := by decide +kernel
theorem dX5_tell_19 : decode cX5_tell 19 = .ok (.ireturn, 1) := by decide +kernel
theorem dX5_tell_20 : decode cX5_tell 20 = .ok (.aload_n 0, 1) := by decide +kernel
theorem dX5_tell_21 : decode cX5_tell 21 = .ok (.getfield 26, 3) := by decide +kernel
theorem dX5_tell_24 : decode cX5_tell 24 = .ok (.iload_n 1, 1) := by decide +kernel
theorem dX5_tell_25 : decode cX5_tell 25 = .ok (.iload_n 2, 1) := by decide +kernel
theorem dX5_tell_26 : decode cX5_tell 26 = .ok (.i2l, 1) := by decide +kernel
theorem dX5_tell_27 : decode cX5_tell 27 = .ok (.lastore, 1) := by decide +kernel
theorem dX5_tell_28 : decode cX5_tell 28 = .ok (.iconst 1, 1) := by decide +kernel
theorem dX5_tell_29 : decode cX5_tell 29 = .ok (.ireturn, 1) := by decide +kernel
set_option maxRecDepth 20000 in
theorem ggX5_hand_X5_isPlace : GoodIn wsX5_hand wsX5_isPlace := goodIn_r _ [7, 8, 9, 6, 10] (by decide +kernel) (by decide +kernel)
set_option maxRecDepth 20000 in
theorem gX5_hand_X5_isPlace : GoodIn wsX5_hand (va_wsS RX5 56 yX5_isPlace wsX5_isPlace) := goodIn_app (goodIn_of _ (by decide +kernel)) ggX5_hand_X5_isPlace
set_option maxRecDepth 20000 in
theorem ggX5_hand_X5_clear : GoodIn wsX5_hand wsX5_clear := goodIn_r _ [14, 2, 25, 26, 27, 28, 29, 30, 31, 32, 33, 34, 35, 36, 37] (by decide +kernel) (by decide +kernel)
set_option maxRecDepth 20000 in
theorem gX5_hand_X5_clear : GoodIn wsX5_hand (wsV RX5 83 RX5 yX5_clear wsX5_clear) := goodIn_app (goodIn_of _ (by decide +kernel)) ggX5_hand_X5_clear
set_option maxRecDepth 20000 in
theorem ggX5_hand_X5_makes : GoodIn wsX5_hand wsX5_makes := goodIn_r _ [18, 1, 2, 19, 20, 21, 22, 23, 6, 24, 25, 26, 27, 28, 29, 30, 31, 32, 33, 34, 35, 36, 37] (by decide +kernel) (by decide +kernel)
set_option maxRecDepth 20000 in
theorem gX5_hand_X5_makes : GoodIn wsX5_hand (wsV RX5 86 RX5 yX5_makes wsX5_makes) := goodIn_app (goodIn_of _ (by decide +kernel)) ggX5_hand_X5_makes
theorem dX5_hand_0 : decode cX5_hand 0 = .ok (.iload_n 1, 1) := by decide +kernel
theorem dX5_hand_1 : decode cX5_hand 1 = .ok (.invokestatic 56, 3) := by decide +kernel
theorem dX5_hand_4 : decode cX5_hand 4 = .ok (.ifCond .ne 5, 3) := by decide +kernel
theorem dX5_hand_7 : decode cX5_hand 7 = .ok (.iconst 0, 1) := by decide +kernel
theorem dX5_hand_8 : decode cX5_hand 8 = .ok (.ireturn, 1) := by decide +kernel
theorem dX5_hand_9 : decode cX5_hand 9 = .ok (.aload_n 0, 1) := by decide +kernel
theorem dX5_hand_10 : decode cX5_hand 10 = .ok (.invokevirtual 83, 3) := by decide +kernel
theorem dX5_hand_13 : decode cX5_hand 13 = .ok (.iconst 0, 1) := by decide +kernel
theorem dX5_hand_14 : decode cX5_hand 14 = .ok (.istore_n 2, 1) := by decide +kernel
theorem dX5_hand_15 : decode cX5_hand 15 = .ok (.iload_n 2, 1) := by decide +kernel
theorem dX5_hand_16 : decode cX5_hand 16 = .ok (.aload_n 0, 1) := by decide +kernel
theorem dX5_hand_17 : decode cX5_hand 17 = .ok (.getfield 49, 3) := by decide +kernel
theorem dX5_hand_20 : decode cX5_hand 20 = .ok (.if_icmp .ge 21, 3) := by decide +kernel
theorem dX5_hand_23 : decode cX5_hand 23 = .ok (.aload_n 0, 1) := by decide +kernel
theorem dX5_hand_24 : decode cX5_hand 24 = .ok (.getfield 23, 3) := by decide +kernel
theorem dX5_hand_27 : decode cX5_hand 27 = .ok (.iload_n 2, 1) := by decide +kernel
theorem dX5_hand_28 : decode cX5_hand 28 = .ok (.aload_n 0, 1) := by decide +kernel
theorem dX5_hand_29 : decode cX5_hand 29 = .ok (.getfield 26, 3) := by decide +kernel
theorem dX5_hand_32 : decode cX5_hand 32 = .ok (.iload_n 2, 1) := by decide +kernel
theorem dX5_hand_33 : decode cX5_hand 33 = .ok (.laload, 1) := by decide +kernel
theorem dX5_hand_34 : decode cX5_hand 34 = .ok (.lastore, 1) := by decide +kernel
theorem dX5_hand_35 : decode cX5_hand 35 = .ok (.iinc 2 1, 3) := by decide +kernel
theorem dX5_hand_38 : decode cX5_hand 38 = .ok (.goto (-23), 3) := by decide +kernel
theorem dX5_hand_41 : decode cX5_hand 41 = .ok (.aload_n 0, 1) := by decide +kernel
theorem dX5_hand_42 : decode cX5_hand 42 = .ok (.iload_n 1, 1) := by decide +kernel
theorem dX5_hand_43 : decode cX5_hand 43 = .ok (.invokevirtual 86, 3) := by decide +kernel
theorem dX5_hand_46 : decode cX5_hand 46 = .ok (.ireturn, 1) := by decide +kernel
set_option maxRecDepth 20000 in
theorem ggX5_given_X5_isLaw : GoodIn wsX5_given wsX5_isLaw := goodIn_r _ [8, 9, 10, 11, 7, 12, 13, 14, 15, 32, 33, 34, 35, 36, 37, 38, 39, 40, 41, 42, 43, 44] (by decide +kernel) (by decide +kernel)
set_option maxRecDepth 20000 in
theorem gX5_given_X5_isLaw : GoodIn wsX5_given (wsV RX5 94 RX5 yX5_isLaw wsX5_isLaw) := goodIn_app (goodIn_of _ (by decide +kernel)) ggX5_given_X5_isLaw
set_option maxRecDepth 20000 in
theorem ggX5_given_X5_isSet : GoodIn wsX5_given wsX5_isSet := goodIn_r _ [19, 1, 13, 14, 7, 15, 32, 33, 34, 35, 36, 37, 38, 39, 40, 41, 42, 43, 44] (by decide +kernel) (by decide +kernel)
set_option maxRecDepth 20000 in
theorem gX5_given_X5_isSet : GoodIn wsX5_given (wsV RX5 67 RX5 yX5_isSet wsX5_isSet) := goodIn_app (goodIn_of _ (by decide +kernel)) ggX5_given_X5_isSet
set_option maxRecDepth 20000 in
theorem ggX5_given_X5_isPlace : GoodIn wsX5_given wsX5_isPlace := goodIn_r _ [12, 13, 14, 7, 15] (by decide +kernel) (by decide +kernel)
set_option maxRecDepth 20000 in
theorem gX5_given_X5_isPlace : GoodIn wsX5_given (va_wsS RX5 56 yX5_isPlace wsX5_isPlace) := goodIn_app (goodIn_of _ (by decide +kernel)) ggX5_given_X5_isPlace
set_option maxRecDepth 20000 in
theorem ggX5_given_X5_clear : GoodIn wsX5_given wsX5_clear := goodIn_r _ [23, 2, 32, 33, 34, 35, 36, 37, 38, 39, 40, 41, 42, 43, 44] (by decide +kernel) (by decide +kernel)
set_option maxRecDepth 20000 in
theorem gX5_given_X5_clear : GoodIn wsX5_given (wsV RX5 83 RX5 yX5_clear wsX5_clear) := goodIn_app (goodIn_of _ (by decide +kernel)) ggX5_given_X5_clear
set_option maxRecDepth 20000 in
theorem ggX5_given_X5_makes : GoodIn wsX5_given wsX5_makes := goodIn_r _ [27, 1, 2, 28, 3, 9, 29, 30, 7, 31, 32, 33, 34, 35, 36, 37, 38, 39, 40, 41, 42, 43, 44] (by decide +kernel) (by decide +kernel)
set_option maxRecDepth 20000 in
theorem gX5_given_X5_makes : GoodIn wsX5_given (wsV RX5 86 RX5 yX5_makes wsX5_makes) := goodIn_app (goodIn_of _ (by decide +kernel)) ggX5_given_X5_makes
theorem dX5_given_0 : decode cX5_given 0 = .ok (.aload_n 0, 1) := by decide +kernel
theorem dX5_given_1 : decode cX5_given 1 = .ok (.iload_n 1, 1) := by decide +kernel
theorem dX5_given_2 : decode cX5_given 2 = .ok (.invokevirtual 94, 3) := by decide +kernel
theorem dX5_given_5 : decode cX5_given 5 = .ok (.ifCond .eq 27, 3) := by decide +kernel
theorem dX5_given_8 : decode cX5_given 8 = .ok (.aload_n 0, 1) := by decide +kernel
theorem dX5_given_9 : decode cX5_given 9 = .ok (.iload_n 2, 1) := by decide +kernel
theorem dX5_given_10 : decode cX5_given 10 = .ok (.invokevirtual 67, 3) := by decide +kernel
theorem dX5_given_13 : decode cX5_given 13 = .ok (.ifCond .eq 19, 3) := by decide +kernel
theorem dX5_given_16 : decode cX5_given 16 = .ok (.aload_n 0, 1) := by decide +kernel
theorem dX5_given_17 : decode cX5_given 17 = .ok (.iload_n 3, 1) := by decide +kernel
theorem dX5_given_18 : decode cX5_given 18 = .ok (.invokevirtual 67, 3) := by decide +kernel
theorem dX5_given_21 : decode cX5_given 21 = .ok (.ifCond .eq 11, 3) := by decide +kernel
theorem dX5_given_24 : decode cX5_given 24 = .ok (.iload 4, 2) := by decide +kernel
theorem dX5_given_26 : decode cX5_given 26 = .ok (.invokestatic 56, 3) := by decide +kernel
theorem dX5_given_29 : decode cX5_given 29 = .ok (.ifCond .ne 5, 3) := by decide +kernel
theorem dX5_given_32 : decode cX5_given 32 = .ok (.iconst 0, 1) := by decide +kernel
theorem dX5_given_33 : decode cX5_given 33 = .ok (.ireturn, 1) := by decide +kernel
theorem dX5_given_34 : decode cX5_given 34 = .ok (.aload_n 0, 1) := by decide +kernel
theorem dX5_given_35 : decode cX5_given 35 = .ok (.invokevirtual 83, 3) := by decide +kernel
theorem dX5_given_38 : decode cX5_given 38 = .ok (.iconst 0, 1) := by decide +kernel
theorem dX5_given_39 : decode cX5_given 39 = .ok (.istore 5, 2) := by decide +kernel
theorem dX5_given_41 : decode cX5_given 41 = .ok (.iload 5, 2) := by decide +kernel
theorem dX5_given_43 : decode cX5_given 43 = .ok (.aload_n 0, 1) := by decide +kernel
theorem dX5_given_44 : decode cX5_given 44 = .ok (.getfield 49, 3) := by decide +kernel
theorem dX5_given_47 : decode cX5_given 47 = .ok (.if_icmp .ge 43, 3) := by decide +kernel
theorem dX5_given_50 : decode cX5_given 50 = .ok (.iload 5, 2) := by decide +kernel
theorem dX5_given_52 : decode cX5_given 52 = .ok (.iload_n 2, 1) := by decide +kernel
theorem dX5_given_53 : decode cX5_given 53 = .ok (.iand, 1) := by decide +kernel
theorem dX5_given_54 : decode cX5_given 54 = .ok (.iload_n 2, 1) := by decide +kernel
theorem dX5_given_55 : decode cX5_given 55 = .ok (.if_icmp .ne 29, 3) := by decide +kernel
theorem dX5_given_58 : decode cX5_given 58 = .ok (.iload 5, 2) := by decide +kernel
theorem dX5_given_60 : decode cX5_given 60 = .ok (.iload_n 3, 1) := by decide +kernel
theorem dX5_given_61 : decode cX5_given 61 = .ok (.iand, 1) := by decide +kernel
theorem dX5_given_62 : decode cX5_given 62 = .ok (.ifCond .ne 22, 3) := by decide +kernel
theorem dX5_given_65 : decode cX5_given 65 = .ok (.aload_n 0, 1) := by decide +kernel
theorem dX5_given_66 : decode cX5_given 66 = .ok (.getfield 23, 3) := by decide +kernel
theorem dX5_given_69 : decode cX5_given 69 = .ok (.iload 5, 2) := by decide +kernel
theorem dX5_given_71 : decode cX5_given 71 = .ok (.aload_n 0, 1) := by decide +kernel
theorem dX5_given_72 : decode cX5_given 72 = .ok (.getfield 20, 3) := by decide +kernel
theorem dX5_given_75 : decode cX5_given 75 = .ok (.bipush 64, 2) := by decide +kernel
theorem dX5_given_77 : decode cX5_given 77 = .ok (.iload_n 1, 1) := by decide +kernel
theorem dX5_given_78 : decode cX5_given 78 = .ok (.imul, 1) := by decide +kernel
theorem dX5_given_79 : decode cX5_given 79 = .ok (.iload 5, 2) := by decide +kernel
theorem dX5_given_81 : decode cX5_given 81 = .ok (.iadd, 1) := by decide +kernel
theorem dX5_given_82 : decode cX5_given 82 = .ok (.laload, 1) := by decide +kernel
theorem dX5_given_83 : decode cX5_given 83 = .ok (.lastore, 1) := by decide +kernel
theorem dX5_given_84 : decode cX5_given 84 = .ok (.iinc 5 1, 3) := by decide +kernel
theorem dX5_given_87 : decode cX5_given 87 = .ok (.goto (-46), 3) := by decide +kernel
theorem dX5_given_90 : decode cX5_given 90 = .ok (.aload_n 0, 1) := by decide +kernel
theorem dX5_given_91 : decode cX5_given 91 = .ok (.iload 4, 2) := by decide +kernel
theorem dX5_given_93 : decode cX5_given 93 = .ok (.invokevirtual 86, 3) := by decide +kernel
theorem dX5_given_96 : decode cX5_given 96 = .ok (.ireturn, 1) := by decide +kernel
set_option maxRecDepth 20000 in
theorem ggX5_canBe_X5_isLaw : GoodIn wsX5_canBe wsX5_isLaw := goodIn_r _ [5, 6, 7, 8, 4, 9, 10, 11, 12, 18, 19, 20, 21, 22, 23, 24, 25, 26, 27, 28, 29, 30] (by decide +kernel) (by decide +kernel)
set_option maxRecDepth 20000 in
theorem gX5_canBe_X5_isLaw : GoodIn wsX5_canBe (wsV RX5 94 RX5 yX5_isLaw wsX5_isLaw) := goodIn_app (goodIn_of _ (by decide +kernel)) ggX5_canBe_X5_isLaw
set_option maxRecDepth 20000 in
theorem ggX5_canBe_X5_isSet : GoodIn wsX5_canBe wsX5_isSet := goodIn_r _ [16, 17, 10, 11, 4, 12, 18, 19, 20, 21, 22, 23, 24, 25, 26, 27, 28, 29, 30] (by decide +kernel) (by decide +kernel)
set_option maxRecDepth 20000 in
theorem gX5_canBe_X5_isSet : GoodIn wsX5_canBe (wsV RX5 67 RX5 yX5_isSet wsX5_isSet) := goodIn_app (goodIn_of _ (by decide +kernel)) ggX5_canBe_X5_isSet
set_option maxRecDepth 20000 in
theorem ggX5_canBe_X5_isPlace : GoodIn wsX5_canBe wsX5_isPlace := goodIn_r _ [9, 10, 11, 4, 12] (by decide +kernel) (by decide +kernel)
set_option maxRecDepth 20000 in
theorem gX5_canBe_X5_isPlace : GoodIn wsX5_canBe (va_wsS RX5 56 yX5_isPlace wsX5_isPlace) := goodIn_app (goodIn_of _ (by decide +kernel)) ggX5_canBe_X5_isPlace
theorem dX5_canBe_0 : decode cX5_canBe 0 = .ok (.aload_n 0, 1) := by decide +kernel
theorem dX5_canBe_1 : decode cX5_canBe 1 = .ok (.iload_n 1, 1) := by decide +kernel
theorem dX5_canBe_2 : decode cX5_canBe 2 = .ok (.invokevirtual 94, 3) := by decide +kernel
theorem dX5_canBe_5 : decode cX5_canBe 5 = .ok (.ifCond .eq 22, 3) := by decide +kernel
theorem dX5_canBe_8 : decode cX5_canBe 8 = .ok (.aload_n 0, 1) := by decide +kernel
theorem dX5_canBe_9 : decode cX5_canBe 9 = .ok (.iload_n 2, 1) := by decide +kernel
theorem dX5_canBe_10 : decode cX5_canBe 10 = .ok (.invokevirtual 67, 3) := by decide +kernel
theorem dX5_canBe_13 : decode cX5_canBe 13 = .ok (.ifCond .eq 14, 3) := by decide +kernel
theorem dX5_canBe_16 : decode cX5_canBe 16 = .ok (.iload_n 3, 1) := by decide +kernel
theorem dX5_canBe_17 : decode cX5_canBe 17 = .ok (.invokestatic 56, 3) := by decide +kernel
theorem dX5_canBe_20 : decode cX5_canBe 20 = .ok (.ifCond .eq 7, 3) := by decide +kernel
theorem dX5_canBe_23 : decode cX5_canBe 23 = .ok (.iconst 1, 1) := by decide +kernel
theorem dX5_canBe_24 : decode cX5_canBe 24 = .ok (.goto 4, 3) := by decide +kernel
theorem dX5_canBe_27 : decode cX5_canBe 27 = .ok (.iconst 0, 1) := by decide +kernel
theorem dX5_canBe_28 : decode cX5_canBe 28 = .ok (.ireturn, 1) := by decide +kernel
set_option maxRecDepth 20000 in
theorem ggX5_thin_X5_canBe : GoodIn wsX5_thin wsX5_canBe := goodIn_r _ [8, 9, 10, 11, 7, 12, 13, 14, 15, 16, 17, 18, 19, 20, 21, 22, 23, 1, 39, 40, 41, 42, 43, 44, 45, 46, 47, 48, 49, 50, 51] (by decide +kernel) (by decide +kernel)
set_option maxRecDepth 20000 in
theorem gX5_thin_X5_canBe : GoodIn wsX5_thin (wsV RX5 97 RX5 yX5_canBe wsX5_canBe) := goodIn_app (goodIn_of _ (by decide +kernel)) ggX5_thin_X5_canBe
set_option maxRecDepth 20000 in
theorem ggX5_thin_X5_clear : GoodIn wsX5_thin wsX5_clear := goodIn_r _ [27, 2, 39, 40, 41, 42, 43, 44, 45, 46, 47, 48, 49, 50, 51] (by decide +kernel) (by decide +kernel)
set_option maxRecDepth 20000 in
theorem gX5_thin_X5_clear : GoodIn wsX5_thin (wsV RX5 83 RX5 yX5_clear wsX5_clear) := goodIn_app (goodIn_of _ (by decide +kernel)) ggX5_thin_X5_clear
set_option maxRecDepth 20000 in
theorem ggX5_thin_X5_sizeOf : GoodIn wsX5_thin wsX5_sizeOf := goodIn_r _ [30] (by decide +kernel) (by decide +kernel)
set_option maxRecDepth 20000 in
theorem gX5_thin_X5_sizeOf : GoodIn wsX5_thin (va_wsS RX5 63 yX5_sizeOf wsX5_sizeOf) := goodIn_app (goodIn_of _ (by decide +kernel)) ggX5_thin_X5_sizeOf
set_option maxRecDepth 20000 in
theorem ggX5_thin_X5_makes : GoodIn wsX5_thin wsX5_makes := goodIn_r _ [34, 1, 2, 35, 3, 13, 36, 37, 7, 38, 39, 40, 41, 42, 43, 44, 45, 46, 47, 48, 49, 50, 51] (by decide +kernel) (by decide +kernel)
set_option maxRecDepth 20000 in
theorem gX5_thin_X5_makes : GoodIn wsX5_thin (wsV RX5 86 RX5 yX5_makes wsX5_makes) := goodIn_app (goodIn_of _ (by decide +kernel)) ggX5_thin_X5_makes
theorem dX5_thin_0 : decode cX5_thin 0 = .ok (.aload_n 0, 1) := by decide +kernel
theorem dX5_thin_1 : decode cX5_thin 1 = .ok (.iload_n 1, 1) := by decide +kernel
theorem dX5_thin_2 : decode cX5_thin 2 = .ok (.iload_n 2, 1) := by decide +kernel
theorem dX5_thin_3 : decode cX5_thin 3 = .ok (.iload_n 3, 1) := by decide +kernel
theorem dX5_thin_4 : decode cX5_thin 4 = .ok (.invokevirtual 97, 3) := by decide +kernel
theorem dX5_thin_7 : decode cX5_thin 7 = .ok (.ifCond .ne 5, 3) := by decide +kernel
theorem dX5_thin_10 : decode cX5_thin 10 = .ok (.iconst 0, 1) := by decide +kernel
theorem dX5_thin_11 : decode cX5_thin 11 = .ok (.ireturn, 1) := by decide +kernel
theorem dX5_thin_12 : decode cX5_thin 12 = .ok (.aload_n 0, 1) := by decide +kernel
theorem dX5_thin_13 : decode cX5_thin 13 = .ok (.invokevirtual 83, 3) := by decide +kernel
theorem dX5_thin_16 : decode cX5_thin 16 = .ok (.iconst 0, 1) := by decide +kernel
theorem dX5_thin_17 : decode cX5_thin 17 = .ok (.istore 4, 2) := by decide +kernel
theorem dX5_thin_19 : decode cX5_thin 19 = .ok (.iload 4, 2) := by decide +kernel
theorem dX5_thin_21 : decode cX5_thin 21 = .ok (.aload_n 0, 1) := by decide +kernel
theorem dX5_thin_22 : decode cX5_thin 22 = .ok (.getfield 49, 3) := by decide +kernel
theorem dX5_thin_25 : decode cX5_thin 25 = .ok (.if_icmp .ge 89, 3) := by decide +kernel
theorem dX5_thin_28 : decode cX5_thin 28 = .ok (.iconst 0, 1) := by decide +kernel
theorem dX5_thin_29 : decode cX5_thin 29 = .ok (.istore 5, 2) := by decide +kernel
theorem dX5_thin_31 : decode cX5_thin 31 = .ok (.iload 5, 2) := by decide +kernel
theorem dX5_thin_33 : decode cX5_thin 33 = .ok (.aload_n 0, 1) := by decide +kernel
theorem dX5_thin_34 : decode cX5_thin 34 = .ok (.getfield 49, 3) := by decide +kernel
theorem dX5_thin_37 : decode cX5_thin 37 = .ok (.if_icmp .ge 71, 3) := by decide +kernel
theorem dX5_thin_40 : decode cX5_thin 40 = .ok (.iload 5, 2) := by decide +kernel
theorem dX5_thin_42 : decode cX5_thin 42 = .ok (.iload 4, 2) := by decide +kernel
theorem dX5_thin_44 : decode cX5_thin 44 = .ok (.iconst (-1), 1) := by decide +kernel
theorem dX5_thin_45 : decode cX5_thin 45 = .ok (.ixor, 1) := by decide +kernel
theorem dX5_thin_46 : decode cX5_thin 46 = .ok (.iand, 1) := by decide +kernel
theorem dX5_thin_47 : decode cX5_thin 47 = .ok (.ifCond .ne 55, 3) := by decide +kernel
theorem dX5_thin_50 : decode cX5_thin 50 = .ok (.iload 4, 2) := by decide +kernel
theorem dX5_thin_52 : decode cX5_thin 52 = .ok (.iload_n 2, 1) := by decide +kernel
theorem dX5_thin_53 : decode cX5_thin 53 = .ok (.iconst (-1), 1) := by decide +kernel
theorem dX5_thin_54 : decode cX5_thin 54 = .ok (.ixor, 1) := by decide +kernel
theorem dX5_thin_55 : decode cX5_thin 55 = .ok (.iand, 1) := by decide +kernel
theorem dX5_thin_56 : decode cX5_thin 56 = .ok (.iload 5, 2) := by decide +kernel
theorem dX5_thin_58 : decode cX5_thin 58 = .ok (.iconst (-1), 1) := by decide +kernel
theorem dX5_thin_59 : decode cX5_thin 59 = .ok (.ixor, 1) := by decide +kernel
theorem dX5_thin_60 : decode cX5_thin 60 = .ok (.iand, 1) := by decide +kernel
theorem dX5_thin_61 : decode cX5_thin 61 = .ok (.ifCond .eq 6, 3) := by decide +kernel
theorem dX5_thin_64 : decode cX5_thin 64 = .ok (.goto 38, 3) := by decide +kernel
theorem dX5_thin_67 : decode cX5_thin 67 = .ok (.aload_n 0, 1) := by decide +kernel
theorem dX5_thin_68 : decode cX5_thin 68 = .ok (.getfield 23, 3) := by decide +kernel
theorem dX5_thin_71 : decode cX5_thin 71 = .ok (.iload 5, 2) := by decide +kernel
theorem dX5_thin_73 : decode cX5_thin 73 = .ok (.dup2, 1) := by decide +kernel
theorem dX5_thin_74 : decode cX5_thin 74 = .ok (.laload, 1) := by decide +kernel
theorem dX5_thin_75 : decode cX5_thin 75 = .ok (.aload_n 0, 1) := by decide +kernel
theorem dX5_thin_76 : decode cX5_thin 76 = .ok (.getfield 20, 3) := by decide +kernel
theorem dX5_thin_79 : decode cX5_thin 79 = .ok (.bipush 64, 2) := by decide +kernel
theorem dX5_thin_81 : decode cX5_thin 81 = .ok (.iload_n 1, 1) := by decide +kernel
theorem dX5_thin_82 : decode cX5_thin 82 = .ok (.imul, 1) := by decide +kernel
theorem dX5_thin_83 : decode cX5_thin 83 = .ok (.iload 4, 2) := by decide +kernel
theorem dX5_thin_85 : decode cX5_thin 85 = .ok (.iadd, 1) := by decide +kernel
theorem dX5_thin_86 : decode cX5_thin 86 = .ok (.laload, 1) := by decide +kernel
theorem dX5_thin_87 : decode cX5_thin 87 = .ok (.iload_n 2, 1) := by decide +kernel
theorem dX5_thin_88 : decode cX5_thin 88 = .ok (.invokestatic 63, 3) := by decide +kernel
theorem dX5_thin_91 : decode cX5_thin 91 = .ok (.iload 4, 2) := by decide +kernel
theorem dX5_thin_93 : decode cX5_thin 93 = .ok (.iload_n 2, 1) := by decide +kernel
theorem dX5_thin_94 : decode cX5_thin 94 = .ok (.iand, 1) := by decide +kernel
theorem dX5_thin_95 : decode cX5_thin 95 = .ok (.invokestatic 63, 3) := by decide +kernel
theorem dX5_thin_98 : decode cX5_thin 98 = .ok (.isub, 1) := by decide +kernel
theorem dX5_thin_99 : decode cX5_thin 99 = .ok (.lshl, 1) := by decide +kernel
theorem dX5_thin_100 : decode cX5_thin 100 = .ok (.ladd, 1) := by decide +kernel
theorem dX5_thin_101 : decode cX5_thin 101 = .ok (.lastore, 1) := by decide +kernel
theorem dX5_thin_102 : decode cX5_thin 102 = .ok (.iinc 5 1, 3) := by decide +kernel
theorem dX5_thin_105 : decode cX5_thin 105 = .ok (.goto (-74), 3) := by decide +kernel
theorem dX5_thin_108 : decode cX5_thin 108 = .ok (.iinc 4 1, 3) := by decide +kernel
theorem dX5_thin_111 : decode cX5_thin 111 = .ok (.goto (-92), 3) := by decide +kernel
theorem dX5_thin_114 : decode cX5_thin 114 = .ok (.aload_n 0, 1) := by decide +kernel
theorem dX5_thin_115 : decode cX5_thin 115 = .ok (.iload_n 3, 1) := by decide +kernel
theorem dX5_thin_116 : decode cX5_thin 116 = .ok (.invokevirtual 86, 3) := by decide +kernel
theorem dX5_thin_119 : decode cX5_thin 119 = .ok (.ireturn, 1) := by decide +kernel
set_option maxRecDepth 20000 in
theorem ggX5_part_X5_canBe : GoodIn wsX5_part wsX5_canBe := goodIn_r _ [8, 9, 10, 11, 7, 12, 13, 14, 15, 16, 17, 18, 19, 20, 21, 22, 23, 1, 36, 37, 38, 39, 40, 41, 42, 43, 44, 45, 46, 47, 48] (by decide +kernel) (by decide +kernel)
set_option maxRecDepth 20000 in
theorem gX5_part_X5_canBe : GoodIn wsX5_part (wsV RX5 97 RX5 yX5_canBe wsX5_canBe) := goodIn_app (goodIn_of _ (by decide +kernel)) ggX5_part_X5_canBe
set_option maxRecDepth 20000 in
theorem ggX5_part_X5_clear : GoodIn wsX5_part wsX5_clear := goodIn_r _ [27, 2, 36, 37, 38, 39, 40, 41, 42, 43, 44, 45, 46, 47, 48] (by decide +kernel) (by decide +kernel)
set_option maxRecDepth 20000 in
theorem gX5_part_X5_clear : GoodIn wsX5_part (wsV RX5 83 RX5 yX5_clear wsX5_clear) := goodIn_app (goodIn_of _ (by decide +kernel)) ggX5_part_X5_clear
set_option maxRecDepth 20000 in
theorem ggX5_part_X5_makes : GoodIn wsX5_part wsX5_makes := goodIn_r _ [31, 1, 2, 32, 3, 13, 33, 34, 7, 35, 36, 37, 38, 39, 40, 41, 42, 43, 44, 45, 46, 47, 48] (by decide +kernel) (by decide +kernel)
set_option maxRecDepth 20000 in
theorem gX5_part_X5_makes : GoodIn wsX5_part (wsV RX5 86 RX5 yX5_makes wsX5_makes) := goodIn_app (goodIn_of _ (by decide +kernel)) ggX5_part_X5_makes
theorem dX5_part_0 : decode cX5_part 0 = .ok (.aload_n 0, 1) := by decide +kernel
theorem dX5_part_1 : decode cX5_part 1 = .ok (.iload_n 1, 1) := by decide +kernel
theorem dX5_part_2 : decode cX5_part 2 = .ok (.iload_n 2, 1) := by decide +kernel
theorem dX5_part_3 : decode cX5_part 3 = .ok (.iload_n 3, 1) := by decide +kernel
theorem dX5_part_4 : decode cX5_part 4 = .ok (.invokevirtual 97, 3) := by decide +kernel
theorem dX5_part_7 : decode cX5_part 7 = .ok (.ifCond .ne 5, 3) := by decide +kernel
theorem dX5_part_10 : decode cX5_part 10 = .ok (.iconst 0, 1) := by decide +kernel
theorem dX5_part_11 : decode cX5_part 11 = .ok (.ireturn, 1) := by decide +kernel
theorem dX5_part_12 : decode cX5_part 12 = .ok (.aload_n 0, 1) := by decide +kernel
theorem dX5_part_13 : decode cX5_part 13 = .ok (.invokevirtual 83, 3) := by decide +kernel
theorem dX5_part_16 : decode cX5_part 16 = .ok (.iconst 0, 1) := by decide +kernel
theorem dX5_part_17 : decode cX5_part 17 = .ok (.istore 4, 2) := by decide +kernel
theorem dX5_part_19 : decode cX5_part 19 = .ok (.iload 4, 2) := by decide +kernel
theorem dX5_part_21 : decode cX5_part 21 = .ok (.aload_n 0, 1) := by decide +kernel
theorem dX5_part_22 : decode cX5_part 22 = .ok (.getfield 49, 3) := by decide +kernel
theorem dX5_part_25 : decode cX5_part 25 = .ok (.if_icmp .ge 33, 3) := by decide +kernel
theorem dX5_part_28 : decode cX5_part 28 = .ok (.aload_n 0, 1) := by decide +kernel
theorem dX5_part_29 : decode cX5_part 29 = .ok (.getfield 23, 3) := by decide +kernel
theorem dX5_part_32 : decode cX5_part 32 = .ok (.iload 4, 2) := by decide +kernel
theorem dX5_part_34 : decode cX5_part 34 = .ok (.iload_n 2, 1) := by decide +kernel
theorem dX5_part_35 : decode cX5_part 35 = .ok (.iand, 1) := by decide +kernel
theorem dX5_part_36 : decode cX5_part 36 = .ok (.dup2, 1) := by decide +kernel
theorem dX5_part_37 : decode cX5_part 37 = .ok (.laload, 1) := by decide +kernel
theorem dX5_part_38 : decode cX5_part 38 = .ok (.aload_n 0, 1) := by decide +kernel
theorem dX5_part_39 : decode cX5_part 39 = .ok (.getfield 20, 3) := by decide +kernel
theorem dX5_part_42 : decode cX5_part 42 = .ok (.bipush 64, 2) := by decide +kernel
theorem dX5_part_44 : decode cX5_part 44 = .ok (.iload_n 1, 1) := by decide +kernel
theorem dX5_part_45 : decode cX5_part 45 = .ok (.imul, 1) := by decide +kernel
theorem dX5_part_46 : decode cX5_part 46 = .ok (.iload 4, 2) := by decide +kernel
theorem dX5_part_48 : decode cX5_part 48 = .ok (.iadd, 1) := by decide +kernel
theorem dX5_part_49 : decode cX5_part 49 = .ok (.laload, 1) := by decide +kernel
theorem dX5_part_50 : decode cX5_part 50 = .ok (.ladd, 1) := by decide +kernel
theorem dX5_part_51 : decode cX5_part 51 = .ok (.lastore, 1) := by decide +kernel
theorem dX5_part_52 : decode cX5_part 52 = .ok (.iinc 4 1, 3) := by decide +kernel
theorem dX5_part_55 : decode cX5_part 55 = .ok (.goto (-36), 3) := by decide +kernel
theorem dX5_part_58 : decode cX5_part 58 = .ok (.aload_n 0, 1) := by decide +kernel
theorem dX5_part_59 : decode cX5_part 59 = .ok (.iload_n 3, 1) := by decide +kernel
theorem dX5_part_60 : decode cX5_part 60 = .ok (.invokevirtual 86, 3) := by decide +kernel
theorem dX5_part_63 : decode cX5_part 63 = .ok (.ireturn, 1) := by decide +kernel
set_option maxRecDepth 20000 in
theorem ggX5_other_X5_canBe : GoodIn wsX5_other wsX5_canBe := goodIn_r _ [8, 9, 10, 11, 7, 12, 13, 14, 15, 16, 17, 18, 19, 20, 21, 22, 23, 1, 36, 37, 38, 39, 40, 41, 42, 43, 44, 45, 46, 47, 48] (by decide +kernel) (by decide +kernel)
set_option maxRecDepth 20000 in
theorem gX5_other_X5_canBe : GoodIn wsX5_other (wsV RX5 97 RX5 yX5_canBe wsX5_canBe) := goodIn_app (goodIn_of _ (by decide +kernel)) ggX5_other_X5_canBe
set_option maxRecDepth 20000 in
theorem ggX5_other_X5_clear : GoodIn wsX5_other wsX5_clear := goodIn_r _ [27, 2, 36, 37, 38, 39, 40, 41, 42, 43, 44, 45, 46, 47, 48] (by decide +kernel) (by decide +kernel)
set_option maxRecDepth 20000 in
theorem gX5_other_X5_clear : GoodIn wsX5_other (wsV RX5 83 RX5 yX5_clear wsX5_clear) := goodIn_app (goodIn_of _ (by decide +kernel)) ggX5_other_X5_clear
set_option maxRecDepth 20000 in
theorem ggX5_other_X5_makes : GoodIn wsX5_other wsX5_makes := goodIn_r _ [31, 1, 2, 32, 3, 13, 33, 34, 7, 35, 36, 37, 38, 39, 40, 41, 42, 43, 44, 45, 46, 47, 48] (by decide +kernel) (by decide +kernel)
set_option maxRecDepth 20000 in
theorem gX5_other_X5_makes : GoodIn wsX5_other (wsV RX5 86 RX5 yX5_makes wsX5_makes) := goodIn_app (goodIn_of _ (by decide +kernel)) ggX5_other_X5_makes
theorem dX5_other_0 : decode cX5_other 0 = .ok (.aload_n 0, 1) := by decide +kernel
theorem dX5_other_1 : decode cX5_other 1 = .ok (.iload_n 1, 1) := by decide +kernel
theorem dX5_other_2 : decode cX5_other 2 = .ok (.iload_n 2, 1) := by decide +kernel
theorem dX5_other_3 : decode cX5_other 3 = .ok (.iload_n 3, 1) := by decide +kernel
theorem dX5_other_4 : decode cX5_other 4 = .ok (.invokevirtual 97, 3) := by decide +kernel
theorem dX5_other_7 : decode cX5_other 7 = .ok (.ifCond .ne 5, 3) := by decide +kernel
theorem dX5_other_10 : decode cX5_other 10 = .ok (.iconst 0, 1) := by decide +kernel
theorem dX5_other_11 : decode cX5_other 11 = .ok (.ireturn, 1) := by decide +kernel
theorem dX5_other_12 : decode cX5_other 12 = .ok (.aload_n 0, 1) := by decide +kernel
theorem dX5_other_13 : decode cX5_other 13 = .ok (.invokevirtual 83, 3) := by decide +kernel
theorem dX5_other_16 : decode cX5_other 16 = .ok (.iconst 0, 1) := by decide +kernel
theorem dX5_other_17 : decode cX5_other 17 = .ok (.istore 4, 2) := by decide +kernel
theorem dX5_other_19 : decode cX5_other 19 = .ok (.iload 4, 2) := by decide +kernel
theorem dX5_other_21 : decode cX5_other 21 = .ok (.aload_n 0, 1) := by decide +kernel
theorem dX5_other_22 : decode cX5_other 22 = .ok (.getfield 49, 3) := by decide +kernel
theorem dX5_other_25 : decode cX5_other 25 = .ok (.if_icmp .ge 30, 3) := by decide +kernel
theorem dX5_other_28 : decode cX5_other 28 = .ok (.aload_n 0, 1) := by decide +kernel
theorem dX5_other_29 : decode cX5_other 29 = .ok (.getfield 23, 3) := by decide +kernel
theorem dX5_other_32 : decode cX5_other 32 = .ok (.iload 4, 2) := by decide +kernel
theorem dX5_other_34 : decode cX5_other 34 = .ok (.iload_n 2, 1) := by decide +kernel
theorem dX5_other_35 : decode cX5_other 35 = .ok (.ixor, 1) := by decide +kernel
theorem dX5_other_36 : decode cX5_other 36 = .ok (.aload_n 0, 1) := by decide +kernel
theorem dX5_other_37 : decode cX5_other 37 = .ok (.getfield 20, 3) := by decide +kernel
theorem dX5_other_40 : decode cX5_other 40 = .ok (.bipush 64, 2) := by decide +kernel
theorem dX5_other_42 : decode cX5_other 42 = .ok (.iload_n 1, 1) := by decide +kernel
theorem dX5_other_43 : decode cX5_other 43 = .ok (.imul, 1) := by decide +kernel
theorem dX5_other_44 : decode cX5_other 44 = .ok (.iload 4, 2) := by decide +kernel
theorem dX5_other_46 : decode cX5_other 46 = .ok (.iadd, 1) := by decide +kernel
theorem dX5_other_47 : decode cX5_other 47 = .ok (.laload, 1) := by decide +kernel
theorem dX5_other_48 : decode cX5_other 48 = .ok (.lastore, 1) := by decide +kernel
theorem dX5_other_49 : decode cX5_other 49 = .ok (.iinc 4 1, 3) := by decide +kernel
theorem dX5_other_52 : decode cX5_other 52 = .ok (.goto (-33), 3) := by decide +kernel
theorem dX5_other_55 : decode cX5_other 55 = .ok (.aload_n 0, 1) := by decide +kernel
theorem dX5_other_56 : decode cX5_other 56 = .ok (.iload_n 3, 1) := by decide +kernel
theorem dX5_other_57 : decode cX5_other 57 = .ok (.invokevirtual 86, 3) := by decide +kernel
theorem dX5_other_60 : decode cX5_other 60 = .ok (.ireturn, 1) := by decide +kernel
theorem dX5_sum_0 : decode cX5_sum 0 = .ok (.lconst 0, 1) := by decide +kernel
theorem dX5_sum_1 : decode cX5_sum 1 = .ok (.lstore_n 2, 1) := by decide +kernel
theorem dX5_sum_2 : decode cX5_sum 2 = .ok (.iconst 0, 1) := by decide +kernel
theorem dX5_sum_3 : decode cX5_sum 3 = .ok (.istore 4, 2) := by decide +kernel
theorem dX5_sum_5 : decode cX5_sum 5 = .ok (.iload 4, 2) := by decide +kernel
theorem dX5_sum_7 : decode cX5_sum 7 = .ok (.aload_n 0, 1) := by decide +kernel
theorem dX5_sum_8 : decode cX5_sum 8 = .ok (.getfield 49, 3) := by decide +kernel
theorem dX5_sum_11 : decode cX5_sum 11 = .ok (.if_icmp .ge 24, 3) := by decide +kernel
theorem dX5_sum_14 : decode cX5_sum 14 = .ok (.lload_n 2, 1) := by decide +kernel
theorem dX5_sum_15 : decode cX5_sum 15 = .ok (.aload_n 0, 1) := by decide +kernel
theorem dX5_sum_16 : decode cX5_sum 16 = .ok (.getfield 20, 3) := by decide +kernel
theorem dX5_sum_19 : decode cX5_sum 19 = .ok (.bipush 64, 2) := by decide +kernel
theorem dX5_sum_21 : decode cX5_sum 21 = .ok (.iload_n 1, 1) := by decide +kernel
theorem dX5_sum_22 : decode cX5_sum 22 = .ok (.imul, 1) := by decide +kernel
theorem dX5_sum_23 : decode cX5_sum 23 = .ok (.iload 4, 2) := by decide +kernel
theorem dX5_sum_25 : decode cX5_sum 25 = .ok (.iadd, 1) := by decide +kernel
theorem dX5_sum_26 : decode cX5_sum 26 = .ok (.laload, 1) := by decide +kernel
theorem dX5_sum_27 : decode cX5_sum 27 = .ok (.ladd, 1) := by decide +kernel
theorem dX5_sum_28 : decode cX5_sum 28 = .ok (.lstore_n 2, 1) := by decide +kernel
theorem dX5_sum_29 : decode cX5_sum 29 = .ok (.iinc 4 1, 3) := by decide +kernel
theorem dX5_sum_32 : decode cX5_sum 32 = .ok (.goto (-27), 3) := by decide +kernel
theorem dX5_sum_35 : decode cX5_sum 35 = .ok (.lload_n 2, 1) := by decide +kernel
theorem dX5_sum_36 : decode cX5_sum 36 = .ok (.lreturn, 1) := by decide +kernel
set_option maxRecDepth 20000 in
theorem ggX5_mix_X5_isLaw : GoodIn wsX5_mix wsX5_isLaw := goodIn_r _ [8, 9, 10, 11, 7, 12, 13, 14, 15, 32, 33, 34, 35, 36, 37, 38, 39, 40, 41, 42, 43, 44] (by decide +kernel) (by decide +kernel)
set_option maxRecDepth 20000 in
theorem gX5_mix_X5_isLaw : GoodIn wsX5_mix (wsV RX5 94 RX5 yX5_isLaw wsX5_isLaw) := goodIn_app (goodIn_of _ (by decide +kernel)) ggX5_mix_X5_isLaw
set_option maxRecDepth 20000 in
theorem ggX5_mix_X5_in : GoodIn wsX5_mix wsX5_in := goodIn_r _ [15] (by decide +kernel) (by decide +kernel)
set_option maxRecDepth 20000 in
theorem gX5_mix_X5_in : GoodIn wsX5_mix (va_wsS RX5 52 yX5_in wsX5_in) := goodIn_app (goodIn_of _ (by decide +kernel)) ggX5_mix_X5_in
set_option maxRecDepth 20000 in
theorem ggX5_mix_X5_isPlace : GoodIn wsX5_mix wsX5_isPlace := goodIn_r _ [12, 13, 14, 7, 15] (by decide +kernel) (by decide +kernel)
set_option maxRecDepth 20000 in
theorem gX5_mix_X5_isPlace : GoodIn wsX5_mix (va_wsS RX5 56 yX5_isPlace wsX5_isPlace) := goodIn_app (goodIn_of _ (by decide +kernel)) ggX5_mix_X5_isPlace
set_option maxRecDepth 20000 in
theorem ggX5_mix_X5_clear : GoodIn wsX5_mix wsX5_clear := goodIn_r _ [19, 2, 32, 33, 34, 35, 36, 37, 38, 39, 40, 41, 42, 43, 44] (by decide +kernel) (by decide +kernel)
set_option maxRecDepth 20000 in
theorem gX5_mix_X5_clear : GoodIn wsX5_mix (wsV RX5 83 RX5 yX5_clear wsX5_clear) := goodIn_app (goodIn_of _ (by decide +kernel)) ggX5_mix_X5_clear
set_option maxRecDepth 20000 in
theorem ggX5_mix_X5_sum : GoodIn wsX5_mix wsX5_sum := goodIn_r _ [23, 1, 3, 32, 33, 34, 35, 36, 37, 38, 39, 40, 41, 42, 43, 44] (by decide +kernel) (by decide +kernel)
set_option maxRecDepth 20000 in
theorem gX5_mix_X5_sum : GoodIn wsX5_mix (wsV RX5 100 RX5 yX5_sum wsX5_sum) := goodIn_app (goodIn_of _ (by decide +kernel)) ggX5_mix_X5_sum
set_option maxRecDepth 20000 in
theorem ggX5_mix_X5_makes : GoodIn wsX5_mix wsX5_makes := goodIn_r _ [27, 1, 2, 28, 3, 9, 29, 30, 7, 31, 32, 33, 34, 35, 36, 37, 38, 39, 40, 41, 42, 43, 44] (by decide +kernel) (by decide +kernel)
set_option maxRecDepth 20000 in
theorem gX5_mix_X5_makes : GoodIn wsX5_mix (wsV RX5 86 RX5 yX5_makes wsX5_makes) := goodIn_app (goodIn_of _ (by decide +kernel)) ggX5_mix_X5_makes
theorem dX5_mix_0 : decode cX5_mix 0 = .ok (.aload_n 0, 1) := by decide +kernel
theorem dX5_mix_1 : decode cX5_mix 1 = .ok (.iload_n 1, 1) := by decide +kernel
theorem dX5_mix_2 : decode cX5_mix 2 = .ok (.invokevirtual 94, 3) := by decide +kernel
theorem dX5_mix_5 : decode cX5_mix 5 = .ok (.ifCond .eq 40, 3) := by decide +kernel
theorem dX5_mix_8 : decode cX5_mix 8 = .ok (.aload_n 0, 1) := by decide +kernel
theorem dX5_mix_9 : decode cX5_mix 9 = .ok (.iload_n 2, 1) := by decide +kernel
theorem dX5_mix_10 : decode cX5_mix 10 = .ok (.invokevirtual 94, 3) := by decide +kernel
theorem dX5_mix_13 : decode cX5_mix 13 = .ok (.ifCond .eq 32, 3) := by decide +kernel
theorem dX5_mix_16 : decode cX5_mix 16 = .ok (.iload_n 3, 1) := by decide +kernel
theorem dX5_mix_17 : decode cX5_mix 17 = .ok (.iconst 1, 1) := by decide +kernel
theorem dX5_mix_18 : decode cX5_mix 18 = .ok (.bipush 9, 2) := by decide +kernel
theorem dX5_mix_20 : decode cX5_mix 20 = .ok (.invokestatic 52, 3) := by decide +kernel
theorem dX5_mix_23 : decode cX5_mix 23 = .ok (.ifCond .eq 22, 3) := by decide +kernel
theorem dX5_mix_26 : decode cX5_mix 26 = .ok (.iload 4, 2) := by decide +kernel
theorem dX5_mix_28 : decode cX5_mix 28 = .ok (.iconst 1, 1) := by decide +kernel
theorem dX5_mix_29 : decode cX5_mix 29 = .ok (.bipush 9, 2) := by decide +kernel
theorem dX5_mix_31 : decode cX5_mix 31 = .ok (.invokestatic 52, 3) := by decide +kernel
theorem dX5_mix_34 : decode cX5_mix 34 = .ok (.ifCond .eq 11, 3) := by decide +kernel
theorem dX5_mix_37 : decode cX5_mix 37 = .ok (.iload 5, 2) := by decide +kernel
theorem dX5_mix_39 : decode cX5_mix 39 = .ok (.invokestatic 56, 3) := by decide +kernel
theorem dX5_mix_42 : decode cX5_mix 42 = .ok (.ifCond .ne 5, 3) := by decide +kernel
theorem dX5_mix_45 : decode cX5_mix 45 = .ok (.iconst 0, 1) := by decide +kernel
theorem dX5_mix_46 : decode cX5_mix 46 = .ok (.ireturn, 1) := by decide +kernel
theorem dX5_mix_47 : decode cX5_mix 47 = .ok (.aload_n 0, 1) := by decide +kernel
theorem dX5_mix_48 : decode cX5_mix 48 = .ok (.invokevirtual 83, 3) := by decide +kernel
theorem dX5_mix_51 : decode cX5_mix 51 = .ok (.iconst 0, 1) := by decide +kernel
theorem dX5_mix_52 : decode cX5_mix 52 = .ok (.istore 6, 2) := by decide +kernel
theorem dX5_mix_54 : decode cX5_mix 54 = .ok (.iload 6, 2) := by decide +kernel
theorem dX5_mix_56 : decode cX5_mix 56 = .ok (.aload_n 0, 1) := by decide +kernel
theorem dX5_mix_57 : decode cX5_mix 57 = .ok (.getfield 49, 3) := by decide +kernel
theorem dX5_mix_60 : decode cX5_mix 60 = .ok (.if_icmp .ge 60, 3) := by decide +kernel
theorem dX5_mix_63 : decode cX5_mix 63 = .ok (.aload_n 0, 1) := by decide +kernel
theorem dX5_mix_64 : decode cX5_mix 64 = .ok (.getfield 23, 3) := by decide +kernel
theorem dX5_mix_67 : decode cX5_mix 67 = .ok (.iload 6, 2) := by decide +kernel
theorem dX5_mix_69 : decode cX5_mix 69 = .ok (.aload_n 0, 1) := by decide +kernel
theorem dX5_mix_70 : decode cX5_mix 70 = .ok (.getfield 20, 3) := by decide +kernel
theorem dX5_mix_73 : decode cX5_mix 73 = .ok (.bipush 64, 2) := by decide +kernel
theorem dX5_mix_75 : decode cX5_mix 75 = .ok (.iload_n 1, 1) := by decide +kernel
theorem dX5_mix_76 : decode cX5_mix 76 = .ok (.imul, 1) := by decide +kernel
theorem dX5_mix_77 : decode cX5_mix 77 = .ok (.iload 6, 2) := by decide +kernel
theorem dX5_mix_79 : decode cX5_mix 79 = .ok (.iadd, 1) := by decide +kernel
theorem dX5_mix_80 : decode cX5_mix 80 = .ok (.laload, 1) := by decide +kernel
theorem dX5_mix_81 : decode cX5_mix 81 = .ok (.iload_n 3, 1) := by decide +kernel
theorem dX5_mix_82 : decode cX5_mix 82 = .ok (.i2l, 1) := by decide +kernel
theorem dX5_mix_83 : decode cX5_mix 83 = .ok (.lmul, 1) := by decide +kernel
theorem dX5_mix_84 : decode cX5_mix 84 = .ok (.aload_n 0, 1) := by decide +kernel
theorem dX5_mix_85 : decode cX5_mix 85 = .ok (.iload_n 2, 1) := by decide +kernel
theorem dX5_mix_86 : decode cX5_mix 86 = .ok (.invokevirtual 100, 3) := by decide +kernel
theorem dX5_mix_89 : decode cX5_mix 89 = .ok (.lmul, 1) := by decide +kernel
theorem dX5_mix_90 : decode cX5_mix 90 = .ok (.aload_n 0, 1) := by decide +kernel
theorem dX5_mix_91 : decode cX5_mix 91 = .ok (.getfield 20, 3) := by decide +kernel
theorem dX5_mix_94 : decode cX5_mix 94 = .ok (.bipush 64, 2) := by decide +kernel
theorem dX5_mix_96 : decode cX5_mix 96 = .ok (.iload_n 2, 1) := by decide +kernel
theorem dX5_mix_97 : decode cX5_mix 97 = .ok (.imul, 1) := by decide +kernel
theorem dX5_mix_98 : decode cX5_mix 98 = .ok (.iload 6, 2) := by decide +kernel
theorem dX5_mix_100 : decode cX5_mix 100 = .ok (.iadd, 1) := by decide +kernel
theorem dX5_mix_101 : decode cX5_mix 101 = .ok (.laload, 1) := by decide +kernel
theorem dX5_mix_102 : decode cX5_mix 102 = .ok (.iload 4, 2) := by decide +kernel
theorem dX5_mix_104 : decode cX5_mix 104 = .ok (.i2l, 1) := by decide +kernel
theorem dX5_mix_105 : decode cX5_mix 105 = .ok (.lmul, 1) := by decide +kernel
theorem dX5_mix_106 : decode cX5_mix 106 = .ok (.aload_n 0, 1) := by decide +kernel
theorem dX5_mix_107 : decode cX5_mix 107 = .ok (.iload_n 1, 1) := by decide +kernel
theorem dX5_mix_108 : decode cX5_mix 108 = .ok (.invokevirtual 100, 3) := by decide +kernel
theorem dX5_mix_111 : decode cX5_mix 111 = .ok (.lmul, 1) := by decide +kernel
theorem dX5_mix_112 : decode cX5_mix 112 = .ok (.ladd, 1) := by decide +kernel
theorem dX5_mix_113 : decode cX5_mix 113 = .ok (.lastore, 1) := by decide +kernel
theorem dX5_mix_114 : decode cX5_mix 114 = .ok (.iinc 6 1, 3) := by decide +kernel
theorem dX5_mix_117 : decode cX5_mix 117 = .ok (.goto (-63), 3) := by decide +kernel
theorem dX5_mix_120 : decode cX5_mix 120 = .ok (.aload_n 0, 1) := by decide +kernel
theorem dX5_mix_121 : decode cX5_mix 121 = .ok (.iload 5, 2) := by decide +kernel
theorem dX5_mix_123 : decode cX5_mix 123 = .ok (.invokevirtual 86, 3) := by decide +kernel
theorem dX5_mix_126 : decode cX5_mix 126 = .ok (.ireturn, 1) := by decide +kernel
set_option maxRecDepth 20000 in
theorem ggX5_share_X5_isLaw : GoodIn wsX5_share wsX5_isLaw := goodIn_r _ [7, 8, 9, 10, 6, 11, 12, 13, 14, 20, 21, 22, 23, 24, 25, 26, 27, 28, 29, 30, 31, 32] (by decide +kernel) (by decide +kernel)
set_option maxRecDepth 20000 in
theorem gX5_share_X5_isLaw : GoodIn wsX5_share (wsV RX5 94 RX5 yX5_isLaw wsX5_isLaw) := goodIn_app (goodIn_of _ (by decide +kernel)) ggX5_share_X5_isLaw
set_option maxRecDepth 20000 in
theorem ggX5_share_X5_isSet : GoodIn wsX5_share wsX5_isSet := goodIn_r _ [18, 19, 12, 13, 6, 14, 20, 21, 22, 23, 24, 25, 26, 27, 28, 29, 30, 31, 32] (by decide +kernel) (by decide +kernel)
set_option maxRecDepth 20000 in
theorem gX5_share_X5_isSet : GoodIn wsX5_share (wsV RX5 67 RX5 yX5_isSet wsX5_isSet) := goodIn_app (goodIn_of _ (by decide +kernel)) ggX5_share_X5_isSet
theorem dX5_share_0 : decode cX5_share 0 = .ok (.aload_n 0, 1) := by decide +kernel
theorem dX5_share_1 : decode cX5_share 1 = .ok (.iload_n 1, 1) := by decide +kernel
theorem dX5_share_2 : decode cX5_share 2 = .ok (.invokevirtual 94, 3) := by decide +kernel
theorem dX5_share_5 : decode cX5_share 5 = .ok (.ifCond .eq 25, 3) := by decide +kernel
theorem dX5_share_8 : decode cX5_share 8 = .ok (.aload_n 0, 1) := by decide +kernel
theorem dX5_share_9 : decode cX5_share 9 = .ok (.iload_n 2, 1) := by decide +kernel
theorem dX5_share_10 : decode cX5_share 10 = .ok (.invokevirtual 67, 3) := by decide +kernel
theorem dX5_share_13 : decode cX5_share 13 = .ok (.ifCond .eq 17, 3) := by decide +kernel
theorem dX5_share_16 : decode cX5_share 16 = .ok (.aload_n 0, 1) := by decide +kernel
theorem dX5_share_17 : decode cX5_share 17 = .ok (.getfield 20, 3) := by decide +kernel
theorem dX5_share_20 : decode cX5_share 20 = .ok (.bipush 64, 2) := by decide +kernel
theorem dX5_share_22 : decode cX5_share 22 = .ok (.iload_n 1, 1) := by decide +kernel
theorem dX5_share_23 : decode cX5_share 23 = .ok (.imul, 1) := by decide +kernel
theorem dX5_share_24 : decode cX5_share 24 = .ok (.iload_n 2, 1) := by decide +kernel
theorem dX5_share_25 : decode cX5_share 25 = .ok (.iadd, 1) := by decide +kernel
theorem dX5_share_26 : decode cX5_share 26 = .ok (.laload, 1) := by decide +kernel
theorem dX5_share_27 : decode cX5_share 27 = .ok (.goto 6, 3) := by decide +kernel
theorem dX5_share_30 : decode cX5_share 30 = .ok (.ldc2_w 104, 3) := by decide +kernel
theorem dX5_share_33 : decode cX5_share 33 = .ok (.lreturn, 1) := by decide +kernel
set_option maxRecDepth 20000 in
theorem ggX5_fraction_X5_common : GoodIn wsX5_fraction wsX5_common := goodIn_r _ [4] (by decide +kernel) (by decide +kernel)
set_option maxRecDepth 20000 in
theorem gX5_fraction_X5_common : GoodIn wsX5_fraction (va_wsS RX5 74 yX5_common wsX5_common) := goodIn_app (goodIn_of _ (by decide +kernel)) ggX5_fraction_X5_common
theorem dX5_fraction_0 : decode cX5_fraction 0 = .ok (.lload_n 2, 1) := by decide +kernel
theorem dX5_fraction_1 : decode cX5_fraction 1 = .ok (.lload_n 0, 1) := by decide +kernel
theorem dX5_fraction_2 : decode cX5_fraction 2 = .ok (.lconst 0, 1) := by decide +kernel
theorem dX5_fraction_3 : decode cX5_fraction 3 = .ok (.lcmp, 1) := by decide +kernel
theorem dX5_fraction_4 : decode cX5_fraction 4 = .ok (.ifCond .ge 8, 3) := by decide +kernel
theorem dX5_fraction_7 : decode cX5_fraction 7 = .ok (.lload_n 0, 1) := by decide +kernel
theorem dX5_fraction_8 : decode cX5_fraction 8 = .ok (.lneg, 1) := by decide +kernel
theorem dX5_fraction_9 : decode cX5_fraction 9 = .ok (.goto 4, 3) := by decide +kernel
theorem dX5_fraction_12 : decode cX5_fraction 12 = .ok (.lload_n 0, 1) := by decide +kernel
theorem dX5_fraction_13 : decode cX5_fraction 13 = .ok (.invokestatic 74, 3) := by decide +kernel
theorem dX5_fraction_16 : decode cX5_fraction 16 = .ok (.lstore 5, 2) := by decide +kernel
theorem dX5_fraction_18 : decode cX5_fraction 18 = .ok (.iload 4, 2) := by decide +kernel
theorem dX5_fraction_20 : decode cX5_fraction 20 = .ok (.ifCond .ne 10, 3) := by decide +kernel
theorem dX5_fraction_23 : decode cX5_fraction 23 = .ok (.lload_n 0, 1) := by decide +kernel
theorem dX5_fraction_24 : decode cX5_fraction 24 = .ok (.lload 5, 2) := by decide +kernel
theorem dX5_fraction_26 : decode cX5_fraction 26 = .ok (.ldiv, 1) := by decide +kernel
theorem dX5_fraction_27 : decode cX5_fraction 27 = .ok (.goto 7, 3) := by decide +kernel
theorem dX5_fraction_30 : decode cX5_fraction 30 = .ok (.lload_n 2, 1) := by decide +kernel
theorem dX5_fraction_31 : decode cX5_fraction 31 = .ok (.lload 5, 2) := by decide +kernel
theorem dX5_fraction_33 : decode cX5_fraction 33 = .ok (.ldiv, 1) := by decide +kernel
theorem dX5_fraction_34 : decode cX5_fraction 34 = .ok (.lreturn, 1) := by decide +kernel
set_option maxRecDepth 20000 in
theorem ggX5_isWhat_X5_in : GoodIn wsX5_isWhat wsX5_in := goodIn_r _ [4] (by decide +kernel) (by decide +kernel)
set_option maxRecDepth 20000 in
theorem gX5_isWhat_X5_in : GoodIn wsX5_isWhat (va_wsS RX5 52 yX5_in wsX5_in) := goodIn_app (goodIn_of _ (by decide +kernel)) ggX5_isWhat_X5_in
theorem dX5_isWhat_0 : decode cX5_isWhat 0 = .ok (.iload_n 0, 1) := by decide +kernel
theorem dX5_isWhat_1 : decode cX5_isWhat 1 = .ok (.iconst 0, 1) := by decide +kernel
theorem dX5_isWhat_2 : decode cX5_isWhat 2 = .ok (.iconst 1, 1) := by decide +kernel
theorem dX5_isWhat_3 : decode cX5_isWhat 3 = .ok (.invokestatic 52, 3) := by decide +kernel
theorem dX5_isWhat_6 : decode cX5_isWhat 6 = .ok (.ireturn, 1) := by decide +kernel
set_option maxRecDepth 20000 in
theorem ggX5_chance_X5_isLaw : GoodIn wsX5_chance wsX5_isLaw := goodIn_r _ [7, 8, 9, 10, 6, 11, 12, 13, 14, 33, 34, 35, 36, 37, 38, 39, 40, 41, 42, 43, 44, 45] (by decide +kernel) (by decide +kernel)
set_option maxRecDepth 20000 in
theorem gX5_chance_X5_isLaw : GoodIn wsX5_chance (wsV RX5 94 RX5 yX5_isLaw wsX5_isLaw) := goodIn_app (goodIn_of _ (by decide +kernel)) ggX5_chance_X5_isLaw
set_option maxRecDepth 20000 in
theorem ggX5_chance_X5_isSet : GoodIn wsX5_chance wsX5_isSet := goodIn_r _ [18, 19, 12, 13, 6, 14, 33, 34, 35, 36, 37, 38, 39, 40, 41, 42, 43, 44, 45] (by decide +kernel) (by decide +kernel)
set_option maxRecDepth 20000 in
theorem gX5_chance_X5_isSet : GoodIn wsX5_chance (wsV RX5 67 RX5 yX5_isSet wsX5_isSet) := goodIn_app (goodIn_of _ (by decide +kernel)) ggX5_chance_X5_isSet
set_option maxRecDepth 20000 in
theorem ggX5_chance_X5_isWhat : GoodIn wsX5_chance wsX5_isWhat := goodIn_r _ [22, 12, 13, 6, 14] (by decide +kernel) (by decide +kernel)
set_option maxRecDepth 20000 in
theorem gX5_chance_X5_isWhat : GoodIn wsX5_chance (va_wsS RX5 106 yX5_isWhat wsX5_isWhat) := goodIn_app (goodIn_of _ (by decide +kernel)) ggX5_chance_X5_isWhat
set_option maxRecDepth 20000 in
theorem ggX5_chance_X5_sum : GoodIn wsX5_chance wsX5_sum := goodIn_r _ [26, 19, 1, 33, 34, 35, 36, 37, 38, 39, 40, 41, 42, 43, 44, 45] (by decide +kernel) (by decide +kernel)
set_option maxRecDepth 20000 in
theorem gX5_chance_X5_sum : GoodIn wsX5_chance (wsV RX5 100 RX5 yX5_sum wsX5_sum) := goodIn_app (goodIn_of _ (by decide +kernel)) ggX5_chance_X5_sum
set_option maxRecDepth 20000 in
theorem ggX5_chance_X5_fraction : GoodIn wsX5_chance wsX5_fraction := goodIn_r _ [29, 30, 31, 6, 32] (by decide +kernel) (by decide +kernel)
set_option maxRecDepth 20000 in
theorem gX5_chance_X5_fraction : GoodIn wsX5_chance (va_wsS RX5 109 yX5_fraction wsX5_fraction) := goodIn_app (goodIn_of _ (by decide +kernel)) ggX5_chance_X5_fraction
theorem dX5_chance_0 : decode cX5_chance 0 = .ok (.aload_n 0, 1) := by decide +kernel
theorem dX5_chance_1 : decode cX5_chance 1 = .ok (.iload_n 1, 1) := by decide +kernel
theorem dX5_chance_2 : decode cX5_chance 2 = .ok (.invokevirtual 94, 3) := by decide +kernel
theorem dX5_chance_5 : decode cX5_chance 5 = .ok (.ifCond .eq 41, 3) := by decide +kernel
theorem dX5_chance_8 : decode cX5_chance 8 = .ok (.aload_n 0, 1) := by decide +kernel
theorem dX5_chance_9 : decode cX5_chance 9 = .ok (.iload_n 2, 1) := by decide +kernel
theorem dX5_chance_10 : decode cX5_chance 10 = .ok (.invokevirtual 67, 3) := by decide +kernel
theorem dX5_chance_13 : decode cX5_chance 13 = .ok (.ifCond .eq 33, 3) := by decide +kernel
theorem dX5_chance_16 : decode cX5_chance 16 = .ok (.iload_n 3, 1) := by decide +kernel
theorem dX5_chance_17 : decode cX5_chance 17 = .ok (.invokestatic 106, 3) := by decide +kernel
theorem dX5_chance_20 : decode cX5_chance 20 = .ok (.ifCond .eq 26, 3) := by decide +kernel
theorem dX5_chance_23 : decode cX5_chance 23 = .ok (.aload_n 0, 1) := by decide +kernel
theorem dX5_chance_24 : decode cX5_chance 24 = .ok (.getfield 20, 3) := by decide +kernel
theorem dX5_chance_27 : decode cX5_chance 27 = .ok (.bipush 64, 2) := by decide +kernel
theorem dX5_chance_29 : decode cX5_chance 29 = .ok (.iload_n 1, 1) := by decide +kernel
theorem dX5_chance_30 : decode cX5_chance 30 = .ok (.imul, 1) := by decide +kernel
theorem dX5_chance_31 : decode cX5_chance 31 = .ok (.iload_n 2, 1) := by decide +kernel
theorem dX5_chance_32 : decode cX5_chance 32 = .ok (.iadd, 1) := by decide +kernel
theorem dX5_chance_33 : decode cX5_chance 33 = .ok (.laload, 1) := by decide +kernel
theorem dX5_chance_34 : decode cX5_chance 34 = .ok (.aload_n 0, 1) := by decide +kernel
theorem dX5_chance_35 : decode cX5_chance 35 = .ok (.iload_n 1, 1) := by decide +kernel
theorem dX5_chance_36 : decode cX5_chance 36 = .ok (.invokevirtual 100, 3) := by decide +kernel
theorem dX5_chance_39 : decode cX5_chance 39 = .ok (.iload_n 3, 1) := by decide +kernel
theorem dX5_chance_40 : decode cX5_chance 40 = .ok (.invokestatic 109, 3) := by decide +kernel
theorem dX5_chance_43 : decode cX5_chance 43 = .ok (.goto 6, 3) := by decide +kernel
theorem dX5_chance_46 : decode cX5_chance 46 = .ok (.ldc2_w 104, 3) := by decide +kernel
theorem dX5_chance_49 : decode cX5_chance 49 = .ok (.lreturn, 1) := by decide +kernel
theorem dX5_sumOf_0 : decode cX5_sumOf 0 = .ok (.lconst 0, 1) := by decide +kernel
theorem dX5_sumOf_1 : decode cX5_sumOf 1 = .ok (.lstore 4, 2) := by decide +kernel
theorem dX5_sumOf_3 : decode cX5_sumOf 3 = .ok (.iconst 0, 1) := by decide +kernel
theorem dX5_sumOf_4 : decode cX5_sumOf 4 = .ok (.istore 6, 2) := by decide +kernel
theorem dX5_sumOf_6 : decode cX5_sumOf 6 = .ok (.iload 6, 2) := by decide +kernel
theorem dX5_sumOf_8 : decode cX5_sumOf 8 = .ok (.aload_n 0, 1) := by decide +kernel
theorem dX5_sumOf_9 : decode cX5_sumOf 9 = .ok (.getfield 49, 3) := by decide +kernel
theorem dX5_sumOf_12 : decode cX5_sumOf 12 = .ok (.if_icmp .ge 41, 3) := by decide +kernel
theorem dX5_sumOf_15 : decode cX5_sumOf 15 = .ok (.iload 6, 2) := by decide +kernel
theorem dX5_sumOf_17 : decode cX5_sumOf 17 = .ok (.iload_n 2, 1) := by decide +kernel
theorem dX5_sumOf_18 : decode cX5_sumOf 18 = .ok (.iand, 1) := by decide +kernel
theorem dX5_sumOf_19 : decode cX5_sumOf 19 = .ok (.iload_n 2, 1) := by decide +kernel
theorem dX5_sumOf_20 : decode cX5_sumOf 20 = .ok (.if_icmp .ne 27, 3) := by decide +kernel
theorem dX5_sumOf_23 : decode cX5_sumOf 23 = .ok (.iload 6, 2) := by decide +kernel
theorem dX5_sumOf_25 : decode cX5_sumOf 25 = .ok (.iload_n 3, 1) := by decide +kernel
theorem dX5_sumOf_26 : decode cX5_sumOf 26 = .ok (.iand, 1) := by decide +kernel
theorem dX5_sumOf_27 : decode cX5_sumOf 27 = .ok (.ifCond .ne 20, 3) := by decide +kernel
theorem dX5_sumOf_30 : decode cX5_sumOf 30 = .ok (.lload 4, 2) := by decide +kernel
theorem dX5_sumOf_32 : decode cX5_sumOf 32 = .ok (.aload_n 0, 1) := by decide +kernel
theorem dX5_sumOf_33 : decode cX5_sumOf 33 = .ok (.getfield 20, 3) := by decide +kernel
theorem dX5_sumOf_36 : decode cX5_sumOf 36 = .ok (.bipush 64, 2) := by decide +kernel
theorem dX5_sumOf_38 : decode cX5_sumOf 38 = .ok (.iload_n 1, 1) := by decide +kernel
theorem dX5_sumOf_39 : decode cX5_sumOf 39 = .ok (.imul, 1) := by decide +kernel
theorem dX5_sumOf_40 : decode cX5_sumOf 40 = .ok (.iload 6, 2) := by decide +kernel
theorem dX5_sumOf_42 : decode cX5_sumOf 42 = .ok (.iadd, 1) := by decide +kernel
theorem dX5_sumOf_43 : decode cX5_sumOf 43 = .ok (.laload, 1) := by decide +kernel
theorem dX5_sumOf_44 : decode cX5_sumOf 44 = .ok (.ladd, 1) := by decide +kernel
theorem dX5_sumOf_45 : decode cX5_sumOf 45 = .ok (.lstore 4, 2) := by decide +kernel
theorem dX5_sumOf_47 : decode cX5_sumOf 47 = .ok (.iinc 6 1, 3) := by decide +kernel
theorem dX5_sumOf_50 : decode cX5_sumOf 50 = .ok (.goto (-44), 3) := by decide +kernel
theorem dX5_sumOf_53 : decode cX5_sumOf 53 = .ok (.lload 4, 2) := by decide +kernel
theorem dX5_sumOf_55 : decode cX5_sumOf 55 = .ok (.lreturn, 1) := by decide +kernel
set_option maxRecDepth 20000 in
theorem ggX5_within_X5_isLaw : GoodIn wsX5_within wsX5_isLaw := goodIn_r _ [6, 7, 8, 9, 5, 10, 11, 12, 13, 37, 38, 39, 40, 41, 42, 43, 44, 45, 46, 47, 48, 49] (by decide +kernel) (by decide +kernel)
set_option maxRecDepth 20000 in
theorem gX5_within_X5_isLaw : GoodIn wsX5_within (wsV RX5 94 RX5 yX5_isLaw wsX5_isLaw) := goodIn_app (goodIn_of _ (by decide +kernel)) ggX5_within_X5_isLaw
set_option maxRecDepth 20000 in
theorem ggX5_within_X5_isSet : GoodIn wsX5_within wsX5_isSet := goodIn_r _ [17, 18, 11, 12, 5, 13, 37, 38, 39, 40, 41, 42, 43, 44, 45, 46, 47, 48, 49] (by decide +kernel) (by decide +kernel)
set_option maxRecDepth 20000 in
theorem gX5_within_X5_isSet : GoodIn wsX5_within (wsV RX5 67 RX5 yX5_isSet wsX5_isSet) := goodIn_app (goodIn_of _ (by decide +kernel)) ggX5_within_X5_isSet
set_option maxRecDepth 20000 in
theorem ggX5_within_X5_isWhat : GoodIn wsX5_within wsX5_isWhat := goodIn_r _ [21, 11, 12, 5, 13] (by decide +kernel) (by decide +kernel)
set_option maxRecDepth 20000 in
theorem gX5_within_X5_isWhat : GoodIn wsX5_within (va_wsS RX5 106 yX5_isWhat wsX5_isWhat) := goodIn_app (goodIn_of _ (by decide +kernel)) ggX5_within_X5_isWhat
set_option maxRecDepth 20000 in
theorem ggX5_within_X5_sumOf : GoodIn wsX5_within wsX5_sumOf := goodIn_r _ [25, 18, 26, 37, 38, 39, 40, 41, 42, 43, 44, 45, 46, 47, 48, 49] (by decide +kernel) (by decide +kernel)
set_option maxRecDepth 20000 in
theorem gX5_within_X5_sumOf : GoodIn wsX5_within (wsV RX5 113 RX5 yX5_sumOf wsX5_sumOf) := goodIn_app (goodIn_of _ (by decide +kernel)) ggX5_within_X5_sumOf
set_option maxRecDepth 20000 in
theorem ggX5_within_X5_sum : GoodIn wsX5_within wsX5_sum := goodIn_r _ [30, 18, 26, 37, 38, 39, 40, 41, 42, 43, 44, 45, 46, 47, 48, 49] (by decide +kernel) (by decide +kernel)
set_option maxRecDepth 20000 in
theorem gX5_within_X5_sum : GoodIn wsX5_within (wsV RX5 100 RX5 yX5_sum wsX5_sum) := goodIn_app (goodIn_of _ (by decide +kernel)) ggX5_within_X5_sum
set_option maxRecDepth 20000 in
theorem ggX5_within_X5_fraction : GoodIn wsX5_within wsX5_fraction := goodIn_r _ [33, 34, 35, 5, 36] (by decide +kernel) (by decide +kernel)
set_option maxRecDepth 20000 in
theorem gX5_within_X5_fraction : GoodIn wsX5_within (va_wsS RX5 109 yX5_fraction wsX5_fraction) := goodIn_app (goodIn_of _ (by decide +kernel)) ggX5_within_X5_fraction
theorem dX5_within_0 : decode cX5_within 0 = .ok (.aload_n 0, 1) := by decide +kernel
theorem dX5_within_1 : decode cX5_within 1 = .ok (.iload_n 1, 1) := by decide +kernel
theorem dX5_within_2 : decode cX5_within 2 = .ok (.invokevirtual 94, 3) := by decide +kernel
theorem dX5_within_5 : decode cX5_within 5 = .ok (.ifCond .eq 37, 3) := by decide +kernel
theorem dX5_within_8 : decode cX5_within 8 = .ok (.aload_n 0, 1) := by decide +kernel
theorem dX5_within_9 : decode cX5_within 9 = .ok (.iload_n 2, 1) := by decide +kernel
theorem dX5_within_10 : decode cX5_within 10 = .ok (.invokevirtual 67, 3) := by decide +kernel
theorem dX5_within_13 : decode cX5_within 13 = .ok (.ifCond .eq 29, 3) := by decide +kernel
theorem dX5_within_16 : decode cX5_within 16 = .ok (.iload_n 3, 1) := by decide +kernel
theorem dX5_within_17 : decode cX5_within 17 = .ok (.invokestatic 106, 3) := by decide +kernel
theorem dX5_within_20 : decode cX5_within 20 = .ok (.ifCond .eq 22, 3) := by decide +kernel
theorem dX5_within_23 : decode cX5_within 23 = .ok (.aload_n 0, 1) := by decide +kernel
theorem dX5_within_24 : decode cX5_within 24 = .ok (.iload_n 1, 1) := by decide +kernel
theorem dX5_within_25 : decode cX5_within 25 = .ok (.iload_n 2, 1) := by decide +kernel
theorem dX5_within_26 : decode cX5_within 26 = .ok (.iconst 0, 1) := by decide +kernel
theorem dX5_within_27 : decode cX5_within 27 = .ok (.invokevirtual 113, 3) := by decide +kernel
theorem dX5_within_30 : decode cX5_within 30 = .ok (.aload_n 0, 1) := by decide +kernel
theorem dX5_within_31 : decode cX5_within 31 = .ok (.iload_n 1, 1) := by decide +kernel
theorem dX5_within_32 : decode cX5_within 32 = .ok (.invokevirtual 100, 3) := by decide +kernel
theorem dX5_within_35 : decode cX5_within 35 = .ok (.iload_n 3, 1) := by decide +kernel
theorem dX5_within_36 : decode cX5_within 36 = .ok (.invokestatic 109, 3) := by decide +kernel
theorem dX5_within_39 : decode cX5_within 39 = .ok (.goto 6, 3) := by decide +kernel
theorem dX5_within_42 : decode cX5_within 42 = .ok (.ldc2_w 104, 3) := by decide +kernel
theorem dX5_within_45 : decode cX5_within 45 = .ok (.lreturn, 1) := by decide +kernel
set_option maxRecDepth 20000 in
theorem ggX5_out_X5_isLaw : GoodIn wsX5_out wsX5_isLaw := goodIn_r _ [6, 7, 8, 9, 5, 10, 11, 12, 13, 37, 38, 39, 40, 41, 42, 43, 44, 45, 46, 47, 48, 49] (by decide +kernel) (by decide +kernel)
set_option maxRecDepth 20000 in
theorem gX5_out_X5_isLaw : GoodIn wsX5_out (wsV RX5 94 RX5 yX5_isLaw wsX5_isLaw) := goodIn_app (goodIn_of _ (by decide +kernel)) ggX5_out_X5_isLaw
set_option maxRecDepth 20000 in
theorem ggX5_out_X5_isSet : GoodIn wsX5_out wsX5_isSet := goodIn_r _ [17, 18, 11, 12, 5, 13, 37, 38, 39, 40, 41, 42, 43, 44, 45, 46, 47, 48, 49] (by decide +kernel) (by decide +kernel)
set_option maxRecDepth 20000 in
theorem gX5_out_X5_isSet : GoodIn wsX5_out (wsV RX5 67 RX5 yX5_isSet wsX5_isSet) := goodIn_app (goodIn_of _ (by decide +kernel)) ggX5_out_X5_isSet
set_option maxRecDepth 20000 in
theorem ggX5_out_X5_isWhat : GoodIn wsX5_out wsX5_isWhat := goodIn_r _ [21, 11, 12, 5, 13] (by decide +kernel) (by decide +kernel)
set_option maxRecDepth 20000 in
theorem gX5_out_X5_isWhat : GoodIn wsX5_out (va_wsS RX5 106 yX5_isWhat wsX5_isWhat) := goodIn_app (goodIn_of _ (by decide +kernel)) ggX5_out_X5_isWhat
set_option maxRecDepth 20000 in
theorem ggX5_out_X5_sumOf : GoodIn wsX5_out wsX5_sumOf := goodIn_r _ [25, 18, 26, 37, 38, 39, 40, 41, 42, 43, 44, 45, 46, 47, 48, 49] (by decide +kernel) (by decide +kernel)
set_option maxRecDepth 20000 in
theorem gX5_out_X5_sumOf : GoodIn wsX5_out (wsV RX5 113 RX5 yX5_sumOf wsX5_sumOf) := goodIn_app (goodIn_of _ (by decide +kernel)) ggX5_out_X5_sumOf
set_option maxRecDepth 20000 in
theorem ggX5_out_X5_sum : GoodIn wsX5_out wsX5_sum := goodIn_r _ [30, 18, 26, 37, 38, 39, 40, 41, 42, 43, 44, 45, 46, 47, 48, 49] (by decide +kernel) (by decide +kernel)
set_option maxRecDepth 20000 in
theorem gX5_out_X5_sum : GoodIn wsX5_out (wsV RX5 100 RX5 yX5_sum wsX5_sum) := goodIn_app (goodIn_of _ (by decide +kernel)) ggX5_out_X5_sum
set_option maxRecDepth 20000 in
theorem ggX5_out_X5_fraction : GoodIn wsX5_out wsX5_fraction := goodIn_r _ [33, 34, 35, 5, 36] (by decide +kernel) (by decide +kernel)
set_option maxRecDepth 20000 in
theorem gX5_out_X5_fraction : GoodIn wsX5_out (va_wsS RX5 109 yX5_fraction wsX5_fraction) := goodIn_app (goodIn_of _ (by decide +kernel)) ggX5_out_X5_fraction
theorem dX5_out_0 : decode cX5_out 0 = .ok (.aload_n 0, 1) := by decide +kernel
theorem dX5_out_1 : decode cX5_out 1 = .ok (.iload_n 1, 1) := by decide +kernel
theorem dX5_out_2 : decode cX5_out 2 = .ok (.invokevirtual 94, 3) := by decide +kernel
theorem dX5_out_5 : decode cX5_out 5 = .ok (.ifCond .eq 37, 3) := by decide +kernel
theorem dX5_out_8 : decode cX5_out 8 = .ok (.aload_n 0, 1) := by decide +kernel
theorem dX5_out_9 : decode cX5_out 9 = .ok (.iload_n 2, 1) := by decide +kernel
theorem dX5_out_10 : decode cX5_out 10 = .ok (.invokevirtual 67, 3) := by decide +kernel
theorem dX5_out_13 : decode cX5_out 13 = .ok (.ifCond .eq 29, 3) := by decide +kernel
theorem dX5_out_16 : decode cX5_out 16 = .ok (.iload_n 3, 1) := by decide +kernel
theorem dX5_out_17 : decode cX5_out 17 = .ok (.invokestatic 106, 3) := by decide +kernel
theorem dX5_out_20 : decode cX5_out 20 = .ok (.ifCond .eq 22, 3) := by decide +kernel
theorem dX5_out_23 : decode cX5_out 23 = .ok (.aload_n 0, 1) := by decide +kernel
theorem dX5_out_24 : decode cX5_out 24 = .ok (.iload_n 1, 1) := by decide +kernel
theorem dX5_out_25 : decode cX5_out 25 = .ok (.iconst 0, 1) := by decide +kernel
theorem dX5_out_26 : decode cX5_out 26 = .ok (.iload_n 2, 1) := by decide +kernel
theorem dX5_out_27 : decode cX5_out 27 = .ok (.invokevirtual 113, 3) := by decide +kernel
theorem dX5_out_30 : decode cX5_out 30 = .ok (.aload_n 0, 1) := by decide +kernel
theorem dX5_out_31 : decode cX5_out 31 = .ok (.iload_n 1, 1) := by decide +kernel
theorem dX5_out_32 : decode cX5_out 32 = .ok (.invokevirtual 100, 3) := by decide +kernel
theorem dX5_out_35 : decode cX5_out 35 = .ok (.iload_n 3, 1) := by decide +kernel
theorem dX5_out_36 : decode cX5_out 36 = .ok (.invokestatic 109, 3) := by decide +kernel
theorem dX5_out_39 : decode cX5_out 39 = .ok (.goto 6, 3) := by decide +kernel
theorem dX5_out_42 : decode cX5_out 42 = .ok (.ldc2_w 104, 3) := by decide +kernel
theorem dX5_out_45 : decode cX5_out 45 = .ok (.lreturn, 1) := by decide +kernel
set_option maxRecDepth 20000 in
theorem ggX5_ofSize_X5_sizeOf : GoodIn wsX5_ofSize wsX5_sizeOf := goodIn_r _ [6] (by decide +kernel) (by decide +kernel)
set_option maxRecDepth 20000 in
theorem gX5_ofSize_X5_sizeOf : GoodIn wsX5_ofSize (va_wsS RX5 63 yX5_sizeOf wsX5_sizeOf) := goodIn_app (goodIn_of _ (by decide +kernel)) ggX5_ofSize_X5_sizeOf
theorem dX5_ofSize_0 : decode cX5_ofSize 0 = .ok (.lconst 0, 1) := by decide +kernel
theorem dX5_ofSize_1 : decode cX5_ofSize 1 = .ok (.lstore_n 3, 1) := by decide +kernel
theorem dX5_ofSize_2 : decode cX5_ofSize 2 = .ok (.iconst 0, 1) := by decide +kernel
theorem dX5_ofSize_3 : decode cX5_ofSize 3 = .ok (.istore 5, 2) := by decide +kernel
theorem dX5_ofSize_5 : decode cX5_ofSize 5 = .ok (.iload 5, 2) := by decide +kernel
theorem dX5_ofSize_7 : decode cX5_ofSize 7 = .ok (.aload_n 0, 1) := by decide +kernel
theorem dX5_ofSize_8 : decode cX5_ofSize 8 = .ok (.getfield 49, 3) := by decide +kernel
theorem dX5_ofSize_11 : decode cX5_ofSize 11 = .ok (.if_icmp .ge 33, 3) := by decide +kernel
theorem dX5_ofSize_14 : decode cX5_ofSize 14 = .ok (.iload 5, 2) := by decide +kernel
theorem dX5_ofSize_16 : decode cX5_ofSize 16 = .ok (.invokestatic 63, 3) := by decide +kernel
theorem dX5_ofSize_19 : decode cX5_ofSize 19 = .ok (.iload_n 2, 1) := by decide +kernel
theorem dX5_ofSize_20 : decode cX5_ofSize 20 = .ok (.if_icmp .ne 18, 3) := by decide +kernel
theorem dX5_ofSize_23 : decode cX5_ofSize 23 = .ok (.lload_n 3, 1) := by decide +kernel
theorem dX5_ofSize_24 : decode cX5_ofSize 24 = .ok (.aload_n 0, 1) := by decide +kernel
theorem dX5_ofSize_25 : decode cX5_ofSize 25 = .ok (.getfield 20, 3) := by decide +kernel
theorem dX5_ofSize_28 : decode cX5_ofSize 28 = .ok (.bipush 64, 2) := by decide +kernel
theorem dX5_ofSize_30 : decode cX5_ofSize 30 = .ok (.iload_n 1, 1) := by decide +kernel
theorem dX5_ofSize_31 : decode cX5_ofSize 31 = .ok (.imul, 1) := by decide +kernel
theorem dX5_ofSize_32 : decode cX5_ofSize 32 = .ok (.iload 5, 2) := by decide +kernel
theorem dX5_ofSize_34 : decode cX5_ofSize 34 = .ok (.iadd, 1) := by decide +kernel
theorem dX5_ofSize_35 : decode cX5_ofSize 35 = .ok (.laload, 1) := by decide +kernel
theorem dX5_ofSize_36 : decode cX5_ofSize 36 = .ok (.ladd, 1) := by decide +kernel
theorem dX5_ofSize_37 : decode cX5_ofSize 37 = .ok (.lstore_n 3, 1) := by decide +kernel
theorem dX5_ofSize_38 : decode cX5_ofSize 38 = .ok (.iinc 5 1, 3) := by decide +kernel
theorem dX5_ofSize_41 : decode cX5_ofSize 41 = .ok (.goto (-36), 3) := by decide +kernel
theorem dX5_ofSize_44 : decode cX5_ofSize 44 = .ok (.lload_n 3, 1) := by decide +kernel
theorem dX5_ofSize_45 : decode cX5_ofSize 45 = .ok (.lreturn, 1) := by decide +kernel
set_option maxRecDepth 20000 in
theorem ggX5_size_X5_isLaw : GoodIn wsX5_size wsX5_isLaw := goodIn_r _ [7, 8, 9, 10, 6, 11, 12, 13, 14, 37, 38, 39, 40, 41, 42, 43, 44, 45, 46, 47, 48, 49] (by decide +kernel) (by decide +kernel)
set_option maxRecDepth 20000 in
theorem gX5_size_X5_isLaw : GoodIn wsX5_size (wsV RX5 94 RX5 yX5_isLaw wsX5_isLaw) := goodIn_app (goodIn_of _ (by decide +kernel)) ggX5_size_X5_isLaw
set_option maxRecDepth 20000 in
theorem ggX5_size_X5_in : GoodIn wsX5_size wsX5_in := goodIn_r _ [14] (by decide +kernel) (by decide +kernel)
set_option maxRecDepth 20000 in
theorem gX5_size_X5_in : GoodIn wsX5_size (va_wsS RX5 52 yX5_in wsX5_in) := goodIn_app (goodIn_of _ (by decide +kernel)) ggX5_size_X5_in
set_option maxRecDepth 20000 in
theorem ggX5_size_X5_isWhat : GoodIn wsX5_size wsX5_isWhat := goodIn_r _ [17, 12, 13, 6, 14] (by decide +kernel) (by decide +kernel)
set_option maxRecDepth 20000 in
theorem gX5_size_X5_isWhat : GoodIn wsX5_size (va_wsS RX5 106 yX5_isWhat wsX5_isWhat) := goodIn_app (goodIn_of _ (by decide +kernel)) ggX5_size_X5_isWhat
set_option maxRecDepth 20000 in
theorem ggX5_size_X5_ofSize : GoodIn wsX5_size wsX5_ofSize := goodIn_r _ [21, 22, 23, 24, 25, 6, 26, 37, 38, 39, 40, 41, 42, 43, 44, 45, 46, 47, 48, 49] (by decide +kernel) (by decide +kernel)
set_option maxRecDepth 20000 in
theorem gX5_size_X5_ofSize : GoodIn wsX5_size (wsV RX5 116 RX5 yX5_ofSize wsX5_ofSize) := goodIn_app (goodIn_of _ (by decide +kernel)) ggX5_size_X5_ofSize
set_option maxRecDepth 20000 in
theorem ggX5_size_X5_sum : GoodIn wsX5_size wsX5_sum := goodIn_r _ [30, 22, 23, 37, 38, 39, 40, 41, 42, 43, 44, 45, 46, 47, 48, 49] (by decide +kernel) (by decide +kernel)
set_option maxRecDepth 20000 in
theorem gX5_size_X5_sum : GoodIn wsX5_size (wsV RX5 100 RX5 yX5_sum wsX5_sum) := goodIn_app (goodIn_of _ (by decide +kernel)) ggX5_size_X5_sum
set_option maxRecDepth 20000 in
theorem ggX5_size_X5_fraction : GoodIn wsX5_size wsX5_fraction := goodIn_r _ [33, 34, 35, 6, 36] (by decide +kernel) (by decide +kernel)
set_option maxRecDepth 20000 in
theorem gX5_size_X5_fraction : GoodIn wsX5_size (va_wsS RX5 109 yX5_fraction wsX5_fraction) := goodIn_app (goodIn_of _ (by decide +kernel)) ggX5_size_X5_fraction
theorem dX5_size_0 : decode cX5_size 0 = .ok (.aload_n 0, 1) := by decide +kernel
theorem dX5_size_1 : decode cX5_size 1 = .ok (.iload_n 1, 1) := by decide +kernel
theorem dX5_size_2 : decode cX5_size 2 = .ok (.invokevirtual 94, 3) := by decide +kernel
theorem dX5_size_5 : decode cX5_size 5 = .ok (.ifCond .eq 40, 3) := by decide +kernel
theorem dX5_size_8 : decode cX5_size 8 = .ok (.iload_n 2, 1) := by decide +kernel
theorem dX5_size_9 : decode cX5_size 9 = .ok (.iconst 0, 1) := by decide +kernel
theorem dX5_size_10 : decode cX5_size 10 = .ok (.aload_n 0, 1) := by decide +kernel
theorem dX5_size_11 : decode cX5_size 11 = .ok (.getfield 45, 3) := by decide +kernel
theorem dX5_size_14 : decode cX5_size 14 = .ok (.invokestatic 52, 3) := by decide +kernel
theorem dX5_size_17 : decode cX5_size 17 = .ok (.ifCond .eq 28, 3) := by decide +kernel
theorem dX5_size_20 : decode cX5_size 20 = .ok (.iload_n 3, 1) := by decide +kernel
theorem dX5_size_21 : decode cX5_size 21 = .ok (.invokestatic 106, 3) := by decide +kernel
theorem dX5_size_24 : decode cX5_size 24 = .ok (.ifCond .eq 21, 3) := by decide +kernel
theorem dX5_size_27 : decode cX5_size 27 = .ok (.aload_n 0, 1) := by decide +kernel
theorem dX5_size_28 : decode cX5_size 28 = .ok (.iload_n 1, 1) := by decide +kernel
theorem dX5_size_29 : decode cX5_size 29 = .ok (.iload_n 2, 1) := by decide +kernel
theorem dX5_size_30 : decode cX5_size 30 = .ok (.invokevirtual 116, 3) := by decide +kernel
theorem dX5_size_33 : decode cX5_size 33 = .ok (.aload_n 0, 1) := by decide +kernel
theorem dX5_size_34 : decode cX5_size 34 = .ok (.iload_n 1, 1) := by decide +kernel
theorem dX5_size_35 : decode cX5_size 35 = .ok (.invokevirtual 100, 3) := by decide +kernel
theorem dX5_size_38 : decode cX5_size 38 = .ok (.iload_n 3, 1) := by decide +kernel
theorem dX5_size_39 : decode cX5_size 39 = .ok (.invokestatic 109, 3) := by decide +kernel
theorem dX5_size_42 : decode cX5_size 42 = .ok (.goto 6, 3) := by decide +kernel
theorem dX5_size_45 : decode cX5_size 45 = .ok (.ldc2_w 104, 3) := by decide +kernel
theorem dX5_size_48 : decode cX5_size 48 = .ok (.lreturn, 1) := by decide +kernel
set_option maxRecDepth 20000 in
theorem ggX5_mean_X5_isLaw : GoodIn wsX5_mean wsX5_isLaw := goodIn_r _ [7, 8, 9, 10, 6, 11, 12, 13, 14, 37, 38, 39, 40, 41, 42, 43, 44, 45, 46, 47, 48, 49] (by decide +kernel) (by decide +kernel)
set_option maxRecDepth 20000 in
theorem gX5_mean_X5_isLaw : GoodIn wsX5_mean (wsV RX5 94 RX5 yX5_isLaw wsX5_isLaw) := goodIn_app (goodIn_of _ (by decide +kernel)) ggX5_mean_X5_isLaw
set_option maxRecDepth 20000 in
theorem ggX5_mean_X5_isWhat : GoodIn wsX5_mean wsX5_isWhat := goodIn_r _ [17, 12, 13, 6, 14] (by decide +kernel) (by decide +kernel)
set_option maxRecDepth 20000 in
theorem gX5_mean_X5_isWhat : GoodIn wsX5_mean (va_wsS RX5 106 yX5_isWhat wsX5_isWhat) := goodIn_app (goodIn_of _ (by decide +kernel)) ggX5_mean_X5_isWhat
set_option maxRecDepth 20000 in
theorem ggX5_mean_X5_ofSize : GoodIn wsX5_mean wsX5_ofSize := goodIn_r _ [21, 22, 23, 24, 25, 6, 26, 37, 38, 39, 40, 41, 42, 43, 44, 45, 46, 47, 48, 49] (by decide +kernel) (by decide +kernel)
set_option maxRecDepth 20000 in
theorem gX5_mean_X5_ofSize : GoodIn wsX5_mean (wsV RX5 116 RX5 yX5_ofSize wsX5_ofSize) := goodIn_app (goodIn_of _ (by decide +kernel)) ggX5_mean_X5_ofSize
set_option maxRecDepth 20000 in
theorem ggX5_mean_X5_sum : GoodIn wsX5_mean wsX5_sum := goodIn_r _ [30, 22, 23, 37, 38, 39, 40, 41, 42, 43, 44, 45, 46, 47, 48, 49] (by decide +kernel) (by decide +kernel)
set_option maxRecDepth 20000 in
theorem gX5_mean_X5_sum : GoodIn wsX5_mean (wsV RX5 100 RX5 yX5_sum wsX5_sum) := goodIn_app (goodIn_of _ (by decide +kernel)) ggX5_mean_X5_sum
set_option maxRecDepth 20000 in
theorem ggX5_mean_X5_fraction : GoodIn wsX5_mean wsX5_fraction := goodIn_r _ [33, 34, 35, 6, 36] (by decide +kernel) (by decide +kernel)
set_option maxRecDepth 20000 in
theorem gX5_mean_X5_fraction : GoodIn wsX5_mean (va_wsS RX5 109 yX5_fraction wsX5_fraction) := goodIn_app (goodIn_of _ (by decide +kernel)) ggX5_mean_X5_fraction
theorem dX5_mean_0 : decode cX5_mean 0 = .ok (.aload_n 0, 1) := by decide +kernel
theorem dX5_mean_1 : decode cX5_mean 1 = .ok (.iload_n 1, 1) := by decide +kernel
theorem dX5_mean_2 : decode cX5_mean 2 = .ok (.invokevirtual 94, 3) := by decide +kernel
theorem dX5_mean_5 : decode cX5_mean 5 = .ok (.ifCond .eq 10, 3) := by decide +kernel
theorem dX5_mean_8 : decode cX5_mean 8 = .ok (.iload_n 2, 1) := by decide +kernel
theorem dX5_mean_9 : decode cX5_mean 9 = .ok (.invokestatic 106, 3) := by decide +kernel
theorem dX5_mean_12 : decode cX5_mean 12 = .ok (.ifCond .ne 7, 3) := by decide +kernel
theorem dX5_mean_15 : decode cX5_mean 15 = .ok (.ldc2_w 104, 3) := by decide +kernel
theorem dX5_mean_18 : decode cX5_mean 18 = .ok (.lreturn, 1) := by decide +kernel
theorem dX5_mean_19 : decode cX5_mean 19 = .ok (.lconst 0, 1) := by decide +kernel
theorem dX5_mean_20 : decode cX5_mean 20 = .ok (.lstore_n 3, 1) := by decide +kernel
theorem dX5_mean_21 : decode cX5_mean 21 = .ok (.iconst 0, 1) := by decide +kernel
theorem dX5_mean_22 : decode cX5_mean 22 = .ok (.istore 5, 2) := by decide +kernel
theorem dX5_mean_24 : decode cX5_mean 24 = .ok (.iload 5, 2) := by decide +kernel
theorem dX5_mean_26 : decode cX5_mean 26 = .ok (.aload_n 0, 1) := by decide +kernel
theorem dX5_mean_27 : decode cX5_mean 27 = .ok (.getfield 45, 3) := by decide +kernel
theorem dX5_mean_30 : decode cX5_mean 30 = .ok (.if_icmp .gt 23, 3) := by decide +kernel
theorem dX5_mean_33 : decode cX5_mean 33 = .ok (.lload_n 3, 1) := by decide +kernel
theorem dX5_mean_34 : decode cX5_mean 34 = .ok (.iload 5, 2) := by decide +kernel
theorem dX5_mean_36 : decode cX5_mean 36 = .ok (.i2l, 1) := by decide +kernel
theorem dX5_mean_37 : decode cX5_mean 37 = .ok (.aload_n 0, 1) := by decide +kernel
theorem dX5_mean_38 : decode cX5_mean 38 = .ok (.iload_n 1, 1) := by decide +kernel
theorem dX5_mean_39 : decode cX5_mean 39 = .ok (.iload 5, 2) := by decide +kernel
theorem dX5_mean_41 : decode cX5_mean 41 = .ok (.invokevirtual 116, 3) := by decide +kernel
theorem dX5_mean_44 : decode cX5_mean 44 = .ok (.lmul, 1) := by decide +kernel
theorem dX5_mean_45 : decode cX5_mean 45 = .ok (.ladd, 1) := by decide +kernel
theorem dX5_mean_46 : decode cX5_mean 46 = .ok (.lstore_n 3, 1) := by decide +kernel
theorem dX5_mean_47 : decode cX5_mean 47 = .ok (.iinc 5 1, 3) := by decide +kernel
theorem dX5_mean_50 : decode cX5_mean 50 = .ok (.goto (-26), 3) := by decide +kernel
theorem dX5_mean_53 : decode cX5_mean 53 = .ok (.lload_n 3, 1) := by decide +kernel
theorem dX5_mean_54 : decode cX5_mean 54 = .ok (.aload_n 0, 1) := by decide +kernel
theorem dX5_mean_55 : decode cX5_mean 55 = .ok (.iload_n 1, 1) := by decide +kernel
theorem dX5_mean_56 : decode cX5_mean 56 = .ok (.invokevirtual 100, 3) := by decide +kernel
theorem dX5_mean_59 : decode cX5_mean 59 = .ok (.iload_n 2, 1) := by decide +kernel
theorem dX5_mean_60 : decode cX5_mean 60 = .ok (.invokestatic 109, 3) := by decide +kernel
theorem dX5_mean_63 : decode cX5_mean 63 = .ok (.lreturn, 1) := by decide +kernel
set_option maxRecDepth 20000 in
theorem ggX5_spread_X5_isLaw : GoodIn wsX5_spread wsX5_isLaw := goodIn_r _ [7, 8, 9, 10, 6, 11, 12, 13, 14, 37, 38, 39, 40, 41, 42, 43, 44, 45, 46, 47, 48, 49] (by decide +kernel) (by decide +kernel)
set_option maxRecDepth 20000 in
theorem gX5_spread_X5_isLaw : GoodIn wsX5_spread (wsV RX5 94 RX5 yX5_isLaw wsX5_isLaw) := goodIn_app (goodIn_of _ (by decide +kernel)) ggX5_spread_X5_isLaw
set_option maxRecDepth 20000 in
theorem ggX5_spread_X5_isWhat : GoodIn wsX5_spread wsX5_isWhat := goodIn_r _ [17, 12, 13, 6, 14] (by decide +kernel) (by decide +kernel)
set_option maxRecDepth 20000 in
theorem gX5_spread_X5_isWhat : GoodIn wsX5_spread (va_wsS RX5 106 yX5_isWhat wsX5_isWhat) := goodIn_app (goodIn_of _ (by decide +kernel)) ggX5_spread_X5_isWhat
set_option maxRecDepth 20000 in
theorem ggX5_spread_X5_ofSize : GoodIn wsX5_spread wsX5_ofSize := goodIn_r _ [21, 22, 23, 24, 25, 6, 26, 37, 38, 39, 40, 41, 42, 43, 44, 45, 46, 47, 48, 49] (by decide +kernel) (by decide +kernel)
set_option maxRecDepth 20000 in
theorem gX5_spread_X5_ofSize : GoodIn wsX5_spread (wsV RX5 116 RX5 yX5_ofSize wsX5_ofSize) := goodIn_app (goodIn_of _ (by decide +kernel)) ggX5_spread_X5_ofSize
set_option maxRecDepth 20000 in
theorem ggX5_spread_X5_sum : GoodIn wsX5_spread wsX5_sum := goodIn_r _ [30, 22, 23, 37, 38, 39, 40, 41, 42, 43, 44, 45, 46, 47, 48, 49] (by decide +kernel) (by decide +kernel)
set_option maxRecDepth 20000 in
theorem gX5_spread_X5_sum : GoodIn wsX5_spread (wsV RX5 100 RX5 yX5_sum wsX5_sum) := goodIn_app (goodIn_of _ (by decide +kernel)) ggX5_spread_X5_sum
set_option maxRecDepth 20000 in
theorem ggX5_spread_X5_fraction : GoodIn wsX5_spread wsX5_fraction := goodIn_r _ [33, 34, 35, 6, 36] (by decide +kernel) (by decide +kernel)
set_option maxRecDepth 20000 in
theorem gX5_spread_X5_fraction : GoodIn wsX5_spread (va_wsS RX5 109 yX5_fraction wsX5_fraction) := goodIn_app (goodIn_of _ (by decide +kernel)) ggX5_spread_X5_fraction
theorem dX5_spread_0 : decode cX5_spread 0 = .ok (.aload_n 0, 1) := by decide +kernel
theorem dX5_spread_1 : decode cX5_spread 1 = .ok (.iload_n 1, 1) := by decide +kernel
theorem dX5_spread_2 : decode cX5_spread 2 = .ok (.invokevirtual 94, 3) := by decide +kernel
theorem dX5_spread_5 : decode cX5_spread 5 = .ok (.ifCond .eq 10, 3) := by decide +kernel
theorem dX5_spread_8 : decode cX5_spread 8 = .ok (.iload_n 2, 1) := by decide +kernel
theorem dX5_spread_9 : decode cX5_spread 9 = .ok (.invokestatic 106, 3) := by decide +kernel
theorem dX5_spread_12 : decode cX5_spread 12 = .ok (.ifCond .ne 7, 3) := by decide +kernel
theorem dX5_spread_15 : decode cX5_spread 15 = .ok (.ldc2_w 104, 3) := by decide +kernel
theorem dX5_spread_18 : decode cX5_spread 18 = .ok (.lreturn, 1) := by decide +kernel
theorem dX5_spread_19 : decode cX5_spread 19 = .ok (.lconst 0, 1) := by decide +kernel
theorem dX5_spread_20 : decode cX5_spread 20 = .ok (.lstore_n 3, 1) := by decide +kernel
theorem dX5_spread_21 : decode cX5_spread 21 = .ok (.lconst 0, 1) := by decide +kernel
theorem dX5_spread_22 : decode cX5_spread 22 = .ok (.lstore 5, 2) := by decide +kernel
theorem dX5_spread_24 : decode cX5_spread 24 = .ok (.iconst 0, 1) := by decide +kernel
theorem dX5_spread_25 : decode cX5_spread 25 = .ok (.istore 7, 2) := by decide +kernel
theorem dX5_spread_27 : decode cX5_spread 27 = .ok (.iload 7, 2) := by decide +kernel
theorem dX5_spread_29 : decode cX5_spread 29 = .ok (.aload_n 0, 1) := by decide +kernel
theorem dX5_spread_30 : decode cX5_spread 30 = .ok (.getfield 45, 3) := by decide +kernel
theorem dX5_spread_33 : decode cX5_spread 33 = .ok (.if_icmp .gt 42, 3) := by decide +kernel
theorem dX5_spread_36 : decode cX5_spread 36 = .ok (.lload_n 3, 1) := by decide +kernel
theorem dX5_spread_37 : decode cX5_spread 37 = .ok (.iload 7, 2) := by decide +kernel
theorem dX5_spread_39 : decode cX5_spread 39 = .ok (.i2l, 1) := by decide +kernel
theorem dX5_spread_40 : decode cX5_spread 40 = .ok (.aload_n 0, 1) := by decide +kernel
theorem dX5_spread_41 : decode cX5_spread 41 = .ok (.iload_n 1, 1) := by decide +kernel
theorem dX5_spread_42 : decode cX5_spread 42 = .ok (.iload 7, 2) := by decide +kernel
theorem dX5_spread_44 : decode cX5_spread 44 = .ok (.invokevirtual 116, 3) := by decide +kernel
theorem dX5_spread_47 : decode cX5_spread 47 = .ok (.lmul, 1) := by decide +kernel
theorem dX5_spread_48 : decode cX5_spread 48 = .ok (.ladd, 1) := by decide +kernel
theorem dX5_spread_49 : decode cX5_spread 49 = .ok (.lstore_n 3, 1) := by decide +kernel
theorem dX5_spread_50 : decode cX5_spread 50 = .ok (.lload 5, 2) := by decide +kernel
theorem dX5_spread_52 : decode cX5_spread 52 = .ok (.iload 7, 2) := by decide +kernel
theorem dX5_spread_54 : decode cX5_spread 54 = .ok (.iload 7, 2) := by decide +kernel
theorem dX5_spread_56 : decode cX5_spread 56 = .ok (.imul, 1) := by decide +kernel
theorem dX5_spread_57 : decode cX5_spread 57 = .ok (.i2l, 1) := by decide +kernel
theorem dX5_spread_58 : decode cX5_spread 58 = .ok (.aload_n 0, 1) := by decide +kernel
theorem dX5_spread_59 : decode cX5_spread 59 = .ok (.iload_n 1, 1) := by decide +kernel
theorem dX5_spread_60 : decode cX5_spread 60 = .ok (.iload 7, 2) := by decide +kernel
theorem dX5_spread_62 : decode cX5_spread 62 = .ok (.invokevirtual 116, 3) := by decide +kernel
theorem dX5_spread_65 : decode cX5_spread 65 = .ok (.lmul, 1) := by decide +kernel
theorem dX5_spread_66 : decode cX5_spread 66 = .ok (.ladd, 1) := by decide +kernel
theorem dX5_spread_67 : decode cX5_spread 67 = .ok (.lstore 5, 2) := by decide +kernel
theorem dX5_spread_69 : decode cX5_spread 69 = .ok (.iinc 7 1, 3) := by decide +kernel
theorem dX5_spread_72 : decode cX5_spread 72 = .ok (.goto (-45), 3) := by decide +kernel
theorem dX5_spread_75 : decode cX5_spread 75 = .ok (.aload_n 0, 1) := by decide +kernel
theorem dX5_spread_76 : decode cX5_spread 76 = .ok (.iload_n 1, 1) := by decide +kernel
theorem dX5_spread_77 : decode cX5_spread 77 = .ok (.invokevirtual 100, 3) := by decide +kernel
theorem dX5_spread_80 : decode cX5_spread 80 = .ok (.lstore 7, 2) := by decide +kernel
theorem dX5_spread_82 : decode cX5_spread 82 = .ok (.lload 5, 2) := by decide +kernel
theorem dX5_spread_84 : decode cX5_spread 84 = .ok (.lload 7, 2) := by decide +kernel
theorem dX5_spread_86 : decode cX5_spread 86 = .ok (.lmul, 1) := by decide +kernel
theorem dX5_spread_87 : decode cX5_spread 87 = .ok (.lload_n 3, 1) := by decide +kernel
theorem dX5_spread_88 : decode cX5_spread 88 = .ok (.lload_n 3, 1) := by decide +kernel
theorem dX5_spread_89 : decode cX5_spread 89 = .ok (.lmul, 1) := by decide +kernel
theorem dX5_spread_90 : decode cX5_spread 90 = .ok (.lsub, 1) := by decide +kernel
theorem dX5_spread_91 : decode cX5_spread 91 = .ok (.lload 7, 2) := by decide +kernel
theorem dX5_spread_93 : decode cX5_spread 93 = .ok (.lload 7, 2) := by decide +kernel
theorem dX5_spread_95 : decode cX5_spread 95 = .ok (.lmul, 1) := by decide +kernel
theorem dX5_spread_96 : decode cX5_spread 96 = .ok (.iload_n 2, 1) := by decide +kernel
theorem dX5_spread_97 : decode cX5_spread 97 = .ok (.invokestatic 109, 3) := by decide +kernel
theorem dX5_spread_100 : decode cX5_spread 100 = .ok (.lreturn, 1) := by decide +kernel
set_option maxRecDepth 20000 in
theorem ggX5_shunning_X5_sumOf : GoodIn wsX5_shunning wsX5_sumOf := goodIn_r _ [5, 6, 7, 12, 13, 14, 15, 16, 17, 18, 19, 20, 21, 22, 23, 24] (by decide +kernel) (by decide +kernel)
set_option maxRecDepth 20000 in
theorem gX5_shunning_X5_sumOf : GoodIn wsX5_shunning (wsV RX5 113 RX5 yX5_sumOf wsX5_sumOf) := goodIn_app (goodIn_of _ (by decide +kernel)) ggX5_shunning_X5_sumOf
set_option maxRecDepth 20000 in
theorem ggX5_shunning_X5_sum : GoodIn wsX5_shunning wsX5_sum := goodIn_r _ [11, 6, 7, 12, 13, 14, 15, 16, 17, 18, 19, 20, 21, 22, 23, 24] (by decide +kernel) (by decide +kernel)
set_option maxRecDepth 20000 in
theorem gX5_shunning_X5_sum : GoodIn wsX5_shunning (wsV RX5 100 RX5 yX5_sum wsX5_sum) := goodIn_app (goodIn_of _ (by decide +kernel)) ggX5_shunning_X5_sum
theorem dX5_shunning_0 : decode cX5_shunning 0 = .ok (.aload_n 0, 1) := by decide +kernel
theorem dX5_shunning_1 : decode cX5_shunning 1 = .ok (.iload_n 1, 1) := by decide +kernel
theorem dX5_shunning_2 : decode cX5_shunning 2 = .ok (.iconst 1, 1) := by decide +kernel
theorem dX5_shunning_3 : decode cX5_shunning 3 = .ok (.iload_n 2, 1) := by decide +kernel
theorem dX5_shunning_4 : decode cX5_shunning 4 = .ok (.ishl, 1) := by decide +kernel
theorem dX5_shunning_5 : decode cX5_shunning 5 = .ok (.iconst 0, 1) := by decide +kernel
theorem dX5_shunning_6 : decode cX5_shunning 6 = .ok (.invokevirtual 113, 3) := by decide +kernel
theorem dX5_shunning_9 : decode cX5_shunning 9 = .ok (.aload_n 0, 1) := by decide +kernel
theorem dX5_shunning_10 : decode cX5_shunning 10 = .ok (.iload_n 1, 1) := by decide +kernel
theorem dX5_shunning_11 : decode cX5_shunning 11 = .ok (.iconst 1, 1) := by decide +kernel
theorem dX5_shunning_12 : decode cX5_shunning 12 = .ok (.iload_n 3, 1) := by decide +kernel
theorem dX5_shunning_13 : decode cX5_shunning 13 = .ok (.ishl, 1) := by decide +kernel
theorem dX5_shunning_14 : decode cX5_shunning 14 = .ok (.iconst 0, 1) := by decide +kernel
theorem dX5_shunning_15 : decode cX5_shunning 15 = .ok (.invokevirtual 113, 3) := by decide +kernel
theorem dX5_shunning_18 : decode cX5_shunning 18 = .ok (.lmul, 1) := by decide +kernel
theorem dX5_shunning_19 : decode cX5_shunning 19 = .ok (.aload_n 0, 1) := by decide +kernel
theorem dX5_shunning_20 : decode cX5_shunning 20 = .ok (.iload_n 1, 1) := by decide +kernel
theorem dX5_shunning_21 : decode cX5_shunning 21 = .ok (.iconst 1, 1) := by decide +kernel
theorem dX5_shunning_22 : decode cX5_shunning 22 = .ok (.iload_n 2, 1) := by decide +kernel
theorem dX5_shunning_23 : decode cX5_shunning 23 = .ok (.ishl, 1) := by decide +kernel
theorem dX5_shunning_24 : decode cX5_shunning 24 = .ok (.iconst 1, 1) := by decide +kernel
theorem dX5_shunning_25 : decode cX5_shunning 25 = .ok (.iload_n 3, 1) := by decide +kernel
theorem dX5_shunning_26 : decode cX5_shunning 26 = .ok (.ishl, 1) := by decide +kernel
theorem dX5_shunning_27 : decode cX5_shunning 27 = .ok (.ior, 1) := by decide +kernel
theorem dX5_shunning_28 : decode cX5_shunning 28 = .ok (.iconst 0, 1) := by decide +kernel
theorem dX5_shunning_29 : decode cX5_shunning 29 = .ok (.invokevirtual 113, 3) := by decide +kernel
theorem dX5_shunning_32 : decode cX5_shunning 32 = .ok (.aload_n 0, 1) := by decide +kernel
theorem dX5_shunning_33 : decode cX5_shunning 33 = .ok (.iload_n 1, 1) := by decide +kernel
theorem dX5_shunning_34 : decode cX5_shunning 34 = .ok (.invokevirtual 100, 3) := by decide +kernel
theorem dX5_shunning_37 : decode cX5_shunning 37 = .ok (.lmul, 1) := by decide +kernel
theorem dX5_shunning_38 : decode cX5_shunning 38 = .ok (.lsub, 1) := by decide +kernel
theorem dX5_shunning_39 : decode cX5_shunning 39 = .ok (.lreturn, 1) := by decide +kernel
set_option maxRecDepth 20000 in
theorem ggX5_both_X5_isLaw : GoodIn wsX5_both wsX5_isLaw := goodIn_r _ [5, 6, 7, 8, 4, 9, 10, 11, 12, 41, 42, 43, 44, 45, 46, 47, 48, 49, 50, 51, 52, 53] (by decide +kernel) (by decide +kernel)
set_option maxRecDepth 20000 in
theorem gX5_both_X5_isLaw : GoodIn wsX5_both (wsV RX5 94 RX5 yX5_isLaw wsX5_isLaw) := goodIn_app (goodIn_of _ (by decide +kernel)) ggX5_both_X5_isLaw
set_option maxRecDepth 20000 in
theorem ggX5_both_X5_isThing : GoodIn wsX5_both wsX5_isThing := goodIn_r _ [16, 17, 10, 11, 4, 12, 41, 42, 43, 44, 45, 46, 47, 48, 49, 50, 51, 52, 53] (by decide +kernel) (by decide +kernel)
set_option maxRecDepth 20000 in
theorem gX5_both_X5_isThing : GoodIn wsX5_both (wsV RX5 60 RX5 yX5_isThing wsX5_isThing) := goodIn_app (goodIn_of _ (by decide +kernel)) ggX5_both_X5_isThing
set_option maxRecDepth 20000 in
theorem ggX5_both_X5_isWhat : GoodIn wsX5_both wsX5_isWhat := goodIn_r _ [20, 10, 11, 4, 12] (by decide +kernel) (by decide +kernel)
set_option maxRecDepth 20000 in
theorem gX5_both_X5_isWhat : GoodIn wsX5_both (va_wsS RX5 106 yX5_isWhat wsX5_isWhat) := goodIn_app (goodIn_of _ (by decide +kernel)) ggX5_both_X5_isWhat
set_option maxRecDepth 20000 in
theorem ggX5_both_X5_sum : GoodIn wsX5_both wsX5_sum := goodIn_r _ [24, 25, 26, 41, 42, 43, 44, 45, 46, 47, 48, 49, 50, 51, 52, 53] (by decide +kernel) (by decide +kernel)
set_option maxRecDepth 20000 in
theorem gX5_both_X5_sum : GoodIn wsX5_both (wsV RX5 100 RX5 yX5_sum wsX5_sum) := goodIn_app (goodIn_of _ (by decide +kernel)) ggX5_both_X5_sum
set_option maxRecDepth 20000 in
theorem ggX5_both_X5_shunning : GoodIn wsX5_both wsX5_shunning := goodIn_r _ [30, 31, 32, 33, 4, 34, 25, 26, 21, 22, 23, 24, 41, 42, 43, 44, 45, 46, 47, 48, 49, 50, 51, 52, 53] (by decide +kernel) (by decide +kernel)
set_option maxRecDepth 20000 in
theorem gX5_both_X5_shunning : GoodIn wsX5_both (wsV RX5 119 RX5 yX5_shunning wsX5_shunning) := goodIn_app (goodIn_of _ (by decide +kernel)) ggX5_both_X5_shunning
set_option maxRecDepth 20000 in
theorem ggX5_both_X5_fraction : GoodIn wsX5_both wsX5_fraction := goodIn_r _ [37, 38, 39, 4, 40] (by decide +kernel) (by decide +kernel)
set_option maxRecDepth 20000 in
theorem gX5_both_X5_fraction : GoodIn wsX5_both (va_wsS RX5 109 yX5_fraction wsX5_fraction) := goodIn_app (goodIn_of _ (by decide +kernel)) ggX5_both_X5_fraction
theorem dX5_both_0 : decode cX5_both 0 = .ok (.aload_n 0, 1) := by decide +kernel
theorem dX5_both_1 : decode cX5_both 1 = .ok (.iload_n 1, 1) := by decide +kernel
theorem dX5_both_2 : decode cX5_both 2 = .ok (.invokevirtual 94, 3) := by decide +kernel
theorem dX5_both_5 : decode cX5_both 5 = .ok (.ifCond .eq 32, 3) := by decide +kernel
theorem dX5_both_8 : decode cX5_both 8 = .ok (.aload_n 0, 1) := by decide +kernel
theorem dX5_both_9 : decode cX5_both 9 = .ok (.iload_n 2, 1) := by decide +kernel
theorem dX5_both_10 : decode cX5_both 10 = .ok (.invokevirtual 60, 3) := by decide +kernel
theorem dX5_both_13 : decode cX5_both 13 = .ok (.ifCond .eq 24, 3) := by decide +kernel
theorem dX5_both_16 : decode cX5_both 16 = .ok (.aload_n 0, 1) := by decide +kernel
theorem dX5_both_17 : decode cX5_both 17 = .ok (.iload_n 3, 1) := by decide +kernel
theorem dX5_both_18 : decode cX5_both 18 = .ok (.invokevirtual 60, 3) := by decide +kernel
theorem dX5_both_21 : decode cX5_both 21 = .ok (.ifCond .eq 16, 3) := by decide +kernel
theorem dX5_both_24 : decode cX5_both 24 = .ok (.iload_n 2, 1) := by decide +kernel
theorem dX5_both_25 : decode cX5_both 25 = .ok (.iload_n 3, 1) := by decide +kernel
theorem dX5_both_26 : decode cX5_both 26 = .ok (.if_icmp .eq 11, 3) := by decide +kernel
theorem dX5_both_29 : decode cX5_both 29 = .ok (.iload 4, 2) := by decide +kernel
theorem dX5_both_31 : decode cX5_both 31 = .ok (.invokestatic 106, 3) := by decide +kernel
theorem dX5_both_34 : decode cX5_both 34 = .ok (.ifCond .ne 5, 3) := by decide +kernel
theorem dX5_both_37 : decode cX5_both 37 = .ok (.lconst 0, 1) := by decide +kernel
theorem dX5_both_38 : decode cX5_both 38 = .ok (.lreturn, 1) := by decide +kernel
theorem dX5_both_39 : decode cX5_both 39 = .ok (.aload_n 0, 1) := by decide +kernel
theorem dX5_both_40 : decode cX5_both 40 = .ok (.iload_n 1, 1) := by decide +kernel
theorem dX5_both_41 : decode cX5_both 41 = .ok (.invokevirtual 100, 3) := by decide +kernel
theorem dX5_both_44 : decode cX5_both 44 = .ok (.lstore 5, 2) := by decide +kernel
theorem dX5_both_46 : decode cX5_both 46 = .ok (.aload_n 0, 1) := by decide +kernel
theorem dX5_both_47 : decode cX5_both 47 = .ok (.iload_n 1, 1) := by decide +kernel
theorem dX5_both_48 : decode cX5_both 48 = .ok (.iload_n 2, 1) := by decide +kernel
theorem dX5_both_49 : decode cX5_both 49 = .ok (.iload_n 3, 1) := by decide +kernel
theorem dX5_both_50 : decode cX5_both 50 = .ok (.invokevirtual 119, 3) := by decide +kernel
theorem dX5_both_53 : decode cX5_both 53 = .ok (.lload 5, 2) := by decide +kernel
theorem dX5_both_55 : decode cX5_both 55 = .ok (.lload 5, 2) := by decide +kernel
theorem dX5_both_57 : decode cX5_both 57 = .ok (.lmul, 1) := by decide +kernel
theorem dX5_both_58 : decode cX5_both 58 = .ok (.iload 4, 2) := by decide +kernel
theorem dX5_both_60 : decode cX5_both 60 = .ok (.invokestatic 109, 3) := by decide +kernel
theorem dX5_both_63 : decode cX5_both 63 = .ok (.lreturn, 1) := by decide +kernel
set_option maxRecDepth 20000 in
theorem ggX5_shuns_X5_isLaw : GoodIn wsX5_shuns wsX5_isLaw := goodIn_r _ [6, 7, 8, 9, 5, 10, 11, 12, 13, 28, 29, 30, 31, 32, 33, 34, 35, 36, 37, 38, 39, 40] (by decide +kernel) (by decide +kernel)
set_option maxRecDepth 20000 in
theorem gX5_shuns_X5_isLaw : GoodIn wsX5_shuns (wsV RX5 94 RX5 yX5_isLaw wsX5_isLaw) := goodIn_app (goodIn_of _ (by decide +kernel)) ggX5_shuns_X5_isLaw
set_option maxRecDepth 20000 in
theorem ggX5_shuns_X5_shunning : GoodIn wsX5_shuns wsX5_shunning := goodIn_r _ [17, 18, 19, 20, 5, 21, 22, 23, 24, 25, 26, 27, 28, 29, 30, 31, 32, 33, 34, 35, 36, 37, 38, 39, 40] (by decide +kernel) (by decide +kernel)
set_option maxRecDepth 20000 in
theorem gX5_shuns_X5_shunning : GoodIn wsX5_shuns (wsV RX5 119 RX5 yX5_shunning wsX5_shunning) := goodIn_app (goodIn_of _ (by decide +kernel)) ggX5_shuns_X5_shunning
theorem dX5_shuns_0 : decode cX5_shuns 0 = .ok (.aload_n 0, 1) := by decide +kernel
theorem dX5_shuns_1 : decode cX5_shuns 1 = .ok (.iload_n 1, 1) := by decide +kernel
theorem dX5_shuns_2 : decode cX5_shuns 2 = .ok (.invokevirtual 94, 3) := by decide +kernel
theorem dX5_shuns_5 : decode cX5_shuns 5 = .ok (.ifCond .ne 5, 3) := by decide +kernel
theorem dX5_shuns_8 : decode cX5_shuns 8 = .ok (.iconst (-1), 1) := by decide +kernel
theorem dX5_shuns_9 : decode cX5_shuns 9 = .ok (.ireturn, 1) := by decide +kernel
theorem dX5_shuns_10 : decode cX5_shuns 10 = .ok (.iconst 0, 1) := by decide +kernel
theorem dX5_shuns_11 : decode cX5_shuns 11 = .ok (.istore_n 2, 1) := by decide +kernel
theorem dX5_shuns_12 : decode cX5_shuns 12 = .ok (.iload_n 2, 1) := by decide +kernel
theorem dX5_shuns_13 : decode cX5_shuns 13 = .ok (.aload_n 0, 1) := by decide +kernel
theorem dX5_shuns_14 : decode cX5_shuns 14 = .ok (.getfield 45, 3) := by decide +kernel
theorem dX5_shuns_17 : decode cX5_shuns 17 = .ok (.if_icmp .ge 36, 3) := by decide +kernel
theorem dX5_shuns_20 : decode cX5_shuns 20 = .ok (.iconst 0, 1) := by decide +kernel
theorem dX5_shuns_21 : decode cX5_shuns 21 = .ok (.istore_n 3, 1) := by decide +kernel
theorem dX5_shuns_22 : decode cX5_shuns 22 = .ok (.iload_n 3, 1) := by decide +kernel
theorem dX5_shuns_23 : decode cX5_shuns 23 = .ok (.iload_n 2, 1) := by decide +kernel
theorem dX5_shuns_24 : decode cX5_shuns 24 = .ok (.if_icmp .ge 23, 3) := by decide +kernel
theorem dX5_shuns_27 : decode cX5_shuns 27 = .ok (.aload_n 0, 1) := by decide +kernel
theorem dX5_shuns_28 : decode cX5_shuns 28 = .ok (.iload_n 1, 1) := by decide +kernel
theorem dX5_shuns_29 : decode cX5_shuns 29 = .ok (.iload_n 2, 1) := by decide +kernel
theorem dX5_shuns_30 : decode cX5_shuns 30 = .ok (.iload_n 3, 1) := by decide +kernel
theorem dX5_shuns_31 : decode cX5_shuns 31 = .ok (.invokevirtual 119, 3) := by decide +kernel
theorem dX5_shuns_34 : decode cX5_shuns 34 = .ok (.lconst 0, 1) := by decide +kernel
theorem dX5_shuns_35 : decode cX5_shuns 35 = .ok (.lcmp, 1) := by decide +kernel
theorem dX5_shuns_36 : decode cX5_shuns 36 = .ok (.ifCond .ge 5, 3) := by decide +kernel
theorem dX5_shuns_39 : decode cX5_shuns 39 = .ok (.iconst 0, 1) := by decide +kernel
theorem dX5_shuns_40 : decode cX5_shuns 40 = .ok (.ireturn, 1) := by decide +kernel
theorem dX5_shuns_41 : decode cX5_shuns 41 = .ok (.iinc 3 1, 3) := by decide +kernel
theorem dX5_shuns_44 : decode cX5_shuns 44 = .ok (.goto (-22), 3) := by decide +kernel
theorem dX5_shuns_47 : decode cX5_shuns 47 = .ok (.iinc 2 1, 3) := by decide +kernel
theorem dX5_shuns_50 : decode cX5_shuns 50 = .ok (.goto (-38), 3) := by decide +kernel
theorem dX5_shuns_53 : decode cX5_shuns 53 = .ok (.iconst 1, 1) := by decide +kernel
theorem dX5_shuns_54 : decode cX5_shuns 54 = .ok (.ireturn, 1) := by decide +kernel
set_option maxRecDepth 20000 in
theorem ggX5_rises_X5_isLaw : GoodIn wsX5_rises wsX5_isLaw := goodIn_r _ [6, 7, 8, 9, 5, 10, 11, 12, 13, 23, 24, 25, 26, 27, 28, 29, 30, 31, 32, 33, 34, 35] (by decide +kernel) (by decide +kernel)
set_option maxRecDepth 20000 in
theorem gX5_rises_X5_isLaw : GoodIn wsX5_rises (wsV RX5 94 RX5 yX5_isLaw wsX5_isLaw) := goodIn_app (goodIn_of _ (by decide +kernel)) ggX5_rises_X5_isLaw
set_option maxRecDepth 20000 in
theorem ggX5_rises_X5_ofSize : GoodIn wsX5_rises wsX5_ofSize := goodIn_r _ [17, 18, 19, 20, 21, 5, 22, 23, 24, 25, 26, 27, 28, 29, 30, 31, 32, 33, 34, 35] (by decide +kernel) (by decide +kernel)
set_option maxRecDepth 20000 in
theorem gX5_rises_X5_ofSize : GoodIn wsX5_rises (wsV RX5 116 RX5 yX5_ofSize wsX5_ofSize) := goodIn_app (goodIn_of _ (by decide +kernel)) ggX5_rises_X5_ofSize
theorem dX5_rises_0 : decode cX5_rises 0 = .ok (.aload_n 0, 1) := by decide +kernel
theorem dX5_rises_1 : decode cX5_rises 1 = .ok (.iload_n 1, 1) := by decide +kernel
theorem dX5_rises_2 : decode cX5_rises 2 = .ok (.invokevirtual 94, 3) := by decide +kernel
theorem dX5_rises_5 : decode cX5_rises 5 = .ok (.ifCond .ne 5, 3) := by decide +kernel
theorem dX5_rises_8 : decode cX5_rises 8 = .ok (.iconst (-1), 1) := by decide +kernel
theorem dX5_rises_9 : decode cX5_rises 9 = .ok (.ireturn, 1) := by decide +kernel
theorem dX5_rises_10 : decode cX5_rises 10 = .ok (.iconst 0, 1) := by decide +kernel
theorem dX5_rises_11 : decode cX5_rises 11 = .ok (.istore_n 2, 1) := by decide +kernel
theorem dX5_rises_12 : decode cX5_rises 12 = .ok (.iload_n 2, 1) := by decide +kernel
theorem dX5_rises_13 : decode cX5_rises 13 = .ok (.aload_n 0, 1) := by decide +kernel
theorem dX5_rises_14 : decode cX5_rises 14 = .ok (.getfield 45, 3) := by decide +kernel
theorem dX5_rises_17 : decode cX5_rises 17 = .ok (.if_icmp .ge 27, 3) := by decide +kernel
theorem dX5_rises_20 : decode cX5_rises 20 = .ok (.aload_n 0, 1) := by decide +kernel
theorem dX5_rises_21 : decode cX5_rises 21 = .ok (.iload_n 1, 1) := by decide +kernel
theorem dX5_rises_22 : decode cX5_rises 22 = .ok (.iload_n 2, 1) := by decide +kernel
theorem dX5_rises_23 : decode cX5_rises 23 = .ok (.invokevirtual 116, 3) := by decide +kernel
theorem dX5_rises_26 : decode cX5_rises 26 = .ok (.aload_n 0, 1) := by decide +kernel
theorem dX5_rises_27 : decode cX5_rises 27 = .ok (.iload_n 1, 1) := by decide +kernel
theorem dX5_rises_28 : decode cX5_rises 28 = .ok (.iload_n 2, 1) := by decide +kernel
theorem dX5_rises_29 : decode cX5_rises 29 = .ok (.iconst 1, 1) := by decide +kernel
theorem dX5_rises_30 : decode cX5_rises 30 = .ok (.iadd, 1) := by decide +kernel
theorem dX5_rises_31 : decode cX5_rises 31 = .ok (.invokevirtual 116, 3) := by decide +kernel
theorem dX5_rises_34 : decode cX5_rises 34 = .ok (.lcmp, 1) := by decide +kernel
theorem dX5_rises_35 : decode cX5_rises 35 = .ok (.ifCond .gt 9, 3) := by decide +kernel
theorem dX5_rises_38 : decode cX5_rises 38 = .ok (.iinc 2 1, 3) := by decide +kernel
theorem dX5_rises_41 : decode cX5_rises 41 = .ok (.goto (-29), 3) := by decide +kernel
theorem dX5_rises_44 : decode cX5_rises 44 = .ok (.iload_n 2, 1) := by decide +kernel
theorem dX5_rises_45 : decode cX5_rises 45 = .ok (.aload_n 0, 1) := by decide +kernel
theorem dX5_rises_46 : decode cX5_rises 46 = .ok (.getfield 45, 3) := by decide +kernel
theorem dX5_rises_49 : decode cX5_rises 49 = .ok (.if_icmp .ge 27, 3) := by decide +kernel
theorem dX5_rises_52 : decode cX5_rises 52 = .ok (.aload_n 0, 1) := by decide +kernel
theorem dX5_rises_53 : decode cX5_rises 53 = .ok (.iload_n 1, 1) := by decide +kernel
theorem dX5_rises_54 : decode cX5_rises 54 = .ok (.iload_n 2, 1) := by decide +kernel
theorem dX5_rises_55 : decode cX5_rises 55 = .ok (.invokevirtual 116, 3) := by decide +kernel
theorem dX5_rises_58 : decode cX5_rises 58 = .ok (.aload_n 0, 1) := by decide +kernel
theorem dX5_rises_59 : decode cX5_rises 59 = .ok (.iload_n 1, 1) := by decide +kernel
theorem dX5_rises_60 : decode cX5_rises 60 = .ok (.iload_n 2, 1) := by decide +kernel
theorem dX5_rises_61 : decode cX5_rises 61 = .ok (.iconst 1, 1) := by decide +kernel
theorem dX5_rises_62 : decode cX5_rises 62 = .ok (.iadd, 1) := by decide +kernel
theorem dX5_rises_63 : decode cX5_rises 63 = .ok (.invokevirtual 116, 3) := by decide +kernel
theorem dX5_rises_66 : decode cX5_rises 66 = .ok (.lcmp, 1) := by decide +kernel
theorem dX5_rises_67 : decode cX5_rises 67 = .ok (.ifCond .lt 9, 3) := by decide +kernel
theorem dX5_rises_70 : decode cX5_rises 70 = .ok (.iinc 2 1, 3) := by decide +kernel
theorem dX5_rises_73 : decode cX5_rises 73 = .ok (.goto (-29), 3) := by decide +kernel
theorem dX5_rises_76 : decode cX5_rises 76 = .ok (.iload_n 2, 1) := by decide +kernel
theorem dX5_rises_77 : decode cX5_rises 77 = .ok (.aload_n 0, 1) := by decide +kernel
theorem dX5_rises_78 : decode cX5_rises 78 = .ok (.getfield 45, 3) := by decide +kernel
theorem dX5_rises_81 : decode cX5_rises 81 = .ok (.if_icmp .ne 7, 3) := by decide +kernel
theorem dX5_rises_84 : decode cX5_rises 84 = .ok (.iconst 1, 1) := by decide +kernel
theorem dX5_rises_85 : decode cX5_rises 85 = .ok (.goto 4, 3) := by decide +kernel
theorem dX5_rises_88 : decode cX5_rises 88 = .ok (.iconst 0, 1) := by decide +kernel
theorem dX5_rises_89 : decode cX5_rises 89 = .ok (.ireturn, 1) := by decide +kernel
set_option maxRecDepth 20000 in
theorem ggX5_greatest_X5_isLaw : GoodIn wsX5_greatest wsX5_isLaw := goodIn_r _ [7, 8, 9, 10, 6, 11, 12, 13, 14, 15, 16, 17, 18, 19, 20, 21, 22, 23, 24, 25, 26, 27] (by decide +kernel) (by decide +kernel)
set_option maxRecDepth 20000 in
theorem gX5_greatest_X5_isLaw : GoodIn wsX5_greatest (wsV RX5 94 RX5 yX5_isLaw wsX5_isLaw) := goodIn_app (goodIn_of _ (by decide +kernel)) ggX5_greatest_X5_isLaw
theorem dX5_greatest_0 : decode cX5_greatest 0 = .ok (.aload_n 0, 1) := by decide +kernel
theorem dX5_greatest_1 : decode cX5_greatest 1 = .ok (.iload_n 1, 1) := by decide +kernel
theorem dX5_greatest_2 : decode cX5_greatest 2 = .ok (.invokevirtual 94, 3) := by decide +kernel
theorem dX5_greatest_5 : decode cX5_greatest 5 = .ok (.ifCond .ne 5, 3) := by decide +kernel
theorem dX5_greatest_8 : decode cX5_greatest 8 = .ok (.iconst (-1), 1) := by decide +kernel
theorem dX5_greatest_9 : decode cX5_greatest 9 = .ok (.ireturn, 1) := by decide +kernel
theorem dX5_greatest_10 : decode cX5_greatest 10 = .ok (.iconst 0, 1) := by decide +kernel
theorem dX5_greatest_11 : decode cX5_greatest 11 = .ok (.istore_n 2, 1) := by decide +kernel
theorem dX5_greatest_12 : decode cX5_greatest 12 = .ok (.iconst 1, 1) := by decide +kernel
theorem dX5_greatest_13 : decode cX5_greatest 13 = .ok (.istore_n 3, 1) := by decide +kernel
theorem dX5_greatest_14 : decode cX5_greatest 14 = .ok (.iload_n 3, 1) := by decide +kernel
theorem dX5_greatest_15 : decode cX5_greatest 15 = .ok (.aload_n 0, 1) := by decide +kernel
theorem dX5_greatest_16 : decode cX5_greatest 16 = .ok (.getfield 49, 3) := by decide +kernel
theorem dX5_greatest_19 : decode cX5_greatest 19 = .ok (.if_icmp .ge 37, 3) := by decide +kernel
theorem dX5_greatest_22 : decode cX5_greatest 22 = .ok (.aload_n 0, 1) := by decide +kernel
theorem dX5_greatest_23 : decode cX5_greatest 23 = .ok (.getfield 20, 3) := by decide +kernel
theorem dX5_greatest_26 : decode cX5_greatest 26 = .ok (.bipush 64, 2) := by decide +kernel
theorem dX5_greatest_28 : decode cX5_greatest 28 = .ok (.iload_n 1, 1) := by decide +kernel
theorem dX5_greatest_29 : decode cX5_greatest 29 = .ok (.imul, 1) := by decide +kernel
theorem dX5_greatest_30 : decode cX5_greatest 30 = .ok (.iload_n 3, 1) := by decide +kernel
theorem dX5_greatest_31 : decode cX5_greatest 31 = .ok (.iadd, 1) := by decide +kernel
theorem dX5_greatest_32 : decode cX5_greatest 32 = .ok (.laload, 1) := by decide +kernel
theorem dX5_greatest_33 : decode cX5_greatest 33 = .ok (.aload_n 0, 1) := by decide +kernel
theorem dX5_greatest_34 : decode cX5_greatest 34 = .ok (.getfield 20, 3) := by decide +kernel
theorem dX5_greatest_37 : decode cX5_greatest 37 = .ok (.bipush 64, 2) := by decide +kernel
theorem dX5_greatest_39 : decode cX5_greatest 39 = .ok (.iload_n 1, 1) := by decide +kernel
theorem dX5_greatest_40 : decode cX5_greatest 40 = .ok (.imul, 1) := by decide +kernel
theorem dX5_greatest_41 : decode cX5_greatest 41 = .ok (.iload_n 2, 1) := by decide +kernel
theorem dX5_greatest_42 : decode cX5_greatest 42 = .ok (.iadd, 1) := by decide +kernel
theorem dX5_greatest_43 : decode cX5_greatest 43 = .ok (.laload, 1) := by decide +kernel
theorem dX5_greatest_44 : decode cX5_greatest 44 = .ok (.lcmp, 1) := by decide +kernel
theorem dX5_greatest_45 : decode cX5_greatest 45 = .ok (.ifCond .le 5, 3) := by decide +kernel
theorem dX5_greatest_48 : decode cX5_greatest 48 = .ok (.iload_n 3, 1) := by decide +kernel
theorem dX5_greatest_49 : decode cX5_greatest 49 = .ok (.istore_n 2, 1) := by decide +kernel
theorem dX5_greatest_50 : decode cX5_greatest 50 = .ok (.iinc 3 1, 3) := by decide +kernel
theorem dX5_greatest_53 : decode cX5_greatest 53 = .ok (.goto (-39), 3) := by decide +kernel
theorem dX5_greatest_56 : decode cX5_greatest 56 = .ok (.iload_n 2, 1) := by decide +kernel
theorem dX5_greatest_57 : decode cX5_greatest 57 = .ok (.ireturn, 1) := by decide +kernel
set_option maxRecDepth 20000 in
theorem ggX5_greedy_X5_isLaw : GoodIn wsX5_greedy wsX5_isLaw := goodIn_r _ [7, 8, 9, 10, 6, 11, 12, 13, 14, 15, 16, 17, 18, 19, 20, 21, 22, 23, 24, 25, 26, 27] (by decide +kernel) (by decide +kernel)
set_option maxRecDepth 20000 in
theorem gX5_greedy_X5_isLaw : GoodIn wsX5_greedy (wsV RX5 94 RX5 yX5_isLaw wsX5_isLaw) := goodIn_app (goodIn_of _ (by decide +kernel)) ggX5_greedy_X5_isLaw
set_option maxRecDepth 20000 in
theorem ggX5_greedy_X5_in : GoodIn wsX5_greedy wsX5_in := goodIn_r _ [14] (by decide +kernel) (by decide +kernel)
set_option maxRecDepth 20000 in
theorem gX5_greedy_X5_in : GoodIn wsX5_greedy (va_wsS RX5 52 yX5_in wsX5_in) := goodIn_app (goodIn_of _ (by decide +kernel)) ggX5_greedy_X5_in
theorem dX5_greedy_0 : decode cX5_greedy 0 = .ok (.aload_n 0, 1) := by decide +kernel
theorem dX5_greedy_1 : decode cX5_greedy 1 = .ok (.iload_n 1, 1) := by decide +kernel
theorem dX5_greedy_2 : decode cX5_greedy 2 = .ok (.invokevirtual 94, 3) := by decide +kernel
theorem dX5_greedy_5 : decode cX5_greedy 5 = .ok (.ifCond .eq 15, 3) := by decide +kernel
theorem dX5_greedy_8 : decode cX5_greedy 8 = .ok (.iload_n 2, 1) := by decide +kernel
theorem dX5_greedy_9 : decode cX5_greedy 9 = .ok (.iconst 0, 1) := by decide +kernel
theorem dX5_greedy_10 : decode cX5_greedy 10 = .ok (.aload_n 0, 1) := by decide +kernel
theorem dX5_greedy_11 : decode cX5_greedy 11 = .ok (.getfield 45, 3) := by decide +kernel
theorem dX5_greedy_14 : decode cX5_greedy 14 = .ok (.invokestatic 52, 3) := by decide +kernel
theorem dX5_greedy_17 : decode cX5_greedy 17 = .ok (.ifCond .ne 5, 3) := by decide +kernel
theorem dX5_greedy_20 : decode cX5_greedy 20 = .ok (.iconst (-1), 1) := by decide +kernel
theorem dX5_greedy_21 : decode cX5_greedy 21 = .ok (.ireturn, 1) := by decide +kernel
theorem dX5_greedy_22 : decode cX5_greedy 22 = .ok (.iconst 0, 1) := by decide +kernel
theorem dX5_greedy_23 : decode cX5_greedy 23 = .ok (.istore_n 3, 1) := by decide +kernel
theorem dX5_greedy_24 : decode cX5_greedy 24 = .ok (.iconst 0, 1) := by decide +kernel
theorem dX5_greedy_25 : decode cX5_greedy 25 = .ok (.istore 4, 2) := by decide +kernel
theorem dX5_greedy_27 : decode cX5_greedy 27 = .ok (.iload 4, 2) := by decide +kernel
theorem dX5_greedy_29 : decode cX5_greedy 29 = .ok (.iload_n 2, 1) := by decide +kernel
theorem dX5_greedy_30 : decode cX5_greedy 30 = .ok (.if_icmp .ge 95, 3) := by decide +kernel
theorem dX5_greedy_33 : decode cX5_greedy 33 = .ok (.iconst (-1), 1) := by decide +kernel
theorem dX5_greedy_34 : decode cX5_greedy 34 = .ok (.istore 5, 2) := by decide +kernel
theorem dX5_greedy_36 : decode cX5_greedy 36 = .ok (.iconst 0, 1) := by decide +kernel
theorem dX5_greedy_37 : decode cX5_greedy 37 = .ok (.istore 6, 2) := by decide +kernel
theorem dX5_greedy_39 : decode cX5_greedy 39 = .ok (.iload 6, 2) := by decide +kernel
theorem dX5_greedy_41 : decode cX5_greedy 41 = .ok (.aload_n 0, 1) := by decide +kernel
theorem dX5_greedy_42 : decode cX5_greedy 42 = .ok (.getfield 45, 3) := by decide +kernel
theorem dX5_greedy_45 : decode cX5_greedy 45 = .ok (.if_icmp .ge 67, 3) := by decide +kernel
theorem dX5_greedy_48 : decode cX5_greedy 48 = .ok (.iload_n 3, 1) := by decide +kernel
theorem dX5_greedy_49 : decode cX5_greedy 49 = .ok (.iload 6, 2) := by decide +kernel
theorem dX5_greedy_51 : decode cX5_greedy 51 = .ok (.ishr, 1) := by decide +kernel
theorem dX5_greedy_52 : decode cX5_greedy 52 = .ok (.iconst 1, 1) := by decide +kernel
theorem dX5_greedy_53 : decode cX5_greedy 53 = .ok (.iand, 1) := by decide +kernel
theorem dX5_greedy_54 : decode cX5_greedy 54 = .ok (.iconst 1, 1) := by decide +kernel
theorem dX5_greedy_55 : decode cX5_greedy 55 = .ok (.if_icmp .ne 6, 3) := by decide +kernel
theorem dX5_greedy_58 : decode cX5_greedy 58 = .ok (.goto 48, 3) := by decide +kernel
theorem dX5_greedy_61 : decode cX5_greedy 61 = .ok (.iload 5, 2) := by decide +kernel
theorem dX5_greedy_63 : decode cX5_greedy 63 = .ok (.ifCond .lt 39, 3) := by decide +kernel
theorem dX5_greedy_66 : decode cX5_greedy 66 = .ok (.aload_n 0, 1) := by decide +kernel
theorem dX5_greedy_67 : decode cX5_greedy 67 = .ok (.getfield 20, 3) := by decide +kernel
theorem dX5_greedy_70 : decode cX5_greedy 70 = .ok (.bipush 64, 2) := by decide +kernel
theorem dX5_greedy_72 : decode cX5_greedy 72 = .ok (.iload_n 1, 1) := by decide +kernel
theorem dX5_greedy_73 : decode cX5_greedy 73 = .ok (.imul, 1) := by decide +kernel
theorem dX5_greedy_74 : decode cX5_greedy 74 = .ok (.iload_n 3, 1) := by decide +kernel
theorem dX5_greedy_75 : decode cX5_greedy 75 = .ok (.iconst 1, 1) := by decide +kernel
theorem dX5_greedy_76 : decode cX5_greedy 76 = .ok (.iload 6, 2) := by decide +kernel
theorem dX5_greedy_78 : decode cX5_greedy 78 = .ok (.ishl, 1) := by decide +kernel
theorem dX5_greedy_79 : decode cX5_greedy 79 = .ok (.ior, 1) := by decide +kernel
theorem dX5_greedy_80 : decode cX5_greedy 80 = .ok (.iadd, 1) := by decide +kernel
theorem dX5_greedy_81 : decode cX5_greedy 81 = .ok (.laload, 1) := by decide +kernel
theorem dX5_greedy_82 : decode cX5_greedy 82 = .ok (.aload_n 0, 1) := by decide +kernel
theorem dX5_greedy_83 : decode cX5_greedy 83 = .ok (.getfield 20, 3) := by decide +kernel
theorem dX5_greedy_86 : decode cX5_greedy 86 = .ok (.bipush 64, 2) := by decide +kernel
theorem dX5_greedy_88 : decode cX5_greedy 88 = .ok (.iload_n 1, 1) := by decide +kernel
theorem dX5_greedy_89 : decode cX5_greedy 89 = .ok (.imul, 1) := by decide +kernel
theorem dX5_greedy_90 : decode cX5_greedy 90 = .ok (.iload_n 3, 1) := by decide +kernel
theorem dX5_greedy_91 : decode cX5_greedy 91 = .ok (.iconst 1, 1) := by decide +kernel
theorem dX5_greedy_92 : decode cX5_greedy 92 = .ok (.iload 5, 2) := by decide +kernel
theorem dX5_greedy_94 : decode cX5_greedy 94 = .ok (.ishl, 1) := by decide +kernel
theorem dX5_greedy_95 : decode cX5_greedy 95 = .ok (.ior, 1) := by decide +kernel
theorem dX5_greedy_96 : decode cX5_greedy 96 = .ok (.iadd, 1) := by decide +kernel
theorem dX5_greedy_97 : decode cX5_greedy 97 = .ok (.laload, 1) := by decide +kernel
theorem dX5_greedy_98 : decode cX5_greedy 98 = .ok (.lcmp, 1) := by decide +kernel
theorem dX5_greedy_99 : decode cX5_greedy 99 = .ok (.ifCond .le 7, 3) := by decide +kernel
theorem dX5_greedy_102 : decode cX5_greedy 102 = .ok (.iload 6, 2) := by decide +kernel
theorem dX5_greedy_104 : decode cX5_greedy 104 = .ok (.istore 5, 2) := by decide +kernel
theorem dX5_greedy_106 : decode cX5_greedy 106 = .ok (.iinc 6 1, 3) := by decide +kernel
theorem dX5_greedy_109 : decode cX5_greedy 109 = .ok (.goto (-70), 3) := by decide +kernel
theorem dX5_greedy_112 : decode cX5_greedy 112 = .ok (.iload_n 3, 1) := by decide +kernel
theorem dX5_greedy_113 : decode cX5_greedy 113 = .ok (.iconst 1, 1) := by decide +kernel
theorem dX5_greedy_114 : decode cX5_greedy 114 = .ok (.iload 5, 2) := by decide +kernel
theorem dX5_greedy_116 : decode cX5_greedy 116 = .ok (.ishl, 1) := by decide +kernel
theorem dX5_greedy_117 : decode cX5_greedy 117 = .ok (.ior, 1) := by decide +kernel
theorem dX5_greedy_118 : decode cX5_greedy 118 = .ok (.istore_n 3, 1) := by decide +kernel
theorem dX5_greedy_119 : decode cX5_greedy 119 = .ok (.iinc 4 1, 3) := by decide +kernel
theorem dX5_greedy_122 : decode cX5_greedy 122 = .ok (.goto (-95), 3) := by decide +kernel
theorem dX5_greedy_125 : decode cX5_greedy 125 = .ok (.iload_n 3, 1) := by decide +kernel
theorem dX5_greedy_126 : decode cX5_greedy 126 = .ok (.ireturn, 1) := by decide +kernel
set_option maxRecDepth 20000 in
theorem ggX5_same_X5_isLaw : GoodIn wsX5_same wsX5_isLaw := goodIn_r _ [7, 8, 9, 10, 6, 11, 12, 13, 14, 15, 16, 17, 18, 19, 20, 21, 22, 23, 24, 25, 26, 27] (by decide +kernel) (by decide +kernel)
set_option maxRecDepth 20000 in
theorem gX5_same_X5_isLaw : GoodIn wsX5_same (wsV RX5 94 RX5 yX5_isLaw wsX5_isLaw) := goodIn_app (goodIn_of _ (by decide +kernel)) ggX5_same_X5_isLaw
theorem dX5_same_0 : decode cX5_same 0 = .ok (.aload_n 0, 1) := by decide +kernel
theorem dX5_same_1 : decode cX5_same 1 = .ok (.iload_n 1, 1) := by decide +kernel
theorem dX5_same_2 : decode cX5_same 2 = .ok (.invokevirtual 94, 3) := by decide +kernel
theorem dX5_same_5 : decode cX5_same 5 = .ok (.ifCond .eq 11, 3) := by decide +kernel
theorem dX5_same_8 : decode cX5_same 8 = .ok (.aload_n 0, 1) := by decide +kernel
theorem dX5_same_9 : decode cX5_same 9 = .ok (.iload_n 2, 1) := by decide +kernel
theorem dX5_same_10 : decode cX5_same 10 = .ok (.invokevirtual 94, 3) := by decide +kernel
theorem dX5_same_13 : decode cX5_same 13 = .ok (.ifCond .ne 5, 3) := by decide +kernel
theorem dX5_same_16 : decode cX5_same 16 = .ok (.iconst (-1), 1) := by decide +kernel
theorem dX5_same_17 : decode cX5_same 17 = .ok (.ireturn, 1) := by decide +kernel
theorem dX5_same_18 : decode cX5_same 18 = .ok (.iconst 0, 1) := by decide +kernel
theorem dX5_same_19 : decode cX5_same 19 = .ok (.istore_n 3, 1) := by decide +kernel
theorem dX5_same_20 : decode cX5_same 20 = .ok (.iload_n 3, 1) := by decide +kernel
theorem dX5_same_21 : decode cX5_same 21 = .ok (.aload_n 0, 1) := by decide +kernel
theorem dX5_same_22 : decode cX5_same 22 = .ok (.getfield 49, 3) := by decide +kernel
theorem dX5_same_25 : decode cX5_same 25 = .ok (.if_icmp .ge 37, 3) := by decide +kernel
theorem dX5_same_28 : decode cX5_same 28 = .ok (.aload_n 0, 1) := by decide +kernel
theorem dX5_same_29 : decode cX5_same 29 = .ok (.getfield 20, 3) := by decide +kernel
theorem dX5_same_32 : decode cX5_same 32 = .ok (.bipush 64, 2) := by decide +kernel
theorem dX5_same_34 : decode cX5_same 34 = .ok (.iload_n 1, 1) := by decide +kernel
theorem dX5_same_35 : decode cX5_same 35 = .ok (.imul, 1) := by decide +kernel
theorem dX5_same_36 : decode cX5_same 36 = .ok (.iload_n 3, 1) := by decide +kernel
theorem dX5_same_37 : decode cX5_same 37 = .ok (.iadd, 1) := by decide +kernel
theorem dX5_same_38 : decode cX5_same 38 = .ok (.laload, 1) := by decide +kernel
theorem dX5_same_39 : decode cX5_same 39 = .ok (.aload_n 0, 1) := by decide +kernel
theorem dX5_same_40 : decode cX5_same 40 = .ok (.getfield 20, 3) := by decide +kernel
theorem dX5_same_43 : decode cX5_same 43 = .ok (.bipush 64, 2) := by decide +kernel
theorem dX5_same_45 : decode cX5_same 45 = .ok (.iload_n 2, 1) := by decide +kernel
theorem dX5_same_46 : decode cX5_same 46 = .ok (.imul, 1) := by decide +kernel
theorem dX5_same_47 : decode cX5_same 47 = .ok (.iload_n 3, 1) := by decide +kernel
theorem dX5_same_48 : decode cX5_same 48 = .ok (.iadd, 1) := by decide +kernel
theorem dX5_same_49 : decode cX5_same 49 = .ok (.laload, 1) := by decide +kernel
theorem dX5_same_50 : decode cX5_same 50 = .ok (.lcmp, 1) := by decide +kernel
theorem dX5_same_51 : decode cX5_same 51 = .ok (.ifCond .eq 5, 3) := by decide +kernel
theorem dX5_same_54 : decode cX5_same 54 = .ok (.iconst 0, 1) := by decide +kernel
theorem dX5_same_55 : decode cX5_same 55 = .ok (.ireturn, 1) := by decide +kernel
theorem dX5_same_56 : decode cX5_same 56 = .ok (.iinc 3 1, 3) := by decide +kernel
theorem dX5_same_59 : decode cX5_same 59 = .ok (.goto (-39), 3) := by decide +kernel
theorem dX5_same_62 : decode cX5_same 62 = .ok (.iconst 1, 1) := by decide +kernel
theorem dX5_same_63 : decode cX5_same 63 = .ok (.ireturn, 1) := by decide +kernel
set_option maxRecDepth 20000 in
theorem ggX5_draw_X5_isLaw : GoodIn wsX5_draw wsX5_isLaw := goodIn_r _ [8, 9, 10, 11, 7, 12, 13, 14, 15, 22, 23, 24, 25, 26, 27, 28, 29, 30, 31, 32, 33, 34] (by decide +kernel) (by decide +kernel)
set_option maxRecDepth 20000 in
theorem gX5_draw_X5_isLaw : GoodIn wsX5_draw (wsV RX5 94 RX5 yX5_isLaw wsX5_isLaw) := goodIn_app (goodIn_of _ (by decide +kernel)) ggX5_draw_X5_isLaw
set_option maxRecDepth 20000 in
theorem ggX5_draw_X5_sumOf : GoodIn wsX5_draw wsX5_sumOf := goodIn_r _ [19, 20, 21, 22, 23, 24, 25, 26, 27, 28, 29, 30, 31, 32, 33, 34] (by decide +kernel) (by decide +kernel)
set_option maxRecDepth 20000 in
theorem gX5_draw_X5_sumOf : GoodIn wsX5_draw (wsV RX5 113 RX5 yX5_sumOf wsX5_sumOf) := goodIn_app (goodIn_of _ (by decide +kernel)) ggX5_draw_X5_sumOf
theorem dX5_draw_0 : decode cX5_draw 0 = .ok (.aload_n 0, 1) := by decide +kernel
theorem dX5_draw_1 : decode cX5_draw 1 = .ok (.iload_n 1, 1) := by decide +kernel
theorem dX5_draw_2 : decode cX5_draw 2 = .ok (.invokevirtual 94, 3) := by decide +kernel
theorem dX5_draw_5 : decode cX5_draw 5 = .ok (.ifCond .ne 5, 3) := by decide +kernel
theorem dX5_draw_8 : decode cX5_draw 8 = .ok (.iconst (-1), 1) := by decide +kernel
theorem dX5_draw_9 : decode cX5_draw 9 = .ok (.ireturn, 1) := by decide +kernel
theorem dX5_draw_10 : decode cX5_draw 10 = .ok (.iconst 0, 1) := by decide +kernel
theorem dX5_draw_11 : decode cX5_draw 11 = .ok (.istore 4, 2) := by decide +kernel
theorem dX5_draw_13 : decode cX5_draw 13 = .ok (.iconst 0, 1) := by decide +kernel
theorem dX5_draw_14 : decode cX5_draw 14 = .ok (.istore 5, 2) := by decide +kernel
theorem dX5_draw_16 : decode cX5_draw 16 = .ok (.lload_n 2, 1) := by decide +kernel
theorem dX5_draw_17 : decode cX5_draw 17 = .ok (.lstore 6, 2) := by decide +kernel
theorem dX5_draw_19 : decode cX5_draw 19 = .ok (.iconst 0, 1) := by decide +kernel
theorem dX5_draw_20 : decode cX5_draw 20 = .ok (.istore 8, 2) := by decide +kernel
theorem dX5_draw_22 : decode cX5_draw 22 = .ok (.iload 8, 2) := by decide +kernel
theorem dX5_draw_24 : decode cX5_draw 24 = .ok (.aload_n 0, 1) := by decide +kernel
theorem dX5_draw_25 : decode cX5_draw 25 = .ok (.getfield 45, 3) := by decide +kernel
theorem dX5_draw_28 : decode cX5_draw 28 = .ok (.if_icmp .ge 83, 3) := by decide +kernel
theorem dX5_draw_31 : decode cX5_draw 31 = .ok (.aload_n 0, 1) := by decide +kernel
theorem dX5_draw_32 : decode cX5_draw 32 = .ok (.iload_n 1, 1) := by decide +kernel
theorem dX5_draw_33 : decode cX5_draw 33 = .ok (.iload 4, 2) := by decide +kernel
theorem dX5_draw_35 : decode cX5_draw 35 = .ok (.iload 5, 2) := by decide +kernel
theorem dX5_draw_37 : decode cX5_draw 37 = .ok (.invokevirtual 113, 3) := by decide +kernel
theorem dX5_draw_40 : decode cX5_draw 40 = .ok (.lstore 9, 2) := by decide +kernel
theorem dX5_draw_42 : decode cX5_draw 42 = .ok (.aload_n 0, 1) := by decide +kernel
theorem dX5_draw_43 : decode cX5_draw 43 = .ok (.iload_n 1, 1) := by decide +kernel
theorem dX5_draw_44 : decode cX5_draw 44 = .ok (.iload 4, 2) := by decide +kernel
theorem dX5_draw_46 : decode cX5_draw 46 = .ok (.iconst 1, 1) := by decide +kernel
theorem dX5_draw_47 : decode cX5_draw 47 = .ok (.iload 8, 2) := by decide +kernel
theorem dX5_draw_49 : decode cX5_draw 49 = .ok (.ishl, 1) := by decide +kernel
theorem dX5_draw_50 : decode cX5_draw 50 = .ok (.ior, 1) := by decide +kernel
theorem dX5_draw_51 : decode cX5_draw 51 = .ok (.iload 5, 2) := by decide +kernel
theorem dX5_draw_53 : decode cX5_draw 53 = .ok (.invokevirtual 113, 3) := by decide +kernel
theorem dX5_draw_56 : decode cX5_draw 56 = .ok (.lstore 11, 2) := by decide +kernel
theorem dX5_draw_58 : decode cX5_draw 58 = .ok (.lload 6, 2) := by decide +kernel
theorem dX5_draw_60 : decode cX5_draw 60 = .ok (.ldc2_w 122, 3) := by decide +kernel
theorem dX5_draw_63 : decode cX5_draw 63 = .ok (.lmul, 1) := by decide +kernel
theorem dX5_draw_64 : decode cX5_draw 64 = .ok (.ldc2_w 124, 3) := by decide +kernel
theorem dX5_draw_67 : decode cX5_draw 67 = .ok (.ladd, 1) := by decide +kernel
theorem dX5_draw_68 : decode cX5_draw 68 = .ok (.lstore 6, 2) := by decide +kernel
theorem dX5_draw_70 : decode cX5_draw 70 = .ok (.lload 6, 2) := by decide +kernel
theorem dX5_draw_72 : decode cX5_draw 72 = .ok (.bipush 33, 2) := by decide +kernel
theorem dX5_draw_74 : decode cX5_draw 74 = .ok (.lushr, 1) := by decide +kernel
theorem dX5_draw_75 : decode cX5_draw 75 = .ok (.lload 9, 2) := by decide +kernel
theorem dX5_draw_77 : decode cX5_draw 77 = .ok (.lrem, 1) := by decide +kernel
theorem dX5_draw_78 : decode cX5_draw 78 = .ok (.lload 11, 2) := by decide +kernel
theorem dX5_draw_80 : decode cX5_draw 80 = .ok (.lcmp, 1) := by decide +kernel
theorem dX5_draw_81 : decode cX5_draw 81 = .ok (.ifCond .ge 15, 3) := by decide +kernel
theorem dX5_draw_84 : decode cX5_draw 84 = .ok (.iload 4, 2) := by decide +kernel
theorem dX5_draw_86 : decode cX5_draw 86 = .ok (.iconst 1, 1) := by decide +kernel
theorem dX5_draw_87 : decode cX5_draw 87 = .ok (.iload 8, 2) := by decide +kernel
theorem dX5_draw_89 : decode cX5_draw 89 = .ok (.ishl, 1) := by decide +kernel
theorem dX5_draw_90 : decode cX5_draw 90 = .ok (.ior, 1) := by decide +kernel
theorem dX5_draw_91 : decode cX5_draw 91 = .ok (.istore 4, 2) := by decide +kernel
theorem dX5_draw_93 : decode cX5_draw 93 = .ok (.goto 12, 3) := by decide +kernel
theorem dX5_draw_96 : decode cX5_draw 96 = .ok (.iload 5, 2) := by decide +kernel
theorem dX5_draw_98 : decode cX5_draw 98 = .ok (.iconst 1, 1) := by decide +kernel
theorem dX5_draw_99 : decode cX5_draw 99 = .ok (.iload 8, 2) := by decide +kernel
theorem dX5_draw_101 : decode cX5_draw 101 = .ok (.ishl, 1) := by decide +kernel
theorem dX5_draw_102 : decode cX5_draw 102 = .ok (.ior, 1) := by decide +kernel
theorem dX5_draw_103 : decode cX5_draw 103 = .ok (.istore 5, 2) := by decide +kernel
theorem dX5_draw_105 : decode cX5_draw 105 = .ok (.iinc 8 1, 3) := by decide +kernel
theorem dX5_draw_108 : decode cX5_draw 108 = .ok (.goto (-86), 3) := by decide +kernel
theorem dX5_draw_111 : decode cX5_draw 111 = .ok (.iload 4, 2) := by decide +kernel
theorem dX5_draw_113 : decode cX5_draw 113 = .ok (.ireturn, 1) := by decide +kernel
theorem dJ6_bitCount_0f7a4_0 : decode cJ6_bitCount_0f7a4 0 = .ok (.iload_n 0, 1) := by decide +kernel
theorem dJ6_bitCount_0f7a4_1 : decode cJ6_bitCount_0f7a4 1 = .ok (.iload_n 0, 1) := by decide +kernel
theorem dJ6_bitCount_0f7a4_2 : decode cJ6_bitCount_0f7a4 2 = .ok (.iconst 1, 1) := by decide +kernel
theorem dJ6_bitCount_0f7a4_3 : decode cJ6_bitCount_0f7a4 3 = .ok (.iushr, 1) := by decide +kernel
theorem dJ6_bitCount_0f7a4_4 : decode cJ6_bitCount_0f7a4 4 = .ok (.ldc_w 265, 3) := by decide +kernel
theorem dJ6_bitCount_0f7a4_7 : decode cJ6_bitCount_0f7a4 7 = .ok (.iand, 1) := by decide +kernel
theorem dJ6_bitCount_0f7a4_8 : decode cJ6_bitCount_0f7a4 8 = .ok (.isub, 1) := by decide +kernel
theorem dJ6_bitCount_0f7a4_9 : decode cJ6_bitCount_0f7a4 9 = .ok (.istore_n 0, 1) := by decide +kernel
theorem dJ6_bitCount_0f7a4_10 : decode cJ6_bitCount_0f7a4 10 = .ok (.iload_n 0, 1) := by decide +kernel
theorem dJ6_bitCount_0f7a4_11 : decode cJ6_bitCount_0f7a4 11 = .ok (.ldc_w 266, 3) := by decide +kernel
theorem dJ6_bitCount_0f7a4_14 : decode cJ6_bitCount_0f7a4 14 = .ok (.iand, 1) := by decide +kernel
theorem dJ6_bitCount_0f7a4_15 : decode cJ6_bitCount_0f7a4 15 = .ok (.iload_n 0, 1) := by decide +kernel
theorem dJ6_bitCount_0f7a4_16 : decode cJ6_bitCount_0f7a4 16 = .ok (.iconst 2, 1) := by decide +kernel
theorem dJ6_bitCount_0f7a4_17 : decode cJ6_bitCount_0f7a4 17 = .ok (.iushr, 1) := by decide +kernel
theorem dJ6_bitCount_0f7a4_18 : decode cJ6_bitCount_0f7a4 18 = .ok (.ldc_w 266, 3) := by decide +kernel
theorem dJ6_bitCount_0f7a4_21 : decode cJ6_bitCount_0f7a4 21 = .ok (.iand, 1) := by decide +kernel
theorem dJ6_bitCount_0f7a4_22 : decode cJ6_bitCount_0f7a4 22 = .ok (.iadd, 1) := by decide +kernel
theorem dJ6_bitCount_0f7a4_23 : decode cJ6_bitCount_0f7a4 23 = .ok (.istore_n 0, 1) := by decide +kernel
theorem dJ6_bitCount_0f7a4_24 : decode cJ6_bitCount_0f7a4 24 = .ok (.iload_n 0, 1) := by decide +kernel
theorem dJ6_bitCount_0f7a4_25 : decode cJ6_bitCount_0f7a4 25 = .ok (.iload_n 0, 1) := by decide +kernel
theorem dJ6_bitCount_0f7a4_26 : decode cJ6_bitCount_0f7a4 26 = .ok (.iconst 4, 1) := by decide +kernel
theorem dJ6_bitCount_0f7a4_27 : decode cJ6_bitCount_0f7a4 27 = .ok (.iushr, 1) := by decide +kernel
theorem dJ6_bitCount_0f7a4_28 : decode cJ6_bitCount_0f7a4 28 = .ok (.iadd, 1) := by decide +kernel
theorem dJ6_bitCount_0f7a4_29 : decode cJ6_bitCount_0f7a4 29 = .ok (.ldc_w 267, 3) := by decide +kernel
theorem dJ6_bitCount_0f7a4_32 : decode cJ6_bitCount_0f7a4 32 = .ok (.iand, 1) := by decide +kernel
theorem dJ6_bitCount_0f7a4_33 : decode cJ6_bitCount_0f7a4 33 = .ok (.istore_n 0, 1) := by decide +kernel
theorem dJ6_bitCount_0f7a4_34 : decode cJ6_bitCount_0f7a4 34 = .ok (.iload_n 0, 1) := by decide +kernel
theorem dJ6_bitCount_0f7a4_35 : decode cJ6_bitCount_0f7a4 35 = .ok (.iload_n 0, 1) := by decide +kernel
theorem dJ6_bitCount_0f7a4_36 : decode cJ6_bitCount_0f7a4 36 = .ok (.bipush 8, 2) := by decide +kernel
theorem dJ6_bitCount_0f7a4_38 : decode cJ6_bitCount_0f7a4 38 = .ok (.iushr, 1) := by decide +kernel
theorem dJ6_bitCount_0f7a4_39 : decode cJ6_bitCount_0f7a4 39 = .ok (.iadd, 1) := by decide +kernel
theorem dJ6_bitCount_0f7a4_40 : decode cJ6_bitCount_0f7a4 40 = .ok (.istore_n 0, 1) := by decide +kernel
theorem dJ6_bitCount_0f7a4_41 : decode cJ6_bitCount_0f7a4 41 = .ok (.iload_n 0, 1) := by decide +kernel
theorem dJ6_bitCount_0f7a4_42 : decode cJ6_bitCount_0f7a4 42 = .ok (.iload_n 0, 1) := by decide +kernel
theorem dJ6_bitCount_0f7a4_43 : decode cJ6_bitCount_0f7a4 43 = .ok (.bipush 16, 2) := by decide +kernel
theorem dJ6_bitCount_0f7a4_45 : decode cJ6_bitCount_0f7a4 45 = .ok (.iushr, 1) := by decide +kernel
theorem dJ6_bitCount_0f7a4_46 : decode cJ6_bitCount_0f7a4 46 = .ok (.iadd, 1) := by decide +kernel
theorem dJ6_bitCount_0f7a4_47 : decode cJ6_bitCount_0f7a4 47 = .ok (.istore_n 0, 1) := by decide +kernel
theorem dJ6_bitCount_0f7a4_48 : decode cJ6_bitCount_0f7a4 48 = .ok (.iload_n 0, 1) := by decide +kernel
theorem dJ6_bitCount_0f7a4_49 : decode cJ6_bitCount_0f7a4 49 = .ok (.bipush 63, 2) := by decide +kernel
theorem dJ6_bitCount_0f7a4_51 : decode cJ6_bitCount_0f7a4 51 = .ok (.iand, 1) := by decide +kernel
theorem dJ6_bitCount_0f7a4_52 : decode cJ6_bitCount_0f7a4 52 = .ok (.ireturn, 1) := by decide +kernel
theorem dJ9_abs_067f4_0 : decode cJ9_abs_067f4 0 = .ok (.lload_n 0, 1) := by decide +kernel
theorem dJ9_abs_067f4_1 : decode cJ9_abs_067f4 1 = .ok (.lconst 0, 1) := by decide +kernel
theorem dJ9_abs_067f4_2 : decode cJ9_abs_067f4 2 = .ok (.lcmp, 1) := by decide +kernel
theorem dJ9_abs_067f4_3 : decode cJ9_abs_067f4 3 = .ok (.ifCond .ge 8, 3) := by decide +kernel
theorem dJ9_abs_067f4_6 : decode cJ9_abs_067f4 6 = .ok (.lload_n 0, 1) := by decide +kernel
theorem dJ9_abs_067f4_7 : decode cJ9_abs_067f4 7 = .ok (.lneg, 1) := by decide +kernel
theorem dJ9_abs_067f4_8 : decode cJ9_abs_067f4 8 = .ok (.goto 4, 3) := by decide +kernel
theorem dJ9_abs_067f4_11 : decode cJ9_abs_067f4 11 = .ok (.lload_n 0, 1) := by decide +kernel
theorem dJ9_abs_067f4_12 : decode cJ9_abs_067f4 12 = .ok (.lreturn, 1) := by decide +kernel
theorem dJ9_max_7cf53_0 : decode cJ9_max_7cf53 0 = .ok (.iload_n 0, 1) := by decide +kernel
theorem dJ9_max_7cf53_1 : decode cJ9_max_7cf53 1 = .ok (.iload_n 1, 1) := by decide +kernel
theorem dJ9_max_7cf53_2 : decode cJ9_max_7cf53 2 = .ok (.if_icmp .lt 7, 3) := by decide +kernel
theorem dJ9_max_7cf53_5 : decode cJ9_max_7cf53 5 = .ok (.iload_n 0, 1) := by decide +kernel
theorem dJ9_max_7cf53_6 : decode cJ9_max_7cf53 6 = .ok (.goto 4, 3) := by decide +kernel
theorem dJ9_max_7cf53_9 : decode cJ9_max_7cf53 9 = .ok (.iload_n 1, 1) := by decide +kernel
theorem dJ9_max_7cf53_10 : decode cJ9_max_7cf53 10 = .ok (.ireturn, 1) := by decide +kernel
theorem dJ9_min_7cf53_0 : decode cJ9_min_7cf53 0 = .ok (.iload_n 0, 1) := by decide +kernel
theorem dJ9_min_7cf53_1 : decode cJ9_min_7cf53 1 = .ok (.iload_n 1, 1) := by decide +kernel
theorem dJ9_min_7cf53_2 : decode cJ9_min_7cf53 2 = .ok (.if_icmp .gt 7, 3) := by decide +kernel
theorem dJ9_min_7cf53_5 : decode cJ9_min_7cf53 5 = .ok (.iload_n 0, 1) := by decide +kernel
theorem dJ9_min_7cf53_6 : decode cJ9_min_7cf53 6 = .ok (.goto 4, 3) := by decide +kernel
theorem dJ9_min_7cf53_9 : decode cJ9_min_7cf53 9 = .ok (.iload_n 1, 1) := by decide +kernel
theorem dJ9_min_7cf53_10 : decode cJ9_min_7cf53 10 = .ok (.ireturn, 1) := by decide +kernel
