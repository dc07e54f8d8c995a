theorem dX0_init_0 : decode cX0_init 0 = .ok (.aload_n 0, 1) := by decide +kernel
theorem dX0_init_1 : decode cX0_init 1 = .ok (.invokespecial 1, 3) := by decide +kernel
theorem dX0_init_4 : decode cX0_init 4 = .ok (.aload_n 0, 1) := by decide +kernel
theorem dX0_init_5 : decode cX0_init 5 = .ok (.iload_n 1, 1) := by decide +kernel
theorem dX0_init_6 : decode cX0_init 6 = .ok (.newarray .long, 2) := by decide +kernel
theorem dX0_init_8 : decode cX0_init 8 = .ok (.putfield 7, 3) := by decide +kernel
theorem dX0_init_11 : decode cX0_init 11 = .ok (.return_, 1) := by decide +kernel
theorem dX0_become_0 : decode cX0_become 0 = .ok (.aload_n 0, 1) := by decide +kernel
theorem dX0_become_1 : decode cX0_become 1 = .ok (.lconst 0, 1) := by decide +kernel
theorem dX0_become_2 : decode cX0_become 2 = .ok (.putfield 13, 3) := by decide +kernel
theorem dX0_become_5 : decode cX0_become 5 = .ok (.iconst 0, 1) := by decide +kernel
theorem dX0_become_6 : decode cX0_become 6 = .ok (.istore_n 2, 1) := by decide +kernel
theorem dX0_become_7 : decode cX0_become 7 = .ok (.iload_n 2, 1) := by decide +kernel
theorem dX0_become_8 : decode cX0_become 8 = .ok (.aload_n 0, 1) := by decide +kernel
theorem dX0_become_9 : decode cX0_become 9 = .ok (.getfield 7, 3) := by decide +kernel
theorem dX0_become_12 : decode cX0_become 12 = .ok (.arraylength, 1) := by decide +kernel
theorem dX0_become_13 : decode cX0_become 13 = .ok (.if_icmp .ge 36, 3) := by decide +kernel
theorem dX0_become_16 : decode cX0_become 16 = .ok (.iload_n 2, 1) := by decide +kernel
theorem dX0_become_17 : decode cX0_become 17 = .ok (.aload_n 1, 1) := by decide +kernel
theorem dX0_become_18 : decode cX0_become 18 = .ok (.arraylength, 1) := by decide +kernel
theorem dX0_become_19 : decode cX0_become 19 = .ok (.if_icmp .ge 30, 3) := by decide +kernel
theorem dX0_become_22 : decode cX0_become 22 = .ok (.aload_n 0, 1) := by decide +kernel
theorem dX0_become_23 : decode cX0_become 23 = .ok (.getfield 7, 3) := by decide +kernel
theorem dX0_become_26 : decode cX0_become 26 = .ok (.iload_n 2, 1) := by decide +kernel
theorem dX0_become_27 : decode cX0_become 27 = .ok (.aload_n 1, 1) := by decide +kernel
theorem dX0_become_28 : decode cX0_become 28 = .ok (.iload_n 2, 1) := by decide +kernel
theorem dX0_become_29 : decode cX0_become 29 = .ok (.laload, 1) := by decide +kernel
theorem dX0_become_30 : decode cX0_become 30 = .ok (.lastore, 1) := by decide +kernel
theorem dX0_become_31 : decode cX0_become 31 = .ok (.aload_n 0, 1) := by decide +kernel
theorem dX0_become_32 : decode cX0_become 32 = .ok (.dup, 1) := by decide +kernel
theorem dX0_become_33 : decode cX0_become 33 = .ok (.getfield 13, 3) := by decide +kernel
theorem dX0_become_36 : decode cX0_become 36 = .ok (.aload_n 1, 1) := by decide +kernel
theorem dX0_become_37 : decode cX0_become 37 = .ok (.iload_n 2, 1) := by decide +kernel
theorem dX0_become_38 : decode cX0_become 38 = .ok (.laload, 1) := by decide +kernel
theorem dX0_become_39 : decode cX0_become 39 = .ok (.ladd, 1) := by decide +kernel
theorem dX0_become_40 : decode cX0_become 40 = .ok (.putfield 13, 3) := by decide +kernel
theorem dX0_become_43 : decode cX0_become 43 = .ok (.iinc 2 1, 3) := by decide +kernel
theorem dX0_become_46 : decode cX0_become 46 = .ok (.goto (-39), 3) := by decide +kernel
theorem dX0_become_49 : decode cX0_become 49 = .ok (.aload_n 0, 1) := by decide +kernel
theorem dX0_become_50 : decode cX0_become 50 = .ok (.iconst 1, 1) := by decide +kernel
theorem dX0_become_51 : decode cX0_become 51 = .ok (.putfield 17, 3) := by decide +kernel
theorem dX0_become_54 : decode cX0_become 54 = .ok (.return_, 1) := by decide +kernel
set_option maxRecDepth 20000 in
theorem ggX0_sumFitting_X4_fits : GoodIn wsX0_sumFitting wsX4_fits := goodIn_r _ [4] (by decide +kernel) (by decide +kernel)
set_option maxRecDepth 20000 in
theorem gX0_sumFitting_X4_fits_n21 : GoodIn wsX0_sumFitting (wsX4_fits) := ggX0_sumFitting_X4_fits
theorem dX0_sumFitting_0 : decode cX0_sumFitting 0 = .ok (.lconst 0, 1) := by decide +kernel
theorem dX0_sumFitting_1 : decode cX0_sumFitting 1 = .ok (.lstore_n 3, 1) := by decide +kernel
theorem dX0_sumFitting_2 : decode cX0_sumFitting 2 = .ok (.iconst 0, 1) := by decide +kernel
theorem dX0_sumFitting_3 : decode cX0_sumFitting 3 = .ok (.istore 5, 2) := by decide +kernel
theorem dX0_sumFitting_5 : decode cX0_sumFitting 5 = .ok (.iload 5, 2) := by decide +kernel
theorem dX0_sumFitting_7 : decode cX0_sumFitting 7 = .ok (.aload_n 0, 1) := by decide +kernel
theorem dX0_sumFitting_8 : decode cX0_sumFitting 8 = .ok (.getfield 7, 3) := by decide +kernel
theorem dX0_sumFitting_11 : decode cX0_sumFitting 11 = .ok (.arraylength, 1) := by decide +kernel
theorem dX0_sumFitting_12 : decode cX0_sumFitting 12 = .ok (.if_icmp .ge 29, 3) := by decide +kernel
theorem dX0_sumFitting_15 : decode cX0_sumFitting 15 = .ok (.iload 5, 2) := by decide +kernel
theorem dX0_sumFitting_17 : decode cX0_sumFitting 17 = .ok (.iload_n 1, 1) := by decide +kernel
theorem dX0_sumFitting_18 : decode cX0_sumFitting 18 = .ok (.iload_n 2, 1) := by decide +kernel
theorem dX0_sumFitting_19 : decode cX0_sumFitting 19 = .ok (.invokestatic 21, 3) := by decide +kernel
theorem dX0_sumFitting_22 : decode cX0_sumFitting 22 = .ok (.ifCond .eq 13, 3) := by decide +kernel
theorem dX0_sumFitting_25 : decode cX0_sumFitting 25 = .ok (.lload_n 3, 1) := by decide +kernel
theorem dX0_sumFitting_26 : decode cX0_sumFitting 26 = .ok (.aload_n 0, 1) := by decide +kernel
theorem dX0_sumFitting_27 : decode cX0_sumFitting 27 = .ok (.getfield 7, 3) := by decide +kernel
theorem dX0_sumFitting_30 : decode cX0_sumFitting 30 = .ok (.iload 5, 2) := by decide +kernel
theorem dX0_sumFitting_32 : decode cX0_sumFitting 32 = .ok (.laload, 1) := by decide +kernel
theorem dX0_sumFitting_33 : decode cX0_sumFitting 33 = .ok (.ladd, 1) := by decide +kernel
theorem dX0_sumFitting_34 : decode cX0_sumFitting 34 = .ok (.lstore_n 3, 1) := by decide +kernel
theorem dX0_sumFitting_35 : decode cX0_sumFitting 35 = .ok (.iinc 5 1, 3) := by decide +kernel
theorem dX0_sumFitting_38 : decode cX0_sumFitting 38 = .ok (.goto (-33), 3) := by decide +kernel
theorem dX0_sumFitting_41 : decode cX0_sumFitting 41 = .ok (.lload_n 3, 1) := by decide +kernel
theorem dX0_sumFitting_42 : decode cX0_sumFitting 42 = .ok (.lreturn, 1) := by decide +kernel
set_option maxRecDepth 20000 in
theorem ggX0_sumOfSize_J6_bitCount_0f7a4 : GoodIn wsX0_sumOfSize wsJ6_bitCount_0f7a4 := goodIn_r _ [5, 6, 7, 8] (by decide +kernel) (by decide +kernel)
set_option maxRecDepth 20000 in
theorem gX0_sumOfSize_J6_bitCount_0f7a4 : GoodIn wsX0_sumOfSize (va_wsS RX0 27 yJ6_bitCount_0f7a4 wsJ6_bitCount_0f7a4) := goodIn_app (goodIn_of _ (by decide +kernel)) ggX0_sumOfSize_J6_bitCount_0f7a4
theorem dX0_sumOfSize_0 : decode cX0_sumOfSize 0 = .ok (.lconst 0, 1) := by decide +kernel
theorem dX0_sumOfSize_1 : decode cX0_sumOfSize 1 = .ok (.lstore_n 2, 1) := by decide +kernel
theorem dX0_sumOfSize_2 : decode cX0_sumOfSize 2 = .ok (.iconst 0, 1) := by decide +kernel
theorem dX0_sumOfSize_3 : decode cX0_sumOfSize 3 = .ok (.istore 4, 2) := by decide +kernel
theorem dX0_sumOfSize_5 : decode cX0_sumOfSize 5 = .ok (.iload 4, 2) := by decide +kernel
theorem dX0_sumOfSize_7 : decode cX0_sumOfSize 7 = .ok (.aload_n 0, 1) := by decide +kernel
theorem dX0_sumOfSize_8 : decode cX0_sumOfSize 8 = .ok (.getfield 7, 3) := by decide +kernel
theorem dX0_sumOfSize_11 : decode cX0_sumOfSize 11 = .ok (.arraylength, 1) := by decide +kernel
theorem dX0_sumOfSize_12 : decode cX0_sumOfSize 12 = .ok (.if_icmp .ge 28, 3) := by decide +kernel
theorem dX0_sumOfSize_15 : decode cX0_sumOfSize 15 = .ok (.iload 4, 2) := by decide +kernel
theorem dX0_sumOfSize_17 : decode cX0_sumOfSize 17 = .ok (.invokestatic 27, 3) := by decide +kernel
theorem dX0_sumOfSize_20 : decode cX0_sumOfSize 20 = .ok (.iload_n 1, 1) := by decide +kernel
theorem dX0_sumOfSize_21 : decode cX0_sumOfSize 21 = .ok (.if_icmp .ne 13, 3) := by decide +kernel
theorem dX0_sumOfSize_24 : decode cX0_sumOfSize 24 = .ok (.lload_n 2, 1) := by decide +kernel
theorem dX0_sumOfSize_25 : decode cX0_sumOfSize 25 = .ok (.aload_n 0, 1) := by decide +kernel
theorem dX0_sumOfSize_26 : decode cX0_sumOfSize 26 = .ok (.getfield 7, 3) := by decide +kernel
theorem dX0_sumOfSize_29 : decode cX0_sumOfSize 29 = .ok (.iload 4, 2) := by decide +kernel
theorem dX0_sumOfSize_31 : decode cX0_sumOfSize 31 = .ok (.laload, 1) := by decide +kernel
theorem dX0_sumOfSize_32 : decode cX0_sumOfSize 32 = .ok (.ladd, 1) := by decide +kernel
theorem dX0_sumOfSize_33 : decode cX0_sumOfSize 33 = .ok (.lstore_n 2, 1) := by decide +kernel
theorem dX0_sumOfSize_34 : decode cX0_sumOfSize 34 = .ok (.iinc 4 1, 3) := by decide +kernel
theorem dX0_sumOfSize_37 : decode cX0_sumOfSize 37 = .ok (.goto (-32), 3) := by decide +kernel
theorem dX0_sumOfSize_40 : decode cX0_sumOfSize 40 = .ok (.lload_n 2, 1) := by decide +kernel
theorem dX0_sumOfSize_41 : decode cX0_sumOfSize 41 = .ok (.lreturn, 1) := by decide +kernel
set_option maxRecDepth 20000 in
theorem ggX0_sumOfCounts_J6_bitCount_0f7a4 : GoodIn wsX0_sumOfCounts wsJ6_bitCount_0f7a4 := goodIn_r _ [5, 6, 7, 8] (by decide +kernel) (by decide +kernel)
set_option maxRecDepth 20000 in
theorem gX0_sumOfCounts_J6_bitCount_0f7a4 : GoodIn wsX0_sumOfCounts (va_wsS RX0 27 yJ6_bitCount_0f7a4 wsJ6_bitCount_0f7a4) := goodIn_app (goodIn_of _ (by decide +kernel)) ggX0_sumOfCounts_J6_bitCount_0f7a4
theorem dX0_sumOfCounts_0 : decode cX0_sumOfCounts 0 = .ok (.lconst 0, 1) := by decide +kernel
theorem dX0_sumOfCounts_1 : decode cX0_sumOfCounts 1 = .ok (.lstore_n 1, 1) := by decide +kernel
theorem dX0_sumOfCounts_2 : decode cX0_sumOfCounts 2 = .ok (.iconst 0, 1) := by decide +kernel
theorem dX0_sumOfCounts_3 : decode cX0_sumOfCounts 3 = .ok (.istore_n 3, 1) := by decide +kernel
theorem dX0_sumOfCounts_4 : decode cX0_sumOfCounts 4 = .ok (.iload_n 3, 1) := by decide +kernel
theorem dX0_sumOfCounts_5 : decode cX0_sumOfCounts 5 = .ok (.aload_n 0, 1) := by decide +kernel
theorem dX0_sumOfCounts_6 : decode cX0_sumOfCounts 6 = .ok (.getfield 7, 3) := by decide +kernel
theorem dX0_sumOfCounts_9 : decode cX0_sumOfCounts 9 = .ok (.arraylength, 1) := by decide +kernel
theorem dX0_sumOfCounts_10 : decode cX0_sumOfCounts 10 = .ok (.if_icmp .ge 24, 3) := by decide +kernel
theorem dX0_sumOfCounts_13 : decode cX0_sumOfCounts 13 = .ok (.lload_n 1, 1) := by decide +kernel
theorem dX0_sumOfCounts_14 : decode cX0_sumOfCounts 14 = .ok (.iload_n 3, 1) := by decide +kernel
theorem dX0_sumOfCounts_15 : decode cX0_sumOfCounts 15 = .ok (.invokestatic 27, 3) := by decide +kernel
theorem dX0_sumOfCounts_18 : decode cX0_sumOfCounts 18 = .ok (.i2l, 1) := by decide +kernel
theorem dX0_sumOfCounts_19 : decode cX0_sumOfCounts 19 = .ok (.aload_n 0, 1) := by decide +kernel
theorem dX0_sumOfCounts_20 : decode cX0_sumOfCounts 20 = .ok (.getfield 7, 3) := by decide +kernel
theorem dX0_sumOfCounts_23 : decode cX0_sumOfCounts 23 = .ok (.iload_n 3, 1) := by decide +kernel
theorem dX0_sumOfCounts_24 : decode cX0_sumOfCounts 24 = .ok (.laload, 1) := by decide +kernel
theorem dX0_sumOfCounts_25 : decode cX0_sumOfCounts 25 = .ok (.lmul, 1) := by decide +kernel
theorem dX0_sumOfCounts_26 : decode cX0_sumOfCounts 26 = .ok (.ladd, 1) := by decide +kernel
theorem dX0_sumOfCounts_27 : decode cX0_sumOfCounts 27 = .ok (.lstore_n 1, 1) := by decide +kernel
theorem dX0_sumOfCounts_28 : decode cX0_sumOfCounts 28 = .ok (.iinc 3 1, 3) := by decide +kernel
theorem dX0_sumOfCounts_31 : decode cX0_sumOfCounts 31 = .ok (.goto (-27), 3) := by decide +kernel
theorem dX0_sumOfCounts_34 : decode cX0_sumOfCounts 34 = .ok (.lload_n 1, 1) := by decide +kernel
theorem dX0_sumOfCounts_35 : decode cX0_sumOfCounts 35 = .ok (.lreturn, 1) := by decide +kernel
set_option maxRecDepth 20000 in
theorem ggX0_sumOfSquares_J6_bitCount_0f7a4 : GoodIn wsX0_sumOfSquares wsJ6_bitCount_0f7a4 := goodIn_r _ [5, 6, 7, 8] (by decide +kernel) (by decide +kernel)
set_option maxRecDepth 20000 in
theorem gX0_sumOfSquares_J6_bitCount_0f7a4 : GoodIn wsX0_sumOfSquares (va_wsS RX0 27 yJ6_bitCount_0f7a4 wsJ6_bitCount_0f7a4) := goodIn_app (goodIn_of _ (by decide +kernel)) ggX0_sumOfSquares_J6_bitCount_0f7a4
theorem dX0_sumOfSquares_0 : decode cX0_sumOfSquares 0 = .ok (.lconst 0, 1) := by decide +kernel
theorem dX0_sumOfSquares_1 : decode cX0_sumOfSquares 1 = .ok (.lstore_n 1, 1) := by decide +kernel
theorem dX0_sumOfSquares_2 : decode cX0_sumOfSquares 2 = .ok (.iconst 0, 1) := by decide +kernel
theorem dX0_sumOfSquares_3 : decode cX0_sumOfSquares 3 = .ok (.istore_n 3, 1) := by decide +kernel
theorem dX0_sumOfSquares_4 : decode cX0_sumOfSquares 4 = .ok (.iload_n 3, 1) := by decide +kernel
theorem dX0_sumOfSquares_5 : decode cX0_sumOfSquares 5 = .ok (.aload_n 0, 1) := by decide +kernel
theorem dX0_sumOfSquares_6 : decode cX0_sumOfSquares 6 = .ok (.getfield 7, 3) := by decide +kernel
theorem dX0_sumOfSquares_9 : decode cX0_sumOfSquares 9 = .ok (.arraylength, 1) := by decide +kernel
theorem dX0_sumOfSquares_10 : decode cX0_sumOfSquares 10 = .ok (.if_icmp .ge 31, 3) := by decide +kernel
theorem dX0_sumOfSquares_13 : decode cX0_sumOfSquares 13 = .ok (.iload_n 3, 1) := by decide +kernel
theorem dX0_sumOfSquares_14 : decode cX0_sumOfSquares 14 = .ok (.invokestatic 27, 3) := by decide +kernel
theorem dX0_sumOfSquares_17 : decode cX0_sumOfSquares 17 = .ok (.i2l, 1) := by decide +kernel
theorem dX0_sumOfSquares_18 : decode cX0_sumOfSquares 18 = .ok (.lstore 4, 2) := by decide +kernel
theorem dX0_sumOfSquares_20 : decode cX0_sumOfSquares 20 = .ok (.lload_n 1, 1) := by decide +kernel
theorem dX0_sumOfSquares_21 : decode cX0_sumOfSquares 21 = .ok (.lload 4, 2) := by decide +kernel
theorem dX0_sumOfSquares_23 : decode cX0_sumOfSquares 23 = .ok (.lload 4, 2) := by decide +kernel
theorem dX0_sumOfSquares_25 : decode cX0_sumOfSquares 25 = .ok (.lmul, 1) := by decide +kernel
theorem dX0_sumOfSquares_26 : decode cX0_sumOfSquares 26 = .ok (.aload_n 0, 1) := by decide +kernel
theorem dX0_sumOfSquares_27 : decode cX0_sumOfSquares 27 = .ok (.getfield 7, 3) := by decide +kernel
theorem dX0_sumOfSquares_30 : decode cX0_sumOfSquares 30 = .ok (.iload_n 3, 1) := by decide +kernel
theorem dX0_sumOfSquares_31 : decode cX0_sumOfSquares 31 = .ok (.laload, 1) := by decide +kernel
theorem dX0_sumOfSquares_32 : decode cX0_sumOfSquares 32 = .ok (.lmul, 1) := by decide +kernel
theorem dX0_sumOfSquares_33 : decode cX0_sumOfSquares 33 = .ok (.ladd, 1) := by decide +kernel
theorem dX0_sumOfSquares_34 : decode cX0_sumOfSquares 34 = .ok (.lstore_n 1, 1) := by decide +kernel
theorem dX0_sumOfSquares_35 : decode cX0_sumOfSquares 35 = .ok (.iinc 3 1, 3) := by decide +kernel
theorem dX0_sumOfSquares_38 : decode cX0_sumOfSquares 38 = .ok (.goto (-34), 3) := by decide +kernel
theorem dX0_sumOfSquares_41 : decode cX0_sumOfSquares 41 = .ok (.lload_n 1, 1) := by decide +kernel
theorem dX0_sumOfSquares_42 : decode cX0_sumOfSquares 42 = .ok (.lreturn, 1) := by decide +kernel
set_option maxRecDepth 20000 in
theorem ggX0_apartness_X0_sumFitting : GoodIn wsX0_apartness wsX0_sumFitting := goodIn_r _ [6, 7, 8, 9, 10, 11, 12, 13] (by decide +kernel) (by decide +kernel)
set_option maxRecDepth 20000 in
theorem gX0_apartness_X0_sumFitting : GoodIn wsX0_apartness (wsV RX0 33 RX0 yX0_sumFitting wsX0_sumFitting) := goodIn_app (goodIn_of _ (by decide +kernel)) ggX0_apartness_X0_sumFitting
theorem dX0_apartness_0 : decode cX0_apartness 0 = .ok (.aload_n 0, 1) := by decide +kernel
theorem dX0_apartness_1 : decode cX0_apartness 1 = .ok (.iload_n 1, 1) := by decide +kernel
theorem dX0_apartness_2 : decode cX0_apartness 2 = .ok (.iconst 0, 1) := by decide +kernel
theorem dX0_apartness_3 : decode cX0_apartness 3 = .ok (.invokevirtual 33, 3) := by decide +kernel
theorem dX0_apartness_6 : decode cX0_apartness 6 = .ok (.aload_n 0, 1) := by decide +kernel
theorem dX0_apartness_7 : decode cX0_apartness 7 = .ok (.iload_n 2, 1) := by decide +kernel
theorem dX0_apartness_8 : decode cX0_apartness 8 = .ok (.iconst 0, 1) := by decide +kernel
theorem dX0_apartness_9 : decode cX0_apartness 9 = .ok (.invokevirtual 33, 3) := by decide +kernel
theorem dX0_apartness_12 : decode cX0_apartness 12 = .ok (.lmul, 1) := by decide +kernel
theorem dX0_apartness_13 : decode cX0_apartness 13 = .ok (.aload_n 0, 1) := by decide +kernel
theorem dX0_apartness_14 : decode cX0_apartness 14 = .ok (.iload_n 1, 1) := by decide +kernel
theorem dX0_apartness_15 : decode cX0_apartness 15 = .ok (.iload_n 2, 1) := by decide +kernel
theorem dX0_apartness_16 : decode cX0_apartness 16 = .ok (.ior, 1) := by decide +kernel
theorem dX0_apartness_17 : decode cX0_apartness 17 = .ok (.iconst 0, 1) := by decide +kernel
theorem dX0_apartness_18 : decode cX0_apartness 18 = .ok (.invokevirtual 33, 3) := by decide +kernel
theorem dX0_apartness_21 : decode cX0_apartness 21 = .ok (.aload_n 0, 1) := by decide +kernel
theorem dX0_apartness_22 : decode cX0_apartness 22 = .ok (.getfield 13, 3) := by decide +kernel
theorem dX0_apartness_25 : decode cX0_apartness 25 = .ok (.lmul, 1) := by decide +kernel
theorem dX0_apartness_26 : decode cX0_apartness 26 = .ok (.lsub, 1) := by decide +kernel
theorem dX0_apartness_27 : decode cX0_apartness 27 = .ok (.lreturn, 1) := by decide +kernel
theorem dX1_init_0 : decode cX1_init 0 = .ok (.aload_n 0, 1) := by decide +kernel
theorem dX1_init_1 : decode cX1_init 1 = .ok (.invokespecial 1, 3) := by decide +kernel
theorem dX1_init_4 : decode cX1_init 4 = .ok (.aload_n 0, 1) := by decide +kernel
theorem dX1_init_5 : decode cX1_init 5 = .ok (.iload_n 1, 1) := by decide +kernel
theorem dX1_init_6 : decode cX1_init 6 = .ok (.putfield 7, 3) := by decide +kernel
theorem dX1_init_9 : decode cX1_init 9 = .ok (.aload_n 0, 1) := by decide +kernel
theorem dX1_init_10 : decode cX1_init 10 = .ok (.iload_n 1, 1) := by decide +kernel
theorem dX1_init_11 : decode cX1_init 11 = .ok (.newarray .int, 2) := by decide +kernel
theorem dX1_init_13 : decode cX1_init 13 = .ok (.putfield 13, 3) := by decide +kernel
theorem dX1_init_16 : decode cX1_init 16 = .ok (.aload_n 0, 1) := by decide +kernel
theorem dX1_init_17 : decode cX1_init 17 = .ok (.iload_n 1, 1) := by decide +kernel
theorem dX1_init_18 : decode cX1_init 18 = .ok (.newarray .int, 2) := by decide +kernel
theorem dX1_init_20 : decode cX1_init 20 = .ok (.putfield 17, 3) := by decide +kernel
theorem dX1_init_23 : decode cX1_init 23 = .ok (.aload_n 0, 1) := by decide +kernel
theorem dX1_init_24 : decode cX1_init 24 = .ok (.iload_n 1, 1) := by decide +kernel
theorem dX1_init_25 : decode cX1_init 25 = .ok (.newarray .int, 2) := by decide +kernel
theorem dX1_init_27 : decode cX1_init 27 = .ok (.putfield 20, 3) := by decide +kernel
theorem dX1_init_30 : decode cX1_init 30 = .ok (.return_, 1) := by decide +kernel
theorem dX1_put_0 : decode cX1_put 0 = .ok (.aload_n 0, 1) := by decide +kernel
theorem dX1_put_1 : decode cX1_put 1 = .ok (.getfield 13, 3) := by decide +kernel
theorem dX1_put_4 : decode cX1_put 4 = .ok (.iload_n 1, 1) := by decide +kernel
theorem dX1_put_5 : decode cX1_put 5 = .ok (.iload_n 2, 1) := by decide +kernel
theorem dX1_put_6 : decode cX1_put 6 = .ok (.iastore, 1) := by decide +kernel
theorem dX1_put_7 : decode cX1_put 7 = .ok (.aload_n 0, 1) := by decide +kernel
theorem dX1_put_8 : decode cX1_put 8 = .ok (.getfield 17, 3) := by decide +kernel
theorem dX1_put_11 : decode cX1_put 11 = .ok (.iload_n 1, 1) := by decide +kernel
theorem dX1_put_12 : decode cX1_put 12 = .ok (.iload_n 3, 1) := by decide +kernel
theorem dX1_put_13 : decode cX1_put 13 = .ok (.iastore, 1) := by decide +kernel
theorem dX1_put_14 : decode cX1_put 14 = .ok (.aload_n 0, 1) := by decide +kernel
theorem dX1_put_15 : decode cX1_put 15 = .ok (.getfield 20, 3) := by decide +kernel
theorem dX1_put_18 : decode cX1_put 18 = .ok (.iload_n 1, 1) := by decide +kernel
theorem dX1_put_19 : decode cX1_put 19 = .ok (.iload 4, 2) := by decide +kernel
theorem dX1_put_21 : decode cX1_put 21 = .ok (.iastore, 1) := by decide +kernel
theorem dX1_put_22 : decode cX1_put 22 = .ok (.return_, 1) := by decide +kernel
set_option maxRecDepth 20000 in
theorem ggX1_sumOfTrees_X2_begin : GoodIn wsX1_sumOfTrees wsX2_begin := goodIn_r _ [9, 10, 11, 12, 13, 14, 15, 16, 17, 18, 46, 47, 48] (by decide +kernel) (by decide +kernel)
set_option maxRecDepth 20000 in
theorem gX1_sumOfTrees_X2_begin : GoodIn wsX1_sumOfTrees (wsV RX1 23 RX2 yX2_begin wsX2_begin) := goodIn_app (goodIn_of _ (by decide +kernel)) ggX1_sumOfTrees_X2_begin
set_option maxRecDepth 20000 in
theorem ggX1_sumOfTrees_X2_add : GoodIn wsX1_sumOfTrees wsX2_add := goodIn_r _ [22, 17, 18, 23, 24, 25, 46, 47, 48] (by decide +kernel) (by decide +kernel)
set_option maxRecDepth 20000 in
theorem gX1_sumOfTrees_X2_add : GoodIn wsX1_sumOfTrees (wsV RX1 29 RX2 yX2_add wsX2_add) := goodIn_app (goodIn_of _ (by decide +kernel)) ggX1_sumOfTrees_X2_add
set_option maxRecDepth 20000 in
theorem ggX1_sumOfTrees_X2_determinant : GoodIn wsX1_sumOfTrees wsX2_determinant := goodIn_r _ [29, 30, 17, 31, 32, 33, 8, 34, 18, 35, 36, 37, 38, 39, 40, 41, 46, 47, 48] (by decide +kernel) (by decide +kernel)
set_option maxRecDepth 20000 in
theorem gX1_sumOfTrees_X2_determinant : GoodIn wsX1_sumOfTrees (wsV RX1 33 RX2 yX2_determinant wsX2_determinant) := goodIn_app (goodIn_of _ (by decide +kernel)) ggX1_sumOfTrees_X2_determinant
theorem dX1_sumOfTrees_0 : decode cX1_sumOfTrees 0 = .ok (.aload_n 2, 1) := by decide +kernel
theorem dX1_sumOfTrees_1 : decode cX1_sumOfTrees 1 = .ok (.iload_n 1, 1) := by decide +kernel
theorem dX1_sumOfTrees_2 : decode cX1_sumOfTrees 2 = .ok (.iconst 1, 1) := by decide +kernel
theorem dX1_sumOfTrees_3 : decode cX1_sumOfTrees 3 = .ok (.isub, 1) := by decide +kernel
theorem dX1_sumOfTrees_4 : decode cX1_sumOfTrees 4 = .ok (.invokevirtual 23, 3) := by decide +kernel
theorem dX1_sumOfTrees_7 : decode cX1_sumOfTrees 7 = .ok (.iconst 0, 1) := by decide +kernel
theorem dX1_sumOfTrees_8 : decode cX1_sumOfTrees 8 = .ok (.istore_n 3, 1) := by decide +kernel
theorem dX1_sumOfTrees_9 : decode cX1_sumOfTrees 9 = .ok (.iload_n 3, 1) := by decide +kernel
theorem dX1_sumOfTrees_10 : decode cX1_sumOfTrees 10 = .ok (.aload_n 0, 1) := by decide +kernel
theorem dX1_sumOfTrees_11 : decode cX1_sumOfTrees 11 = .ok (.getfield 7, 3) := by decide +kernel
theorem dX1_sumOfTrees_14 : decode cX1_sumOfTrees 14 = .ok (.if_icmp .ge 123, 3) := by decide +kernel
theorem dX1_sumOfTrees_17 : decode cX1_sumOfTrees 17 = .ok (.aload_n 0, 1) := by decide +kernel
theorem dX1_sumOfTrees_18 : decode cX1_sumOfTrees 18 = .ok (.getfield 13, 3) := by decide +kernel
theorem dX1_sumOfTrees_21 : decode cX1_sumOfTrees 21 = .ok (.iload_n 3, 1) := by decide +kernel
theorem dX1_sumOfTrees_22 : decode cX1_sumOfTrees 22 = .ok (.iaload, 1) := by decide +kernel
theorem dX1_sumOfTrees_23 : decode cX1_sumOfTrees 23 = .ok (.iload_n 1, 1) := by decide +kernel
theorem dX1_sumOfTrees_24 : decode cX1_sumOfTrees 24 = .ok (.if_icmp .ge 107, 3) := by decide +kernel
theorem dX1_sumOfTrees_27 : decode cX1_sumOfTrees 27 = .ok (.aload_n 0, 1) := by decide +kernel
theorem dX1_sumOfTrees_28 : decode cX1_sumOfTrees 28 = .ok (.getfield 17, 3) := by decide +kernel
theorem dX1_sumOfTrees_31 : decode cX1_sumOfTrees 31 = .ok (.iload_n 3, 1) := by decide +kernel
theorem dX1_sumOfTrees_32 : decode cX1_sumOfTrees 32 = .ok (.iaload, 1) := by decide +kernel
theorem dX1_sumOfTrees_33 : decode cX1_sumOfTrees 33 = .ok (.iload_n 1, 1) := by decide +kernel
theorem dX1_sumOfTrees_34 : decode cX1_sumOfTrees 34 = .ok (.if_icmp .ge 97, 3) := by decide +kernel
theorem dX1_sumOfTrees_37 : decode cX1_sumOfTrees 37 = .ok (.aload_n 2, 1) := by decide +kernel
theorem dX1_sumOfTrees_38 : decode cX1_sumOfTrees 38 = .ok (.aload_n 0, 1) := by decide +kernel
theorem dX1_sumOfTrees_39 : decode cX1_sumOfTrees 39 = .ok (.getfield 13, 3) := by decide +kernel
theorem dX1_sumOfTrees_42 : decode cX1_sumOfTrees 42 = .ok (.iload_n 3, 1) := by decide +kernel
theorem dX1_sumOfTrees_43 : decode cX1_sumOfTrees 43 = .ok (.iaload, 1) := by decide +kernel
theorem dX1_sumOfTrees_44 : decode cX1_sumOfTrees 44 = .ok (.aload_n 0, 1) := by decide +kernel
theorem dX1_sumOfTrees_45 : decode cX1_sumOfTrees 45 = .ok (.getfield 13, 3) := by decide +kernel
theorem dX1_sumOfTrees_48 : decode cX1_sumOfTrees 48 = .ok (.iload_n 3, 1) := by decide +kernel
theorem dX1_sumOfTrees_49 : decode cX1_sumOfTrees 49 = .ok (.iaload, 1) := by decide +kernel
theorem dX1_sumOfTrees_50 : decode cX1_sumOfTrees 50 = .ok (.aload_n 0, 1) := by decide +kernel
theorem dX1_sumOfTrees_51 : decode cX1_sumOfTrees 51 = .ok (.getfield 20, 3) := by decide +kernel
theorem dX1_sumOfTrees_54 : decode cX1_sumOfTrees 54 = .ok (.iload_n 3, 1) := by decide +kernel
theorem dX1_sumOfTrees_55 : decode cX1_sumOfTrees 55 = .ok (.iaload, 1) := by decide +kernel
theorem dX1_sumOfTrees_56 : decode cX1_sumOfTrees 56 = .ok (.i2l, 1) := by decide +kernel
theorem dX1_sumOfTrees_57 : decode cX1_sumOfTrees 57 = .ok (.invokevirtual 29, 3) := by decide +kernel
theorem dX1_sumOfTrees_60 : decode cX1_sumOfTrees 60 = .ok (.aload_n 2, 1) := by decide +kernel
theorem dX1_sumOfTrees_61 : decode cX1_sumOfTrees 61 = .ok (.aload_n 0, 1) := by decide +kernel
theorem dX1_sumOfTrees_62 : decode cX1_sumOfTrees 62 = .ok (.getfield 17, 3) := by decide +kernel
theorem dX1_sumOfTrees_65 : decode cX1_sumOfTrees 65 = .ok (.iload_n 3, 1) := by decide +kernel
theorem dX1_sumOfTrees_66 : decode cX1_sumOfTrees 66 = .ok (.iaload, 1) := by decide +kernel
theorem dX1_sumOfTrees_67 : decode cX1_sumOfTrees 67 = .ok (.aload_n 0, 1) := by decide +kernel
theorem dX1_sumOfTrees_68 : decode cX1_sumOfTrees 68 = .ok (.getfield 17, 3) := by decide +kernel
theorem dX1_sumOfTrees_71 : decode cX1_sumOfTrees 71 = .ok (.iload_n 3, 1) := by decide +kernel
theorem dX1_sumOfTrees_72 : decode cX1_sumOfTrees 72 = .ok (.iaload, 1) := by decide +kernel
theorem dX1_sumOfTrees_73 : decode cX1_sumOfTrees 73 = .ok (.aload_n 0, 1) := by decide +kernel
theorem dX1_sumOfTrees_74 : decode cX1_sumOfTrees 74 = .ok (.getfield 20, 3) := by decide +kernel
theorem dX1_sumOfTrees_77 : decode cX1_sumOfTrees 77 = .ok (.iload_n 3, 1) := by decide +kernel
theorem dX1_sumOfTrees_78 : decode cX1_sumOfTrees 78 = .ok (.iaload, 1) := by decide +kernel
theorem dX1_sumOfTrees_79 : decode cX1_sumOfTrees 79 = .ok (.i2l, 1) := by decide +kernel
theorem dX1_sumOfTrees_80 : decode cX1_sumOfTrees 80 = .ok (.invokevirtual 29, 3) := by decide +kernel
theorem dX1_sumOfTrees_83 : decode cX1_sumOfTrees 83 = .ok (.aload_n 2, 1) := by decide +kernel
theorem dX1_sumOfTrees_84 : decode cX1_sumOfTrees 84 = .ok (.aload_n 0, 1) := by decide +kernel
theorem dX1_sumOfTrees_85 : decode cX1_sumOfTrees 85 = .ok (.getfield 13, 3) := by decide +kernel
theorem dX1_sumOfTrees_88 : decode cX1_sumOfTrees 88 = .ok (.iload_n 3, 1) := by decide +kernel
theorem dX1_sumOfTrees_89 : decode cX1_sumOfTrees 89 = .ok (.iaload, 1) := by decide +kernel
theorem dX1_sumOfTrees_90 : decode cX1_sumOfTrees 90 = .ok (.aload_n 0, 1) := by decide +kernel
theorem dX1_sumOfTrees_91 : decode cX1_sumOfTrees 91 = .ok (.getfield 17, 3) := by decide +kernel
theorem dX1_sumOfTrees_94 : decode cX1_sumOfTrees 94 = .ok (.iload_n 3, 1) := by decide +kernel
theorem dX1_sumOfTrees_95 : decode cX1_sumOfTrees 95 = .ok (.iaload, 1) := by decide +kernel
theorem dX1_sumOfTrees_96 : decode cX1_sumOfTrees 96 = .ok (.aload_n 0, 1) := by decide +kernel
theorem dX1_sumOfTrees_97 : decode cX1_sumOfTrees 97 = .ok (.getfield 20, 3) := by decide +kernel
theorem dX1_sumOfTrees_100 : decode cX1_sumOfTrees 100 = .ok (.iload_n 3, 1) := by decide +kernel
theorem dX1_sumOfTrees_101 : decode cX1_sumOfTrees 101 = .ok (.iaload, 1) := by decide +kernel
theorem dX1_sumOfTrees_102 : decode cX1_sumOfTrees 102 = .ok (.ineg, 1) := by decide +kernel
theorem dX1_sumOfTrees_103 : decode cX1_sumOfTrees 103 = .ok (.i2l, 1) := by decide +kernel
theorem dX1_sumOfTrees_104 : decode cX1_sumOfTrees 104 = .ok (.invokevirtual 29, 3) := by decide +kernel
theorem dX1_sumOfTrees_107 : decode cX1_sumOfTrees 107 = .ok (.aload_n 2, 1) := by decide +kernel
theorem dX1_sumOfTrees_108 : decode cX1_sumOfTrees 108 = .ok (.aload_n 0, 1) := by decide +kernel
theorem dX1_sumOfTrees_109 : decode cX1_sumOfTrees 109 = .ok (.getfield 17, 3) := by decide +kernel
theorem dX1_sumOfTrees_112 : decode cX1_sumOfTrees 112 = .ok (.iload_n 3, 1) := by decide +kernel
theorem dX1_sumOfTrees_113 : decode cX1_sumOfTrees 113 = .ok (.iaload, 1) := by decide +kernel
theorem dX1_sumOfTrees_114 : decode cX1_sumOfTrees 114 = .ok (.aload_n 0, 1) := by decide +kernel
theorem dX1_sumOfTrees_115 : decode cX1_sumOfTrees 115 = .ok (.getfield 13, 3) := by decide +kernel
theorem dX1_sumOfTrees_118 : decode cX1_sumOfTrees 118 = .ok (.iload_n 3, 1) := by decide +kernel
theorem dX1_sumOfTrees_119 : decode cX1_sumOfTrees 119 = .ok (.iaload, 1) := by decide +kernel
theorem dX1_sumOfTrees_120 : decode cX1_sumOfTrees 120 = .ok (.aload_n 0, 1) := by decide +kernel
theorem dX1_sumOfTrees_121 : decode cX1_sumOfTrees 121 = .ok (.getfield 20, 3) := by decide +kernel
theorem dX1_sumOfTrees_124 : decode cX1_sumOfTrees 124 = .ok (.iload_n 3, 1) := by decide +kernel
theorem dX1_sumOfTrees_125 : decode cX1_sumOfTrees 125 = .ok (.iaload, 1) := by decide +kernel
theorem dX1_sumOfTrees_126 : decode cX1_sumOfTrees 126 = .ok (.ineg, 1) := by decide +kernel
theorem dX1_sumOfTrees_127 : decode cX1_sumOfTrees 127 = .ok (.i2l, 1) := by decide +kernel
theorem dX1_sumOfTrees_128 : decode cX1_sumOfTrees 128 = .ok (.invokevirtual 29, 3) := by decide +kernel
theorem dX1_sumOfTrees_131 : decode cX1_sumOfTrees 131 = .ok (.iinc 3 1, 3) := by decide +kernel
theorem dX1_sumOfTrees_134 : decode cX1_sumOfTrees 134 = .ok (.goto (-125), 3) := by decide +kernel
theorem dX1_sumOfTrees_137 : decode cX1_sumOfTrees 137 = .ok (.aload_n 2, 1) := by decide +kernel
theorem dX1_sumOfTrees_138 : decode cX1_sumOfTrees 138 = .ok (.invokevirtual 33, 3) := by decide +kernel
theorem dX1_sumOfTrees_141 : decode cX1_sumOfTrees 141 = .ok (.lreturn, 1) := by decide +kernel
set_option maxRecDepth 20000 in
theorem ggX1_isTree_J6_bitCount_0f7a4 : GoodIn wsX1_isTree wsJ6_bitCount_0f7a4 := goodIn_r _ [4, 5, 6, 7] (by decide +kernel) (by decide +kernel)
set_option maxRecDepth 20000 in
theorem gX1_isTree_J6_bitCount_0f7a4 : GoodIn wsX1_isTree (va_wsS RX1 37 yJ6_bitCount_0f7a4 wsJ6_bitCount_0f7a4) := goodIn_app (goodIn_of _ (by decide +kernel)) ggX1_isTree_J6_bitCount_0f7a4
set_option maxRecDepth 20000 in
theorem ggX1_isTree_X1_joinedOnce : GoodIn wsX1_isTree wsX1_joinedOnce := goodIn_r _ [12, 13, 14, 15, 16, 17, 18, 19, 20, 21, 22] (by decide +kernel) (by decide +kernel)
set_option maxRecDepth 20000 in
theorem gX1_isTree_X1_joinedOnce : GoodIn wsX1_isTree (wsV RX1 43 RX1 yX1_joinedOnce wsX1_joinedOnce) := goodIn_app (goodIn_of _ (by decide +kernel)) ggX1_isTree_X1_joinedOnce
theorem dX1_isTree_0 : decode cX1_isTree 0 = .ok (.iload_n 1, 1) := by decide +kernel
theorem dX1_isTree_1 : decode cX1_isTree 1 = .ok (.invokestatic 37, 3) := by decide +kernel
theorem dX1_isTree_4 : decode cX1_isTree 4 = .ok (.iload_n 2, 1) := by decide +kernel
theorem dX1_isTree_5 : decode cX1_isTree 5 = .ok (.iconst 1, 1) := by decide +kernel
theorem dX1_isTree_6 : decode cX1_isTree 6 = .ok (.isub, 1) := by decide +kernel
theorem dX1_isTree_7 : decode cX1_isTree 7 = .ok (.if_icmp .eq 5, 3) := by decide +kernel
theorem dX1_isTree_10 : decode cX1_isTree 10 = .ok (.iconst 0, 1) := by decide +kernel
theorem dX1_isTree_11 : decode cX1_isTree 11 = .ok (.ireturn, 1) := by decide +kernel
theorem dX1_isTree_12 : decode cX1_isTree 12 = .ok (.iconst 1, 1) := by decide +kernel
theorem dX1_isTree_13 : decode cX1_isTree 13 = .ok (.istore_n 3, 1) := by decide +kernel
theorem dX1_isTree_14 : decode cX1_isTree 14 = .ok (.iconst 1, 1) := by decide +kernel
theorem dX1_isTree_15 : decode cX1_isTree 15 = .ok (.istore 4, 2) := by decide +kernel
theorem dX1_isTree_17 : decode cX1_isTree 17 = .ok (.iload 4, 2) := by decide +kernel
theorem dX1_isTree_19 : decode cX1_isTree 19 = .ok (.iload_n 2, 1) := by decide +kernel
theorem dX1_isTree_20 : decode cX1_isTree 20 = .ok (.if_icmp .ge 16, 3) := by decide +kernel
theorem dX1_isTree_23 : decode cX1_isTree 23 = .ok (.aload_n 0, 1) := by decide +kernel
theorem dX1_isTree_24 : decode cX1_isTree 24 = .ok (.iload_n 3, 1) := by decide +kernel
theorem dX1_isTree_25 : decode cX1_isTree 25 = .ok (.iload_n 1, 1) := by decide +kernel
theorem dX1_isTree_26 : decode cX1_isTree 26 = .ok (.invokevirtual 43, 3) := by decide +kernel
theorem dX1_isTree_29 : decode cX1_isTree 29 = .ok (.istore_n 3, 1) := by decide +kernel
theorem dX1_isTree_30 : decode cX1_isTree 30 = .ok (.iinc 4 1, 3) := by decide +kernel
theorem dX1_isTree_33 : decode cX1_isTree 33 = .ok (.goto (-16), 3) := by decide +kernel
theorem dX1_isTree_36 : decode cX1_isTree 36 = .ok (.iload_n 3, 1) := by decide +kernel
theorem dX1_isTree_37 : decode cX1_isTree 37 = .ok (.iconst 1, 1) := by decide +kernel
theorem dX1_isTree_38 : decode cX1_isTree 38 = .ok (.iload_n 2, 1) := by decide +kernel
theorem dX1_isTree_39 : decode cX1_isTree 39 = .ok (.ishl, 1) := by decide +kernel
theorem dX1_isTree_40 : decode cX1_isTree 40 = .ok (.iconst 1, 1) := by decide +kernel
theorem dX1_isTree_41 : decode cX1_isTree 41 = .ok (.isub, 1) := by decide +kernel
theorem dX1_isTree_42 : decode cX1_isTree 42 = .ok (.if_icmp .ne 7, 3) := by decide +kernel
theorem dX1_isTree_45 : decode cX1_isTree 45 = .ok (.iconst 1, 1) := by decide +kernel
theorem dX1_isTree_46 : decode cX1_isTree 46 = .ok (.goto 4, 3) := by decide +kernel
theorem dX1_isTree_49 : decode cX1_isTree 49 = .ok (.iconst 0, 1) := by decide +kernel
theorem dX1_isTree_50 : decode cX1_isTree 50 = .ok (.ireturn, 1) := by decide +kernel
set_option maxRecDepth 20000 in
theorem ggX1_joinedOnce_X4_has : GoodIn wsX1_joinedOnce wsX4_has := goodIn_r _ [6] (by decide +kernel) (by decide +kernel)
set_option maxRecDepth 20000 in
theorem gX1_joinedOnce_X4_has_n47 : GoodIn wsX1_joinedOnce (wsX4_has) := ggX1_joinedOnce_X4_has
theorem dX1_joinedOnce_0 : decode cX1_joinedOnce 0 = .ok (.iload_n 1, 1) := by decide +kernel
theorem dX1_joinedOnce_1 : decode cX1_joinedOnce 1 = .ok (.istore_n 3, 1) := by decide +kernel
theorem dX1_joinedOnce_2 : decode cX1_joinedOnce 2 = .ok (.iconst 0, 1) := by decide +kernel
theorem dX1_joinedOnce_3 : decode cX1_joinedOnce 3 = .ok (.istore 4, 2) := by decide +kernel
theorem dX1_joinedOnce_5 : decode cX1_joinedOnce 5 = .ok (.iload 4, 2) := by decide +kernel
theorem dX1_joinedOnce_7 : decode cX1_joinedOnce 7 = .ok (.aload_n 0, 1) := by decide +kernel
theorem dX1_joinedOnce_8 : decode cX1_joinedOnce 8 = .ok (.getfield 7, 3) := by decide +kernel
theorem dX1_joinedOnce_11 : decode cX1_joinedOnce 11 = .ok (.if_icmp .ge 51, 3) := by decide +kernel
theorem dX1_joinedOnce_14 : decode cX1_joinedOnce 14 = .ok (.iconst 1, 1) := by decide +kernel
theorem dX1_joinedOnce_15 : decode cX1_joinedOnce 15 = .ok (.aload_n 0, 1) := by decide +kernel
theorem dX1_joinedOnce_16 : decode cX1_joinedOnce 16 = .ok (.getfield 13, 3) := by decide +kernel
theorem dX1_joinedOnce_19 : decode cX1_joinedOnce 19 = .ok (.iload 4, 2) := by decide +kernel
theorem dX1_joinedOnce_21 : decode cX1_joinedOnce 21 = .ok (.iaload, 1) := by decide +kernel
theorem dX1_joinedOnce_22 : decode cX1_joinedOnce 22 = .ok (.ishl, 1) := by decide +kernel
theorem dX1_joinedOnce_23 : decode cX1_joinedOnce 23 = .ok (.iconst 1, 1) := by decide +kernel
theorem dX1_joinedOnce_24 : decode cX1_joinedOnce 24 = .ok (.aload_n 0, 1) := by decide +kernel
theorem dX1_joinedOnce_25 : decode cX1_joinedOnce 25 = .ok (.getfield 17, 3) := by decide +kernel
theorem dX1_joinedOnce_28 : decode cX1_joinedOnce 28 = .ok (.iload 4, 2) := by decide +kernel
theorem dX1_joinedOnce_30 : decode cX1_joinedOnce 30 = .ok (.iaload, 1) := by decide +kernel
theorem dX1_joinedOnce_31 : decode cX1_joinedOnce 31 = .ok (.ishl, 1) := by decide +kernel
theorem dX1_joinedOnce_32 : decode cX1_joinedOnce 32 = .ok (.ior, 1) := by decide +kernel
theorem dX1_joinedOnce_33 : decode cX1_joinedOnce 33 = .ok (.istore 5, 2) := by decide +kernel
theorem dX1_joinedOnce_35 : decode cX1_joinedOnce 35 = .ok (.iload_n 2, 1) := by decide +kernel
theorem dX1_joinedOnce_36 : decode cX1_joinedOnce 36 = .ok (.iload 4, 2) := by decide +kernel
theorem dX1_joinedOnce_38 : decode cX1_joinedOnce 38 = .ok (.invokestatic 47, 3) := by decide +kernel
theorem dX1_joinedOnce_41 : decode cX1_joinedOnce 41 = .ok (.ifCond .eq 15, 3) := by decide +kernel
theorem dX1_joinedOnce_44 : decode cX1_joinedOnce 44 = .ok (.iload_n 3, 1) := by decide +kernel
theorem dX1_joinedOnce_45 : decode cX1_joinedOnce 45 = .ok (.iload 5, 2) := by decide +kernel
theorem dX1_joinedOnce_47 : decode cX1_joinedOnce 47 = .ok (.iand, 1) := by decide +kernel
theorem dX1_joinedOnce_48 : decode cX1_joinedOnce 48 = .ok (.ifCond .eq 8, 3) := by decide +kernel
theorem dX1_joinedOnce_51 : decode cX1_joinedOnce 51 = .ok (.iload_n 3, 1) := by decide +kernel
theorem dX1_joinedOnce_52 : decode cX1_joinedOnce 52 = .ok (.iload 5, 2) := by decide +kernel
theorem dX1_joinedOnce_54 : decode cX1_joinedOnce 54 = .ok (.ior, 1) := by decide +kernel
theorem dX1_joinedOnce_55 : decode cX1_joinedOnce 55 = .ok (.istore_n 3, 1) := by decide +kernel
theorem dX1_joinedOnce_56 : decode cX1_joinedOnce 56 = .ok (.iinc 4 1, 3) := by decide +kernel
theorem dX1_joinedOnce_59 : decode cX1_joinedOnce 59 = .ok (.goto (-54), 3) := by decide +kernel
theorem dX1_joinedOnce_62 : decode cX1_joinedOnce 62 = .ok (.iload_n 3, 1) := by decide +kernel
theorem dX1_joinedOnce_63 : decode cX1_joinedOnce 63 = .ok (.ireturn, 1) := by decide +kernel
set_option maxRecDepth 20000 in
theorem ggX1_productOf_X4_has : GoodIn wsX1_productOf wsX4_has := goodIn_r _ [5] (by decide +kernel) (by decide +kernel)
set_option maxRecDepth 20000 in
theorem gX1_productOf_X4_has_n47 : GoodIn wsX1_productOf (wsX4_has) := ggX1_productOf_X4_has
theorem dX1_productOf_0 : decode cX1_productOf 0 = .ok (.lconst 1, 1) := by decide +kernel
theorem dX1_productOf_1 : decode cX1_productOf 1 = .ok (.lstore_n 2, 1) := by decide +kernel
theorem dX1_productOf_2 : decode cX1_productOf 2 = .ok (.iconst 0, 1) := by decide +kernel
theorem dX1_productOf_3 : decode cX1_productOf 3 = .ok (.istore 4, 2) := by decide +kernel
theorem dX1_productOf_5 : decode cX1_productOf 5 = .ok (.iload 4, 2) := by decide +kernel
theorem dX1_productOf_7 : decode cX1_productOf 7 = .ok (.aload_n 0, 1) := by decide +kernel
theorem dX1_productOf_8 : decode cX1_productOf 8 = .ok (.getfield 7, 3) := by decide +kernel
theorem dX1_productOf_11 : decode cX1_productOf 11 = .ok (.if_icmp .ge 29, 3) := by decide +kernel
theorem dX1_productOf_14 : decode cX1_productOf 14 = .ok (.iload_n 1, 1) := by decide +kernel
theorem dX1_productOf_15 : decode cX1_productOf 15 = .ok (.iload 4, 2) := by decide +kernel
theorem dX1_productOf_17 : decode cX1_productOf 17 = .ok (.invokestatic 47, 3) := by decide +kernel
theorem dX1_productOf_20 : decode cX1_productOf 20 = .ok (.ifCond .eq 14, 3) := by decide +kernel
theorem dX1_productOf_23 : decode cX1_productOf 23 = .ok (.lload_n 2, 1) := by decide +kernel
theorem dX1_productOf_24 : decode cX1_productOf 24 = .ok (.aload_n 0, 1) := by decide +kernel
theorem dX1_productOf_25 : decode cX1_productOf 25 = .ok (.getfield 20, 3) := by decide +kernel
theorem dX1_productOf_28 : decode cX1_productOf 28 = .ok (.iload 4, 2) := by decide +kernel
theorem dX1_productOf_30 : decode cX1_productOf 30 = .ok (.iaload, 1) := by decide +kernel
theorem dX1_productOf_31 : decode cX1_productOf 31 = .ok (.i2l, 1) := by decide +kernel
theorem dX1_productOf_32 : decode cX1_productOf 32 = .ok (.lmul, 1) := by decide +kernel
theorem dX1_productOf_33 : decode cX1_productOf 33 = .ok (.lstore_n 2, 1) := by decide +kernel
theorem dX1_productOf_34 : decode cX1_productOf 34 = .ok (.iinc 4 1, 3) := by decide +kernel
theorem dX1_productOf_37 : decode cX1_productOf 37 = .ok (.goto (-32), 3) := by decide +kernel
theorem dX1_productOf_40 : decode cX1_productOf 40 = .ok (.lload_n 2, 1) := by decide +kernel
theorem dX1_productOf_41 : decode cX1_productOf 41 = .ok (.lreturn, 1) := by decide +kernel
theorem dX2_init_0 : decode cX2_init 0 = .ok (.aload_n 0, 1) := by decide +kernel
theorem dX2_init_1 : decode cX2_init 1 = .ok (.invokespecial 3, 3) := by decide +kernel
theorem dX2_init_4 : decode cX2_init 4 = .ok (.aload_n 0, 1) := by decide +kernel
theorem dX2_init_5 : decode cX2_init 5 = .ok (.bipush 36, 2) := by decide +kernel
theorem dX2_init_7 : decode cX2_init 7 = .ok (.newarray .long, 2) := by decide +kernel
theorem dX2_init_9 : decode cX2_init 9 = .ok (.putfield 9, 3) := by decide +kernel
theorem dX2_init_12 : decode cX2_init 12 = .ok (.aload_n 0, 1) := by decide +kernel
theorem dX2_init_13 : decode cX2_init 13 = .ok (.bipush 64, 2) := by decide +kernel
theorem dX2_init_15 : decode cX2_init 15 = .ok (.newarray .long, 2) := by decide +kernel
theorem dX2_init_17 : decode cX2_init 17 = .ok (.putfield 15, 3) := by decide +kernel
theorem dX2_init_20 : decode cX2_init 20 = .ok (.return_, 1) := by decide +kernel
theorem dX2_begin_0 : decode cX2_begin 0 = .ok (.aload_n 0, 1) := by decide +kernel
theorem dX2_begin_1 : decode cX2_begin 1 = .ok (.iconst 0, 1) := by decide +kernel
theorem dX2_begin_2 : decode cX2_begin 2 = .ok (.bipush 6, 2) := by decide +kernel
theorem dX2_begin_4 : decode cX2_begin 4 = .ok (.iload_n 1, 1) := by decide +kernel
theorem dX2_begin_5 : decode cX2_begin 5 = .ok (.invokestatic 18, 3) := by decide +kernel
theorem dX2_begin_8 : decode cX2_begin 8 = .ok (.invokestatic 24, 3) := by decide +kernel
theorem dX2_begin_11 : decode cX2_begin 11 = .ok (.putfield 27, 3) := by decide +kernel
theorem dX2_begin_14 : decode cX2_begin 14 = .ok (.iconst 0, 1) := by decide +kernel
theorem dX2_begin_15 : decode cX2_begin 15 = .ok (.istore_n 2, 1) := by decide +kernel
theorem dX2_begin_16 : decode cX2_begin 16 = .ok (.iload_n 2, 1) := by decide +kernel
theorem dX2_begin_17 : decode cX2_begin 17 = .ok (.aload_n 0, 1) := by decide +kernel
theorem dX2_begin_18 : decode cX2_begin 18 = .ok (.getfield 9, 3) := by decide +kernel
theorem dX2_begin_21 : decode cX2_begin 21 = .ok (.arraylength, 1) := by decide +kernel
theorem dX2_begin_22 : decode cX2_begin 22 = .ok (.if_icmp .ge 16, 3) := by decide +kernel
theorem dX2_begin_25 : decode cX2_begin 25 = .ok (.aload_n 0, 1) := by decide +kernel
theorem dX2_begin_26 : decode cX2_begin 26 = .ok (.getfield 9, 3) := by decide +kernel
theorem dX2_begin_29 : decode cX2_begin 29 = .ok (.iload_n 2, 1) := by decide +kernel
theorem dX2_begin_30 : decode cX2_begin 30 = .ok (.lconst 0, 1) := by decide +kernel
theorem dX2_begin_31 : decode cX2_begin 31 = .ok (.lastore, 1) := by decide +kernel
theorem dX2_begin_32 : decode cX2_begin 32 = .ok (.iinc 2 1, 3) := by decide +kernel
theorem dX2_begin_35 : decode cX2_begin 35 = .ok (.goto (-19), 3) := by decide +kernel
theorem dX2_begin_38 : decode cX2_begin 38 = .ok (.return_, 1) := by decide +kernel
set_option maxRecDepth 20000 in
theorem ggX2_add_X4_isAmong : GoodIn wsX2_add wsX4_isAmong := goodIn_r _ [5] (by decide +kernel) (by decide +kernel)
set_option maxRecDepth 20000 in
theorem gX2_add_X4_isAmong_n31 : GoodIn wsX2_add (wsX4_isAmong) := ggX2_add_X4_isAmong
theorem dX2_add_0 : decode cX2_add 0 = .ok (.iload_n 1, 1) := by decide +kernel
theorem dX2_add_1 : decode cX2_add 1 = .ok (.iconst 0, 1) := by decide +kernel
theorem dX2_add_2 : decode cX2_add 2 = .ok (.aload_n 0, 1) := by decide +kernel
theorem dX2_add_3 : decode cX2_add 3 = .ok (.getfield 27, 3) := by decide +kernel
theorem dX2_add_6 : decode cX2_add 6 = .ok (.iconst 1, 1) := by decide +kernel
theorem dX2_add_7 : decode cX2_add 7 = .ok (.isub, 1) := by decide +kernel
theorem dX2_add_8 : decode cX2_add 8 = .ok (.invokestatic 31, 3) := by decide +kernel
theorem dX2_add_11 : decode cX2_add 11 = .ok (.ifCond .eq 32, 3) := by decide +kernel
theorem dX2_add_14 : decode cX2_add 14 = .ok (.iload_n 2, 1) := by decide +kernel
theorem dX2_add_15 : decode cX2_add 15 = .ok (.iconst 0, 1) := by decide +kernel
theorem dX2_add_16 : decode cX2_add 16 = .ok (.aload_n 0, 1) := by decide +kernel
theorem dX2_add_17 : decode cX2_add 17 = .ok (.getfield 27, 3) := by decide +kernel
theorem dX2_add_20 : decode cX2_add 20 = .ok (.iconst 1, 1) := by decide +kernel
theorem dX2_add_21 : decode cX2_add 21 = .ok (.isub, 1) := by decide +kernel
theorem dX2_add_22 : decode cX2_add 22 = .ok (.invokestatic 31, 3) := by decide +kernel
theorem dX2_add_25 : decode cX2_add 25 = .ok (.ifCond .eq 18, 3) := by decide +kernel
theorem dX2_add_28 : decode cX2_add 28 = .ok (.aload_n 0, 1) := by decide +kernel
theorem dX2_add_29 : decode cX2_add 29 = .ok (.getfield 9, 3) := by decide +kernel
theorem dX2_add_32 : decode cX2_add 32 = .ok (.iload_n 1, 1) := by decide +kernel
theorem dX2_add_33 : decode cX2_add 33 = .ok (.bipush 6, 2) := by decide +kernel
theorem dX2_add_35 : decode cX2_add 35 = .ok (.imul, 1) := by decide +kernel
theorem dX2_add_36 : decode cX2_add 36 = .ok (.iload_n 2, 1) := by decide +kernel
theorem dX2_add_37 : decode cX2_add 37 = .ok (.iadd, 1) := by decide +kernel
theorem dX2_add_38 : decode cX2_add 38 = .ok (.dup2, 1) := by decide +kernel
theorem dX2_add_39 : decode cX2_add 39 = .ok (.laload, 1) := by decide +kernel
theorem dX2_add_40 : decode cX2_add 40 = .ok (.lload_n 3, 1) := by decide +kernel
theorem dX2_add_41 : decode cX2_add 41 = .ok (.ladd, 1) := by decide +kernel
theorem dX2_add_42 : decode cX2_add 42 = .ok (.lastore, 1) := by decide +kernel
theorem dX2_add_43 : decode cX2_add 43 = .ok (.return_, 1) := by decide +kernel
set_option maxRecDepth 20000 in
theorem ggX2_determinant_X2_alongLastRow : GoodIn wsX2_determinant wsX2_alongLastRow := goodIn_r _ [7, 2, 8, 1, 9, 10, 11, 12, 13, 14, 15, 16, 17, 18] (by decide +kernel) (by decide +kernel)
set_option maxRecDepth 20000 in
theorem gX2_determinant_X2_alongLastRow : GoodIn wsX2_determinant (wsV RX2 35 RX2 yX2_alongLastRow wsX2_alongLastRow) := goodIn_app (goodIn_of _ (by decide +kernel)) ggX2_determinant_X2_alongLastRow
theorem dX2_determinant_0 : decode cX2_determinant 0 = .ok (.aload_n 0, 1) := by decide +kernel
theorem dX2_determinant_1 : decode cX2_determinant 1 = .ok (.getfield 15, 3) := by decide +kernel
theorem dX2_determinant_4 : decode cX2_determinant 4 = .ok (.iconst 0, 1) := by decide +kernel
theorem dX2_determinant_5 : decode cX2_determinant 5 = .ok (.lconst 1, 1) := by decide +kernel
theorem dX2_determinant_6 : decode cX2_determinant 6 = .ok (.lastore, 1) := by decide +kernel
theorem dX2_determinant_7 : decode cX2_determinant 7 = .ok (.iconst 1, 1) := by decide +kernel
theorem dX2_determinant_8 : decode cX2_determinant 8 = .ok (.aload_n 0, 1) := by decide +kernel
theorem dX2_determinant_9 : decode cX2_determinant 9 = .ok (.getfield 27, 3) := by decide +kernel
theorem dX2_determinant_12 : decode cX2_determinant 12 = .ok (.ishl, 1) := by decide +kernel
theorem dX2_determinant_13 : decode cX2_determinant 13 = .ok (.iconst 1, 1) := by decide +kernel
theorem dX2_determinant_14 : decode cX2_determinant 14 = .ok (.isub, 1) := by decide +kernel
theorem dX2_determinant_15 : decode cX2_determinant 15 = .ok (.istore_n 1, 1) := by decide +kernel
theorem dX2_determinant_16 : decode cX2_determinant 16 = .ok (.iconst 1, 1) := by decide +kernel
theorem dX2_determinant_17 : decode cX2_determinant 17 = .ok (.istore_n 2, 1) := by decide +kernel
theorem dX2_determinant_18 : decode cX2_determinant 18 = .ok (.iload_n 2, 1) := by decide +kernel
theorem dX2_determinant_19 : decode cX2_determinant 19 = .ok (.iload_n 1, 1) := by decide +kernel
theorem dX2_determinant_20 : decode cX2_determinant 20 = .ok (.if_icmp .gt 20, 3) := by decide +kernel
theorem dX2_determinant_23 : decode cX2_determinant 23 = .ok (.aload_n 0, 1) := by decide +kernel
theorem dX2_determinant_24 : decode cX2_determinant 24 = .ok (.getfield 15, 3) := by decide +kernel
theorem dX2_determinant_27 : decode cX2_determinant 27 = .ok (.iload_n 2, 1) := by decide +kernel
theorem dX2_determinant_28 : decode cX2_determinant 28 = .ok (.aload_n 0, 1) := by decide +kernel
theorem dX2_determinant_29 : decode cX2_determinant 29 = .ok (.iload_n 2, 1) := by decide +kernel
theorem dX2_determinant_30 : decode cX2_determinant 30 = .ok (.invokevirtual 35, 3) := by decide +kernel
theorem dX2_determinant_33 : decode cX2_determinant 33 = .ok (.lastore, 1) := by decide +kernel
theorem dX2_determinant_34 : decode cX2_determinant 34 = .ok (.iinc 2 1, 3) := by decide +kernel
theorem dX2_determinant_37 : decode cX2_determinant 37 = .ok (.goto (-19), 3) := by decide +kernel
theorem dX2_determinant_40 : decode cX2_determinant 40 = .ok (.aload_n 0, 1) := by decide +kernel
theorem dX2_determinant_41 : decode cX2_determinant 41 = .ok (.getfield 15, 3) := by decide +kernel
theorem dX2_determinant_44 : decode cX2_determinant 44 = .ok (.iload_n 1, 1) := by decide +kernel
theorem dX2_determinant_45 : decode cX2_determinant 45 = .ok (.laload, 1) := by decide +kernel
theorem dX2_determinant_46 : decode cX2_determinant 46 = .ok (.lreturn, 1) := by decide +kernel
set_option maxRecDepth 20000 in
theorem ggX2_alongLastRow_J6_bitCount_0f7a4 : GoodIn wsX2_alongLastRow wsJ6_bitCount_0f7a4 := goodIn_r _ [7, 8, 9, 10] (by decide +kernel) (by decide +kernel)
set_option maxRecDepth 20000 in
theorem gX2_alongLastRow_J6_bitCount_0f7a4 : GoodIn wsX2_alongLastRow (va_wsS RX2 39 yJ6_bitCount_0f7a4 wsJ6_bitCount_0f7a4) := goodIn_app (goodIn_of _ (by decide +kernel)) ggX2_alongLastRow_J6_bitCount_0f7a4
theorem dX2_alongLastRow_0 : decode cX2_alongLastRow 0 = .ok (.iload_n 1, 1) := by decide +kernel
theorem dX2_alongLastRow_1 : decode cX2_alongLastRow 1 = .ok (.invokestatic 39, 3) := by decide +kernel
theorem dX2_alongLastRow_4 : decode cX2_alongLastRow 4 = .ok (.iconst 1, 1) := by decide +kernel
theorem dX2_alongLastRow_5 : decode cX2_alongLastRow 5 = .ok (.isub, 1) := by decide +kernel
theorem dX2_alongLastRow_6 : decode cX2_alongLastRow 6 = .ok (.bipush 6, 2) := by decide +kernel
theorem dX2_alongLastRow_8 : decode cX2_alongLastRow 8 = .ok (.imul, 1) := by decide +kernel
theorem dX2_alongLastRow_9 : decode cX2_alongLastRow 9 = .ok (.istore_n 2, 1) := by decide +kernel
theorem dX2_alongLastRow_10 : decode cX2_alongLastRow 10 = .ok (.lconst 1, 1) := by decide +kernel
theorem dX2_alongLastRow_11 : decode cX2_alongLastRow 11 = .ok (.lstore_n 3, 1) := by decide +kernel
theorem dX2_alongLastRow_12 : decode cX2_alongLastRow 12 = .ok (.lconst 0, 1) := by decide +kernel
theorem dX2_alongLastRow_13 : decode cX2_alongLastRow 13 = .ok (.lstore 5, 2) := by decide +kernel
theorem dX2_alongLastRow_15 : decode cX2_alongLastRow 15 = .ok (.aload_n 0, 1) := by decide +kernel
theorem dX2_alongLastRow_16 : decode cX2_alongLastRow 16 = .ok (.getfield 27, 3) := by decide +kernel
theorem dX2_alongLastRow_19 : decode cX2_alongLastRow 19 = .ok (.iconst 1, 1) := by decide +kernel
theorem dX2_alongLastRow_20 : decode cX2_alongLastRow 20 = .ok (.isub, 1) := by decide +kernel
theorem dX2_alongLastRow_21 : decode cX2_alongLastRow 21 = .ok (.istore 7, 2) := by decide +kernel
theorem dX2_alongLastRow_23 : decode cX2_alongLastRow 23 = .ok (.iload 7, 2) := by decide +kernel
theorem dX2_alongLastRow_25 : decode cX2_alongLastRow 25 = .ok (.ifCond .lt 51, 3) := by decide +kernel
theorem dX2_alongLastRow_28 : decode cX2_alongLastRow 28 = .ok (.iconst 1, 1) := by decide +kernel
theorem dX2_alongLastRow_29 : decode cX2_alongLastRow 29 = .ok (.iload 7, 2) := by decide +kernel
theorem dX2_alongLastRow_31 : decode cX2_alongLastRow 31 = .ok (.ishl, 1) := by decide +kernel
theorem dX2_alongLastRow_32 : decode cX2_alongLastRow 32 = .ok (.istore 8, 2) := by decide +kernel
theorem dX2_alongLastRow_34 : decode cX2_alongLastRow 34 = .ok (.iload_n 1, 1) := by decide +kernel
theorem dX2_alongLastRow_35 : decode cX2_alongLastRow 35 = .ok (.iload 8, 2) := by decide +kernel
theorem dX2_alongLastRow_37 : decode cX2_alongLastRow 37 = .ok (.iand, 1) := by decide +kernel
theorem dX2_alongLastRow_38 : decode cX2_alongLastRow 38 = .ok (.ifCond .eq 32, 3) := by decide +kernel
theorem dX2_alongLastRow_41 : decode cX2_alongLastRow 41 = .ok (.lload 5, 2) := by decide +kernel
theorem dX2_alongLastRow_43 : decode cX2_alongLastRow 43 = .ok (.lload_n 3, 1) := by decide +kernel
theorem dX2_alongLastRow_44 : decode cX2_alongLastRow 44 = .ok (.aload_n 0, 1) := by decide +kernel
theorem dX2_alongLastRow_45 : decode cX2_alongLastRow 45 = .ok (.getfield 9, 3) := by decide +kernel
theorem dX2_alongLastRow_48 : decode cX2_alongLastRow 48 = .ok (.iload_n 2, 1) := by decide +kernel
theorem dX2_alongLastRow_49 : decode cX2_alongLastRow 49 = .ok (.iload 7, 2) := by decide +kernel
theorem dX2_alongLastRow_51 : decode cX2_alongLastRow 51 = .ok (.iadd, 1) := by decide +kernel
theorem dX2_alongLastRow_52 : decode cX2_alongLastRow 52 = .ok (.laload, 1) := by decide +kernel
theorem dX2_alongLastRow_53 : decode cX2_alongLastRow 53 = .ok (.lmul, 1) := by decide +kernel
theorem dX2_alongLastRow_54 : decode cX2_alongLastRow 54 = .ok (.aload_n 0, 1) := by decide +kernel
theorem dX2_alongLastRow_55 : decode cX2_alongLastRow 55 = .ok (.getfield 15, 3) := by decide +kernel
theorem dX2_alongLastRow_58 : decode cX2_alongLastRow 58 = .ok (.iload_n 1, 1) := by decide +kernel
theorem dX2_alongLastRow_59 : decode cX2_alongLastRow 59 = .ok (.iload 8, 2) := by decide +kernel
theorem dX2_alongLastRow_61 : decode cX2_alongLastRow 61 = .ok (.isub, 1) := by decide +kernel
theorem dX2_alongLastRow_62 : decode cX2_alongLastRow 62 = .ok (.laload, 1) := by decide +kernel
theorem dX2_alongLastRow_63 : decode cX2_alongLastRow 63 = .ok (.lmul, 1) := by decide +kernel
theorem dX2_alongLastRow_64 : decode cX2_alongLastRow 64 = .ok (.ladd, 1) := by decide +kernel
theorem dX2_alongLastRow_65 : decode cX2_alongLastRow 65 = .ok (.lstore 5, 2) := by decide +kernel
theorem dX2_alongLastRow_67 : decode cX2_alongLastRow 67 = .ok (.lload_n 3, 1) := by decide +kernel
theorem dX2_alongLastRow_68 : decode cX2_alongLastRow 68 = .ok (.lneg, 1) := by decide +kernel
theorem dX2_alongLastRow_69 : decode cX2_alongLastRow 69 = .ok (.lstore_n 3, 1) := by decide +kernel
theorem dX2_alongLastRow_70 : decode cX2_alongLastRow 70 = .ok (.iinc 7 (-1), 3) := by decide +kernel
theorem dX2_alongLastRow_73 : decode cX2_alongLastRow 73 = .ok (.goto (-50), 3) := by decide +kernel
theorem dX2_alongLastRow_76 : decode cX2_alongLastRow 76 = .ok (.lload 5, 2) := by decide +kernel
theorem dX2_alongLastRow_78 : decode cX2_alongLastRow 78 = .ok (.lreturn, 1) := by decide +kernel
theorem dX3_init_0 : decode cX3_init 0 = .ok (.aload_n 0, 1) := by decide +kernel
theorem dX3_init_1 : decode cX3_init 1 = .ok (.invokespecial 1, 3) := by decide +kernel
theorem dX3_init_4 : decode cX3_init 4 = .ok (.aload_n 0, 1) := by decide +kernel
theorem dX3_init_5 : decode cX3_init 5 = .ok (.iload_n 1, 1) := by decide +kernel
theorem dX3_init_6 : decode cX3_init 6 = .ok (.putfield 7, 3) := by decide +kernel
theorem dX3_init_9 : decode cX3_init 9 = .ok (.aload_n 0, 1) := by decide +kernel
theorem dX3_init_10 : decode cX3_init 10 = .ok (.iload_n 1, 1) := by decide +kernel
theorem dX3_init_11 : decode cX3_init 11 = .ok (.iload_n 1, 1) := by decide +kernel
theorem dX3_init_12 : decode cX3_init 12 = .ok (.imul, 1) := by decide +kernel
theorem dX3_init_13 : decode cX3_init 13 = .ok (.newarray .int, 2) := by decide +kernel
theorem dX3_init_15 : decode cX3_init 15 = .ok (.putfield 13, 3) := by decide +kernel
theorem dX3_init_18 : decode cX3_init 18 = .ok (.return_, 1) := by decide +kernel
theorem dX3_put_0 : decode cX3_put 0 = .ok (.aload_n 0, 1) := by decide +kernel
theorem dX3_put_1 : decode cX3_put 1 = .ok (.getfield 13, 3) := by decide +kernel
theorem dX3_put_4 : decode cX3_put 4 = .ok (.iload_n 1, 1) := by decide +kernel
theorem dX3_put_5 : decode cX3_put 5 = .ok (.aload_n 0, 1) := by decide +kernel
theorem dX3_put_6 : decode cX3_put 6 = .ok (.getfield 7, 3) := by decide +kernel
theorem dX3_put_9 : decode cX3_put 9 = .ok (.imul, 1) := by decide +kernel
theorem dX3_put_10 : decode cX3_put 10 = .ok (.iload_n 2, 1) := by decide +kernel
theorem dX3_put_11 : decode cX3_put 11 = .ok (.iadd, 1) := by decide +kernel
theorem dX3_put_12 : decode cX3_put 12 = .ok (.iload_n 3, 1) := by decide +kernel
theorem dX3_put_13 : decode cX3_put 13 = .ok (.iastore, 1) := by decide +kernel
theorem dX3_put_14 : decode cX3_put 14 = .ok (.aload_n 0, 1) := by decide +kernel
theorem dX3_put_15 : decode cX3_put 15 = .ok (.getfield 13, 3) := by decide +kernel
theorem dX3_put_18 : decode cX3_put 18 = .ok (.iload_n 2, 1) := by decide +kernel
theorem dX3_put_19 : decode cX3_put 19 = .ok (.aload_n 0, 1) := by decide +kernel
theorem dX3_put_20 : decode cX3_put 20 = .ok (.getfield 7, 3) := by decide +kernel
theorem dX3_put_23 : decode cX3_put 23 = .ok (.imul, 1) := by decide +kernel
theorem dX3_put_24 : decode cX3_put 24 = .ok (.iload_n 1, 1) := by decide +kernel
theorem dX3_put_25 : decode cX3_put 25 = .ok (.iadd, 1) := by decide +kernel
theorem dX3_put_26 : decode cX3_put 26 = .ok (.iload_n 3, 1) := by decide +kernel
theorem dX3_put_27 : decode cX3_put 27 = .ok (.iastore, 1) := by decide +kernel
theorem dX3_put_28 : decode cX3_put 28 = .ok (.return_, 1) := by decide +kernel
theorem dX3_at_0 : decode cX3_at 0 = .ok (.aload_n 0, 1) := by decide +kernel
theorem dX3_at_1 : decode cX3_at 1 = .ok (.getfield 13, 3) := by decide +kernel
theorem dX3_at_4 : decode cX3_at 4 = .ok (.iload_n 1, 1) := by decide +kernel
theorem dX3_at_5 : decode cX3_at 5 = .ok (.aload_n 0, 1) := by decide +kernel
theorem dX3_at_6 : decode cX3_at 6 = .ok (.getfield 7, 3) := by decide +kernel
theorem dX3_at_9 : decode cX3_at 9 = .ok (.imul, 1) := by decide +kernel
theorem dX3_at_10 : decode cX3_at 10 = .ok (.iload_n 2, 1) := by decide +kernel
theorem dX3_at_11 : decode cX3_at 11 = .ok (.iadd, 1) := by decide +kernel
theorem dX3_at_12 : decode cX3_at 12 = .ok (.iaload, 1) := by decide +kernel
theorem dX3_at_13 : decode cX3_at 13 = .ok (.ireturn, 1) := by decide +kernel
set_option maxRecDepth 20000 in
theorem ggX3_worthOf_J6_bitCount_0f7a4 : GoodIn wsX3_worthOf wsJ6_bitCount_0f7a4 := goodIn_r _ [5, 6, 7, 8] (by decide +kernel) (by decide +kernel)
set_option maxRecDepth 20000 in
theorem gX3_worthOf_J6_bitCount_0f7a4 : GoodIn wsX3_worthOf (va_wsS RX3 17 yJ6_bitCount_0f7a4 wsJ6_bitCount_0f7a4) := goodIn_app (goodIn_of _ (by decide +kernel)) ggX3_worthOf_J6_bitCount_0f7a4
set_option maxRecDepth 20000 in
theorem ggX3_worthOf_X2_begin : GoodIn wsX3_worthOf wsX2_begin := goodIn_r _ [13, 14, 15, 16, 17, 18, 19, 20, 21, 22, 54, 55, 56] (by decide +kernel) (by decide +kernel)
set_option maxRecDepth 20000 in
theorem gX3_worthOf_X2_begin : GoodIn wsX3_worthOf (wsV RX3 23 RX2 yX2_begin wsX2_begin) := goodIn_app (goodIn_of _ (by decide +kernel)) ggX3_worthOf_X2_begin
set_option maxRecDepth 20000 in
theorem ggX3_worthOf_X4_has : GoodIn wsX3_worthOf wsX4_has := goodIn_r _ [25] (by decide +kernel) (by decide +kernel)
set_option maxRecDepth 20000 in
theorem gX3_worthOf_X4_has_n29 : GoodIn wsX3_worthOf (wsX4_has) := ggX3_worthOf_X4_has
set_option maxRecDepth 20000 in
theorem ggX3_worthOf_X3_layRow : GoodIn wsX3_worthOf wsX3_layRow := goodIn_r _ [30, 1, 23, 24, 25, 31, 32, 33, 29, 34, 35, 36, 37, 38, 12, 39, 21, 22, 40, 41, 52, 53, 54, 55, 56] (by decide +kernel) (by decide +kernel)
set_option maxRecDepth 20000 in
theorem gX3_worthOf_X3_layRow : GoodIn wsX3_worthOf (wsV RX3 35 RX3 yX3_layRow wsX3_layRow) := goodIn_app (goodIn_of _ (by decide +kernel)) ggX3_worthOf_X3_layRow
set_option maxRecDepth 20000 in
theorem ggX3_worthOf_X2_add : GoodIn wsX3_worthOf wsX2_add := goodIn_r _ [39, 21, 22, 40, 24, 41, 54, 55, 56] (by decide +kernel) (by decide +kernel)
set_option maxRecDepth 20000 in
theorem gX3_worthOf_X2_add : GoodIn wsX3_worthOf (wsV RX3 39 RX2 yX2_add wsX2_add) := goodIn_app (goodIn_of _ (by decide +kernel)) ggX3_worthOf_X2_add
set_option maxRecDepth 20000 in
theorem ggX3_worthOf_X2_determinant : GoodIn wsX3_worthOf wsX2_determinant := goodIn_r _ [45, 46, 21, 47, 48, 49, 12, 50, 22, 51, 3, 4, 5, 6, 7, 8, 54, 55, 56] (by decide +kernel) (by decide +kernel)
set_option maxRecDepth 20000 in
theorem gX3_worthOf_X2_determinant : GoodIn wsX3_worthOf (wsV RX3 43 RX2 yX2_determinant wsX2_determinant) := goodIn_app (goodIn_of _ (by decide +kernel)) ggX3_worthOf_X2_determinant
theorem dX3_worthOf_0 : decode cX3_worthOf 0 = .ok (.aload_n 3, 1) := by decide +kernel
theorem dX3_worthOf_1 : decode cX3_worthOf 1 = .ok (.iload_n 1, 1) := by decide +kernel
theorem dX3_worthOf_2 : decode cX3_worthOf 2 = .ok (.invokestatic 17, 3) := by decide +kernel
theorem dX3_worthOf_5 : decode cX3_worthOf 5 = .ok (.invokevirtual 23, 3) := by decide +kernel
theorem dX3_worthOf_8 : decode cX3_worthOf 8 = .ok (.iconst 0, 1) := by decide +kernel
theorem dX3_worthOf_9 : decode cX3_worthOf 9 = .ok (.istore 4, 2) := by decide +kernel
theorem dX3_worthOf_11 : decode cX3_worthOf 11 = .ok (.iconst 0, 1) := by decide +kernel
theorem dX3_worthOf_12 : decode cX3_worthOf 12 = .ok (.istore 5, 2) := by decide +kernel
theorem dX3_worthOf_14 : decode cX3_worthOf 14 = .ok (.iload 5, 2) := by decide +kernel
theorem dX3_worthOf_16 : decode cX3_worthOf 16 = .ok (.aload_n 0, 1) := by decide +kernel
theorem dX3_worthOf_17 : decode cX3_worthOf 17 = .ok (.getfield 7, 3) := by decide +kernel
theorem dX3_worthOf_20 : decode cX3_worthOf 20 = .ok (.if_icmp .ge 41, 3) := by decide +kernel
theorem dX3_worthOf_23 : decode cX3_worthOf 23 = .ok (.iload_n 1, 1) := by decide +kernel
theorem dX3_worthOf_24 : decode cX3_worthOf 24 = .ok (.iload 5, 2) := by decide +kernel
theorem dX3_worthOf_26 : decode cX3_worthOf 26 = .ok (.invokestatic 29, 3) := by decide +kernel
theorem dX3_worthOf_29 : decode cX3_worthOf 29 = .ok (.ifCond .eq 26, 3) := by decide +kernel
theorem dX3_worthOf_32 : decode cX3_worthOf 32 = .ok (.aload_n 0, 1) := by decide +kernel
theorem dX3_worthOf_33 : decode cX3_worthOf 33 = .ok (.iload 5, 2) := by decide +kernel
theorem dX3_worthOf_35 : decode cX3_worthOf 35 = .ok (.iload 4, 2) := by decide +kernel
theorem dX3_worthOf_37 : decode cX3_worthOf 37 = .ok (.iload_n 1, 1) := by decide +kernel
theorem dX3_worthOf_38 : decode cX3_worthOf 38 = .ok (.aload_n 3, 1) := by decide +kernel
theorem dX3_worthOf_39 : decode cX3_worthOf 39 = .ok (.invokevirtual 35, 3) := by decide +kernel
theorem dX3_worthOf_42 : decode cX3_worthOf 42 = .ok (.aload_n 3, 1) := by decide +kernel
theorem dX3_worthOf_43 : decode cX3_worthOf 43 = .ok (.iload 4, 2) := by decide +kernel
theorem dX3_worthOf_45 : decode cX3_worthOf 45 = .ok (.iload 4, 2) := by decide +kernel
theorem dX3_worthOf_47 : decode cX3_worthOf 47 = .ok (.iload_n 2, 1) := by decide +kernel
theorem dX3_worthOf_48 : decode cX3_worthOf 48 = .ok (.i2l, 1) := by decide +kernel
theorem dX3_worthOf_49 : decode cX3_worthOf 49 = .ok (.invokevirtual 39, 3) := by decide +kernel
theorem dX3_worthOf_52 : decode cX3_worthOf 52 = .ok (.iinc 4 1, 3) := by decide +kernel
theorem dX3_worthOf_55 : decode cX3_worthOf 55 = .ok (.iinc 5 1, 3) := by decide +kernel
theorem dX3_worthOf_58 : decode cX3_worthOf 58 = .ok (.goto (-44), 3) := by decide +kernel
theorem dX3_worthOf_61 : decode cX3_worthOf 61 = .ok (.aload_n 3, 1) := by decide +kernel
theorem dX3_worthOf_62 : decode cX3_worthOf 62 = .ok (.invokevirtual 43, 3) := by decide +kernel
theorem dX3_worthOf_65 : decode cX3_worthOf 65 = .ok (.lreturn, 1) := by decide +kernel
set_option maxRecDepth 20000 in
theorem ggX3_layRow_X4_has : GoodIn wsX3_layRow wsX4_has := goodIn_r _ [4] (by decide +kernel) (by decide +kernel)
set_option maxRecDepth 20000 in
theorem gX3_layRow_X4_has_n29 : GoodIn wsX3_layRow (wsX4_has) := ggX3_layRow_X4_has
set_option maxRecDepth 20000 in
theorem ggX3_layRow_X3_at : GoodIn wsX3_layRow wsX3_at := goodIn_r _ [9, 10, 1, 20, 21] (by decide +kernel) (by decide +kernel)
set_option maxRecDepth 20000 in
theorem gX3_layRow_X3_at : GoodIn wsX3_layRow (wsV RX3 47 RX3 yX3_at wsX3_at) := goodIn_app (goodIn_of _ (by decide +kernel)) ggX3_layRow_X3_at
set_option maxRecDepth 20000 in
theorem ggX3_layRow_X2_add : GoodIn wsX3_layRow wsX2_add := goodIn_r _ [15, 16, 17, 18, 3, 19, 22, 23, 24] (by decide +kernel) (by decide +kernel)
set_option maxRecDepth 20000 in
theorem gX3_layRow_X2_add : GoodIn wsX3_layRow (wsV RX3 39 RX2 yX2_add wsX2_add) := goodIn_app (goodIn_of _ (by decide +kernel)) ggX3_layRow_X2_add
theorem dX3_layRow_0 : decode cX3_layRow 0 = .ok (.iconst 0, 1) := by decide +kernel
theorem dX3_layRow_1 : decode cX3_layRow 1 = .ok (.istore 5, 2) := by decide +kernel
theorem dX3_layRow_3 : decode cX3_layRow 3 = .ok (.iconst 0, 1) := by decide +kernel
theorem dX3_layRow_4 : decode cX3_layRow 4 = .ok (.istore 6, 2) := by decide +kernel
theorem dX3_layRow_6 : decode cX3_layRow 6 = .ok (.iload 6, 2) := by decide +kernel
theorem dX3_layRow_8 : decode cX3_layRow 8 = .ok (.aload_n 0, 1) := by decide +kernel
theorem dX3_layRow_9 : decode cX3_layRow 9 = .ok (.getfield 7, 3) := by decide +kernel
theorem dX3_layRow_12 : decode cX3_layRow 12 = .ok (.if_icmp .ge 37, 3) := by decide +kernel
theorem dX3_layRow_15 : decode cX3_layRow 15 = .ok (.iload_n 3, 1) := by decide +kernel
theorem dX3_layRow_16 : decode cX3_layRow 16 = .ok (.iload 6, 2) := by decide +kernel
theorem dX3_layRow_18 : decode cX3_layRow 18 = .ok (.invokestatic 29, 3) := by decide +kernel
theorem dX3_layRow_21 : decode cX3_layRow 21 = .ok (.ifCond .eq 22, 3) := by decide +kernel
theorem dX3_layRow_24 : decode cX3_layRow 24 = .ok (.aload 4, 2) := by decide +kernel
theorem dX3_layRow_26 : decode cX3_layRow 26 = .ok (.iload_n 2, 1) := by decide +kernel
theorem dX3_layRow_27 : decode cX3_layRow 27 = .ok (.iload 5, 2) := by decide +kernel
theorem dX3_layRow_29 : decode cX3_layRow 29 = .ok (.aload_n 0, 1) := by decide +kernel
theorem dX3_layRow_30 : decode cX3_layRow 30 = .ok (.iload_n 1, 1) := by decide +kernel
theorem dX3_layRow_31 : decode cX3_layRow 31 = .ok (.iload 6, 2) := by decide +kernel
theorem dX3_layRow_33 : decode cX3_layRow 33 = .ok (.invokevirtual 47, 3) := by decide +kernel
theorem dX3_layRow_36 : decode cX3_layRow 36 = .ok (.i2l, 1) := by decide +kernel
theorem dX3_layRow_37 : decode cX3_layRow 37 = .ok (.invokevirtual 39, 3) := by decide +kernel
theorem dX3_layRow_40 : decode cX3_layRow 40 = .ok (.iinc 5 1, 3) := by decide +kernel
theorem dX3_layRow_43 : decode cX3_layRow 43 = .ok (.iinc 6 1, 3) := by decide +kernel
theorem dX3_layRow_46 : decode cX3_layRow 46 = .ok (.goto (-40), 3) := by decide +kernel
theorem dX3_layRow_49 : decode cX3_layRow 49 = .ok (.return_, 1) := by decide +kernel
