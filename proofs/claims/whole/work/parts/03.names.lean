theorem dX4_isSpoiled_0 : decode cX4_isSpoiled 0 = .ok (.aload_n 0, 1) := by decide +kernel
theorem dX4_isSpoiled_1 : decode cX4_isSpoiled 1 = .ok (.getfield 19, 3) := by decide +kernel
theorem dX4_isSpoiled_4 : decode cX4_isSpoiled 4 = .ok (.aload_n 0, 1) := by decide +kernel
theorem dX4_isSpoiled_5 : decode cX4_isSpoiled 5 = .ok (.getfield 10, 3) := by decide +kernel
theorem dX4_isSpoiled_8 : decode cX4_isSpoiled 8 = .ok (.iload_n 1, 1) := by decide +kernel
theorem dX4_isSpoiled_9 : decode cX4_isSpoiled 9 = .ok (.invokevirtual 145, 3) := by decide +kernel
theorem dX4_isSpoiled_12 : decode cX4_isSpoiled 12 = .ok (.invokevirtual 208, 3) := by decide +kernel
theorem dX4_isSpoiled_15 : decode cX4_isSpoiled 15 = .ok (.ifCond .le 7, 3) := by decide +kernel
theorem dX4_isSpoiled_18 : decode cX4_isSpoiled 18 = .ok (.iconst 1, 1) := by decide +kernel
theorem dX4_isSpoiled_19 : decode cX4_isSpoiled 19 = .ok (.goto 4, 3) := by decide +kernel
theorem dX4_isSpoiled_22 : decode cX4_isSpoiled 22 = .ok (.iconst 0, 1) := by decide +kernel
theorem dX4_isSpoiled_23 : decode cX4_isSpoiled 23 = .ok (.ireturn, 1) := by decide +kernel
theorem dX4_isKind_0 : decode cX4_isKind 0 = .ok (.iload_n 0, 1) := by decide +kernel
theorem dX4_isKind_1 : decode cX4_isKind 1 = .ok (.ifCond .lt 13, 3) := by decide +kernel
theorem dX4_isKind_4 : decode cX4_isKind 4 = .ok (.iload_n 0, 1) := by decide +kernel
theorem dX4_isKind_5 : decode cX4_isKind 5 = .ok (.bipush 16, 2) := by decide +kernel
theorem dX4_isKind_7 : decode cX4_isKind 7 = .ok (.if_icmp .ge 7, 3) := by decide +kernel
theorem dX4_isKind_10 : decode cX4_isKind 10 = .ok (.iconst 1, 1) := by decide +kernel
theorem dX4_isKind_11 : decode cX4_isKind 11 = .ok (.goto 4, 3) := by decide +kernel
theorem dX4_isKind_14 : decode cX4_isKind 14 = .ok (.iconst 0, 1) := by decide +kernel
theorem dX4_isKind_15 : decode cX4_isKind 15 = .ok (.ireturn, 1) := by decide +kernel
theorem dX4_hasBit_0 : decode cX4_hasBit 0 = .ok (.iload_n 0, 1) := by decide +kernel
theorem dX4_hasBit_1 : decode cX4_hasBit 1 = .ok (.iload_n 1, 1) := by decide +kernel
theorem dX4_hasBit_2 : decode cX4_hasBit 2 = .ok (.ishr, 1) := by decide +kernel
theorem dX4_hasBit_3 : decode cX4_hasBit 3 = .ok (.iconst 1, 1) := by decide +kernel
theorem dX4_hasBit_4 : decode cX4_hasBit 4 = .ok (.iand, 1) := by decide +kernel
theorem dX4_hasBit_5 : decode cX4_hasBit 5 = .ok (.ifCond .eq 7, 3) := by decide +kernel
theorem dX4_hasBit_8 : decode cX4_hasBit 8 = .ok (.iconst 1, 1) := by decide +kernel
theorem dX4_hasBit_9 : decode cX4_hasBit 9 = .ok (.goto 4, 3) := by decide +kernel
theorem dX4_hasBit_12 : decode cX4_hasBit 12 = .ok (.iconst 0, 1) := by decide +kernel
theorem dX4_hasBit_13 : decode cX4_hasBit 13 = .ok (.ireturn, 1) := by decide +kernel
theorem dX4_withBit_0 : decode cX4_withBit 0 = .ok (.iload_n 2, 1) := by decide +kernel
theorem dX4_withBit_1 : decode cX4_withBit 1 = .ok (.ifCond .eq 11, 3) := by decide +kernel
theorem dX4_withBit_4 : decode cX4_withBit 4 = .ok (.iload_n 0, 1) := by decide +kernel
theorem dX4_withBit_5 : decode cX4_withBit 5 = .ok (.iconst 1, 1) := by decide +kernel
theorem dX4_withBit_6 : decode cX4_withBit 6 = .ok (.iload_n 1, 1) := by decide +kernel
theorem dX4_withBit_7 : decode cX4_withBit 7 = .ok (.ishl, 1) := by decide +kernel
theorem dX4_withBit_8 : decode cX4_withBit 8 = .ok (.ior, 1) := by decide +kernel
theorem dX4_withBit_9 : decode cX4_withBit 9 = .ok (.goto 10, 3) := by decide +kernel
theorem dX4_withBit_12 : decode cX4_withBit 12 = .ok (.iload_n 0, 1) := by decide +kernel
theorem dX4_withBit_13 : decode cX4_withBit 13 = .ok (.iconst 1, 1) := by decide +kernel
theorem dX4_withBit_14 : decode cX4_withBit 14 = .ok (.iload_n 1, 1) := by decide +kernel
theorem dX4_withBit_15 : decode cX4_withBit 15 = .ok (.ishl, 1) := by decide +kernel
theorem dX4_withBit_16 : decode cX4_withBit 16 = .ok (.iconst (-1), 1) := by decide +kernel
theorem dX4_withBit_17 : decode cX4_withBit 17 = .ok (.ixor, 1) := by decide +kernel
theorem dX4_withBit_18 : decode cX4_withBit 18 = .ok (.iand, 1) := by decide +kernel
theorem dX4_withBit_19 : decode cX4_withBit 19 = .ok (.ireturn, 1) := by decide +kernel
theorem dX4_mixed_0 : decode cX4_mixed 0 = .ok (.lload_n 0, 1) := by decide +kernel
theorem dX4_mixed_1 : decode cX4_mixed 1 = .ok (.ldc2_w 211, 3) := by decide +kernel
theorem dX4_mixed_4 : decode cX4_mixed 4 = .ok (.lmul, 1) := by decide +kernel
theorem dX4_mixed_5 : decode cX4_mixed 5 = .ok (.lload_n 2, 1) := by decide +kernel
theorem dX4_mixed_6 : decode cX4_mixed 6 = .ok (.ladd, 1) := by decide +kernel
theorem dX4_mixed_7 : decode cX4_mixed 7 = .ok (.lreturn, 1) := by decide +kernel
theorem dX5_init_0 : decode cX5_init 0 = .ok (.aload_n 0, 1) := by decide +kernel
theorem dX5_init_1 : decode cX5_init 1 = .ok (.invokespecial 1, 3) := by decide +kernel
theorem dX5_init_4 : decode cX5_init 4 = .ok (.aload_n 0, 1) := by decide +kernel
theorem dX5_init_5 : decode cX5_init 5 = .ok (.bipush 24, 2) := by decide +kernel
theorem dX5_init_7 : decode cX5_init 7 = .ok (.newarray .int, 2) := by decide +kernel
theorem dX5_init_9 : decode cX5_init 9 = .ok (.putfield 9, 3) := by decide +kernel
theorem dX5_init_12 : decode cX5_init 12 = .ok (.aload_n 0, 1) := by decide +kernel
theorem dX5_init_13 : decode cX5_init 13 = .ok (.bipush 6, 2) := by decide +kernel
theorem dX5_init_15 : decode cX5_init 15 = .ok (.newarray .int, 2) := by decide +kernel
theorem dX5_init_17 : decode cX5_init 17 = .ok (.putfield 13, 3) := by decide +kernel
theorem dX5_init_20 : decode cX5_init 20 = .ok (.aload_n 0, 1) := by decide +kernel
theorem dX5_init_21 : decode cX5_init 21 = .ok (.bipush 6, 2) := by decide +kernel
theorem dX5_init_23 : decode cX5_init 23 = .ok (.newarray .int, 2) := by decide +kernel
theorem dX5_init_25 : decode cX5_init 25 = .ok (.putfield 16, 3) := by decide +kernel
theorem dX5_init_28 : decode cX5_init 28 = .ok (.aload_n 0, 1) := by decide +kernel
theorem dX5_init_29 : decode cX5_init 29 = .ok (.sipush 4096, 3) := by decide +kernel
theorem dX5_init_32 : decode cX5_init 32 = .ok (.newarray .int, 2) := by decide +kernel
theorem dX5_init_34 : decode cX5_init 34 = .ok (.putfield 19, 3) := by decide +kernel
theorem dX5_init_37 : decode cX5_init 37 = .ok (.aload_n 0, 1) := by decide +kernel
theorem dX5_init_38 : decode cX5_init 38 = .ok (.sipush 2560, 3) := by decide +kernel
theorem dX5_init_41 : decode cX5_init 41 = .ok (.newarray .int, 2) := by decide +kernel
theorem dX5_init_43 : decode cX5_init 43 = .ok (.putfield 22, 3) := by decide +kernel
theorem dX5_init_46 : decode cX5_init 46 = .ok (.aload_n 0, 1) := by decide +kernel
theorem dX5_init_47 : decode cX5_init 47 = .ok (.sipush 2560, 3) := by decide +kernel
theorem dX5_init_50 : decode cX5_init 50 = .ok (.newarray .int, 2) := by decide +kernel
theorem dX5_init_52 : decode cX5_init 52 = .ok (.putfield 25, 3) := by decide +kernel
theorem dX5_init_55 : decode cX5_init 55 = .ok (.return_, 1) := by decide +kernel
theorem dX5_thrown_0 : decode cX5_thrown 0 = .ok (.aload_n 0, 1) := by decide +kernel
theorem dX5_thrown_1 : decode cX5_thrown 1 = .ok (.getfield 28, 3) := by decide +kernel
theorem dX5_thrown_4 : decode cX5_thrown 4 = .ok (.ireturn, 1) := by decide +kernel
theorem dX5_no_0 : decode cX5_no 0 = .ok (.aload_n 0, 1) := by decide +kernel
theorem dX5_no_1 : decode cX5_no 1 = .ok (.iload_n 1, 1) := by decide +kernel
theorem dX5_no_2 : decode cX5_no 2 = .ok (.putfield 28, 3) := by decide +kernel
theorem dX5_no_5 : decode cX5_no 5 = .ok (.iconst 0, 1) := by decide +kernel
theorem dX5_no_6 : decode cX5_no 6 = .ok (.ireturn, 1) := by decide +kernel
theorem dX5_isIn_0 : decode cX5_isIn 0 = .ok (.iload_n 0, 1) := by decide +kernel
theorem dX5_isIn_1 : decode cX5_isIn 1 = .ok (.iload_n 1, 1) := by decide +kernel
theorem dX5_isIn_2 : decode cX5_isIn 2 = .ok (.if_icmp .lt 12, 3) := by decide +kernel
theorem dX5_isIn_5 : decode cX5_isIn 5 = .ok (.iload_n 0, 1) := by decide +kernel
theorem dX5_isIn_6 : decode cX5_isIn 6 = .ok (.iload_n 2, 1) := by decide +kernel
theorem dX5_isIn_7 : decode cX5_isIn 7 = .ok (.if_icmp .gt 7, 3) := by decide +kernel
theorem dX5_isIn_10 : decode cX5_isIn 10 = .ok (.iconst 1, 1) := by decide +kernel
theorem dX5_isIn_11 : decode cX5_isIn 11 = .ok (.goto 4, 3) := by decide +kernel
theorem dX5_isIn_14 : decode cX5_isIn 14 = .ok (.iconst 0, 1) := by decide +kernel
theorem dX5_isIn_15 : decode cX5_isIn 15 = .ok (.ireturn, 1) := by decide +kernel
set_option maxRecDepth 20000 in
theorem ggX5_isRule_X5_isIn : GoodIn wsX5_isRule wsX5_isIn := goodIn_r _ [5] (by decide +kernel) (by decide +kernel)
set_option maxRecDepth 20000 in
theorem gX5_isRule_X5_isIn : GoodIn wsX5_isRule (va_wsS RX5 35 yX5_isIn wsX5_isIn) := goodIn_app (goodIn_of _ (by decide +kernel)) ggX5_isRule_X5_isIn
theorem dX5_isRule_0 : decode cX5_isRule 0 = .ok (.iload_n 1, 1) := by decide +kernel
theorem dX5_isRule_1 : decode cX5_isRule 1 = .ok (.iconst 0, 1) := by decide +kernel
theorem dX5_isRule_2 : decode cX5_isRule 2 = .ok (.aload_n 0, 1) := by decide +kernel
theorem dX5_isRule_3 : decode cX5_isRule 3 = .ok (.getfield 32, 3) := by decide +kernel
theorem dX5_isRule_6 : decode cX5_isRule 6 = .ok (.iconst 1, 1) := by decide +kernel
theorem dX5_isRule_7 : decode cX5_isRule 7 = .ok (.isub, 1) := by decide +kernel
theorem dX5_isRule_8 : decode cX5_isRule 8 = .ok (.invokestatic 35, 3) := by decide +kernel
theorem dX5_isRule_11 : decode cX5_isRule 11 = .ok (.ireturn, 1) := by decide +kernel
set_option maxRecDepth 20000 in
theorem ggX5_isPlace_X5_isIn : GoodIn wsX5_isPlace wsX5_isIn := goodIn_r _ [5] (by decide +kernel) (by decide +kernel)
set_option maxRecDepth 20000 in
theorem gX5_isPlace_X5_isIn : GoodIn wsX5_isPlace (va_wsS RX5 35 yX5_isIn wsX5_isIn) := goodIn_app (goodIn_of _ (by decide +kernel)) ggX5_isPlace_X5_isIn
theorem dX5_isPlace_0 : decode cX5_isPlace 0 = .ok (.iload_n 1, 1) := by decide +kernel
theorem dX5_isPlace_1 : decode cX5_isPlace 1 = .ok (.iconst 0, 1) := by decide +kernel
theorem dX5_isPlace_2 : decode cX5_isPlace 2 = .ok (.aload_n 0, 1) := by decide +kernel
theorem dX5_isPlace_3 : decode cX5_isPlace 3 = .ok (.getfield 39, 3) := by decide +kernel
theorem dX5_isPlace_6 : decode cX5_isPlace 6 = .ok (.iconst 1, 1) := by decide +kernel
theorem dX5_isPlace_7 : decode cX5_isPlace 7 = .ok (.isub, 1) := by decide +kernel
theorem dX5_isPlace_8 : decode cX5_isPlace 8 = .ok (.invokestatic 35, 3) := by decide +kernel
theorem dX5_isPlace_11 : decode cX5_isPlace 11 = .ok (.ireturn, 1) := by decide +kernel
theorem dX5_whole_0 : decode cX5_whole 0 = .ok (.iconst 1, 1) := by decide +kernel
theorem dX5_whole_1 : decode cX5_whole 1 = .ok (.aload_n 0, 1) := by decide +kernel
theorem dX5_whole_2 : decode cX5_whole 2 = .ok (.getfield 39, 3) := by decide +kernel
theorem dX5_whole_5 : decode cX5_whole 5 = .ok (.ishl, 1) := by decide +kernel
theorem dX5_whole_6 : decode cX5_whole 6 = .ok (.iconst 1, 1) := by decide +kernel
theorem dX5_whole_7 : decode cX5_whole 7 = .ok (.isub, 1) := by decide +kernel
theorem dX5_whole_8 : decode cX5_whole 8 = .ok (.ireturn, 1) := by decide +kernel
theorem dX5_kindsOf_0 : decode cX5_kindsOf 0 = .ok (.iconst 0, 1) := by decide +kernel
theorem dX5_kindsOf_1 : decode cX5_kindsOf 1 = .ok (.istore_n 2, 1) := by decide +kernel
theorem dX5_kindsOf_2 : decode cX5_kindsOf 2 = .ok (.iconst 0, 1) := by decide +kernel
theorem dX5_kindsOf_3 : decode cX5_kindsOf 3 = .ok (.istore_n 3, 1) := by decide +kernel
theorem dX5_kindsOf_4 : decode cX5_kindsOf 4 = .ok (.iload_n 3, 1) := by decide +kernel
theorem dX5_kindsOf_5 : decode cX5_kindsOf 5 = .ok (.aload_n 0, 1) := by decide +kernel
theorem dX5_kindsOf_6 : decode cX5_kindsOf 6 = .ok (.getfield 39, 3) := by decide +kernel
theorem dX5_kindsOf_9 : decode cX5_kindsOf 9 = .ok (.if_icmp .ge 29, 3) := by decide +kernel
theorem dX5_kindsOf_12 : decode cX5_kindsOf 12 = .ok (.iload_n 1, 1) := by decide +kernel
theorem dX5_kindsOf_13 : decode cX5_kindsOf 13 = .ok (.iload_n 3, 1) := by decide +kernel
theorem dX5_kindsOf_14 : decode cX5_kindsOf 14 = .ok (.ishr, 1) := by decide +kernel
theorem dX5_kindsOf_15 : decode cX5_kindsOf 15 = .ok (.iconst 1, 1) := by decide +kernel
theorem dX5_kindsOf_16 : decode cX5_kindsOf 16 = .ok (.iand, 1) := by decide +kernel
theorem dX5_kindsOf_17 : decode cX5_kindsOf 17 = .ok (.iconst 1, 1) := by decide +kernel
theorem dX5_kindsOf_18 : decode cX5_kindsOf 18 = .ok (.if_icmp .ne 14, 3) := by decide +kernel
theorem dX5_kindsOf_21 : decode cX5_kindsOf 21 = .ok (.iload_n 2, 1) := by decide +kernel
theorem dX5_kindsOf_22 : decode cX5_kindsOf 22 = .ok (.iconst 1, 1) := by decide +kernel
theorem dX5_kindsOf_23 : decode cX5_kindsOf 23 = .ok (.aload_n 0, 1) := by decide +kernel
theorem dX5_kindsOf_24 : decode cX5_kindsOf 24 = .ok (.getfield 9, 3) := by decide +kernel
theorem dX5_kindsOf_27 : decode cX5_kindsOf 27 = .ok (.iload_n 3, 1) := by decide +kernel
theorem dX5_kindsOf_28 : decode cX5_kindsOf 28 = .ok (.iaload, 1) := by decide +kernel
theorem dX5_kindsOf_29 : decode cX5_kindsOf 29 = .ok (.ishl, 1) := by decide +kernel
theorem dX5_kindsOf_30 : decode cX5_kindsOf 30 = .ok (.ior, 1) := by decide +kernel
theorem dX5_kindsOf_31 : decode cX5_kindsOf 31 = .ok (.istore_n 2, 1) := by decide +kernel
theorem dX5_kindsOf_32 : decode cX5_kindsOf 32 = .ok (.iinc 3 1, 3) := by decide +kernel
theorem dX5_kindsOf_35 : decode cX5_kindsOf 35 = .ok (.goto (-31), 3) := by decide +kernel
theorem dX5_kindsOf_38 : decode cX5_kindsOf 38 = .ok (.iload_n 2, 1) := by decide +kernel
theorem dX5_kindsOf_39 : decode cX5_kindsOf 39 = .ok (.ireturn, 1) := by decide +kernel
theorem dX5_holds_0 : decode cX5_holds 0 = .ok (.aload_n 0, 1) := by decide +kernel
theorem dX5_holds_1 : decode cX5_holds 1 = .ok (.getfield 13, 3) := by decide +kernel
theorem dX5_holds_4 : decode cX5_holds 4 = .ok (.iload_n 1, 1) := by decide +kernel
theorem dX5_holds_5 : decode cX5_holds 5 = .ok (.iaload, 1) := by decide +kernel
theorem dX5_holds_6 : decode cX5_holds 6 = .ok (.ifCond .eq 31, 3) := by decide +kernel
theorem dX5_holds_9 : decode cX5_holds 9 = .ok (.aload_n 0, 1) := by decide +kernel
theorem dX5_holds_10 : decode cX5_holds 10 = .ok (.getfield 13, 3) := by decide +kernel
theorem dX5_holds_13 : decode cX5_holds 13 = .ok (.iload_n 1, 1) := by decide +kernel
theorem dX5_holds_14 : decode cX5_holds 14 = .ok (.iaload, 1) := by decide +kernel
theorem dX5_holds_15 : decode cX5_holds 15 = .ok (.iload_n 2, 1) := by decide +kernel
theorem dX5_holds_16 : decode cX5_holds 16 = .ok (.iconst (-1), 1) := by decide +kernel
theorem dX5_holds_17 : decode cX5_holds 17 = .ok (.ixor, 1) := by decide +kernel
theorem dX5_holds_18 : decode cX5_holds 18 = .ok (.iand, 1) := by decide +kernel
theorem dX5_holds_19 : decode cX5_holds 19 = .ok (.ifCond .ne 18, 3) := by decide +kernel
theorem dX5_holds_22 : decode cX5_holds 22 = .ok (.aload_n 0, 1) := by decide +kernel
theorem dX5_holds_23 : decode cX5_holds 23 = .ok (.getfield 16, 3) := by decide +kernel
theorem dX5_holds_26 : decode cX5_holds 26 = .ok (.iload_n 1, 1) := by decide +kernel
theorem dX5_holds_27 : decode cX5_holds 27 = .ok (.iaload, 1) := by decide +kernel
theorem dX5_holds_28 : decode cX5_holds 28 = .ok (.iload_n 2, 1) := by decide +kernel
theorem dX5_holds_29 : decode cX5_holds 29 = .ok (.iand, 1) := by decide +kernel
theorem dX5_holds_30 : decode cX5_holds 30 = .ok (.ifCond .ne 7, 3) := by decide +kernel
theorem dX5_holds_33 : decode cX5_holds 33 = .ok (.iconst 1, 1) := by decide +kernel
theorem dX5_holds_34 : decode cX5_holds 34 = .ok (.goto 4, 3) := by decide +kernel
theorem dX5_holds_37 : decode cX5_holds 37 = .ok (.iconst 0, 1) := by decide +kernel
theorem dX5_holds_38 : decode cX5_holds 38 = .ok (.ireturn, 1) := by decide +kernel
set_option maxRecDepth 20000 in
theorem ggX5_isSpoilt_X5_kindsOf : GoodIn wsX5_isSpoilt wsX5_kindsOf := goodIn_r _ [6, 7, 8, 15, 16, 17, 18, 19, 20, 21, 22, 23, 24, 25, 26, 27, 28, 29, 30, 31] (by decide +kernel) (by decide +kernel)
set_option maxRecDepth 20000 in
theorem gX5_isSpoilt_X5_kindsOf : GoodIn wsX5_isSpoilt (wsV RX5 42 RX5 yX5_kindsOf wsX5_kindsOf) := goodIn_app (goodIn_of _ (by decide +kernel)) ggX5_isSpoilt_X5_kindsOf
set_option maxRecDepth 20000 in
theorem ggX5_isSpoilt_X5_holds : GoodIn wsX5_isSpoilt wsX5_holds := goodIn_r _ [12, 13, 14, 15, 16, 17, 18, 19, 20, 21, 22, 23, 24, 25, 26, 27, 28, 29, 30, 31] (by decide +kernel) (by decide +kernel)
set_option maxRecDepth 20000 in
theorem gX5_isSpoilt_X5_holds : GoodIn wsX5_isSpoilt (wsV RX5 46 RX5 yX5_holds wsX5_holds) := goodIn_app (goodIn_of _ (by decide +kernel)) ggX5_isSpoilt_X5_holds
theorem dX5_isSpoilt_0 : decode cX5_isSpoilt 0 = .ok (.aload_n 0, 1) := by decide +kernel
theorem dX5_isSpoilt_1 : decode cX5_isSpoilt 1 = .ok (.iload_n 1, 1) := by decide +kernel
theorem dX5_isSpoilt_2 : decode cX5_isSpoilt 2 = .ok (.invokevirtual 42, 3) := by decide +kernel
theorem dX5_isSpoilt_5 : decode cX5_isSpoilt 5 = .ok (.istore_n 2, 1) := by decide +kernel
theorem dX5_isSpoilt_6 : decode cX5_isSpoilt 6 = .ok (.iconst 0, 1) := by decide +kernel
theorem dX5_isSpoilt_7 : decode cX5_isSpoilt 7 = .ok (.istore_n 3, 1) := by decide +kernel
theorem dX5_isSpoilt_8 : decode cX5_isSpoilt 8 = .ok (.iload_n 3, 1) := by decide +kernel
theorem dX5_isSpoilt_9 : decode cX5_isSpoilt 9 = .ok (.aload_n 0, 1) := by decide +kernel
theorem dX5_isSpoilt_10 : decode cX5_isSpoilt 10 = .ok (.getfield 32, 3) := by decide +kernel
theorem dX5_isSpoilt_13 : decode cX5_isSpoilt 13 = .ok (.if_icmp .ge 20, 3) := by decide +kernel
theorem dX5_isSpoilt_16 : decode cX5_isSpoilt 16 = .ok (.aload_n 0, 1) := by decide +kernel
theorem dX5_isSpoilt_17 : decode cX5_isSpoilt 17 = .ok (.iload_n 3, 1) := by decide +kernel
theorem dX5_isSpoilt_18 : decode cX5_isSpoilt 18 = .ok (.iload_n 2, 1) := by decide +kernel
theorem dX5_isSpoilt_19 : decode cX5_isSpoilt 19 = .ok (.invokevirtual 46, 3) := by decide +kernel
theorem dX5_isSpoilt_22 : decode cX5_isSpoilt 22 = .ok (.ifCond .eq 5, 3) := by decide +kernel
theorem dX5_isSpoilt_25 : decode cX5_isSpoilt 25 = .ok (.iconst 1, 1) := by decide +kernel
theorem dX5_isSpoilt_26 : decode cX5_isSpoilt 26 = .ok (.ireturn, 1) := by decide +kernel
theorem dX5_isSpoilt_27 : decode cX5_isSpoilt 27 = .ok (.iinc 3 1, 3) := by decide +kernel
theorem dX5_isSpoilt_30 : decode cX5_isSpoilt 30 = .ok (.goto (-22), 3) := by decide +kernel
theorem dX5_isSpoilt_33 : decode cX5_isSpoilt 33 = .ok (.iconst 0, 1) := by decide +kernel
theorem dX5_isSpoilt_34 : decode cX5_isSpoilt 34 = .ok (.ireturn, 1) := by decide +kernel
set_option maxRecDepth 20000 in
theorem ggX5_taste_X5_isSpoilt : GoodIn wsX5_taste wsX5_isSpoilt := goodIn_r _ [7, 8, 9, 10, 11, 6, 12, 13, 14, 15, 16, 17, 18, 19, 20, 21, 22, 23, 24, 25, 26, 27, 28, 29, 30, 31, 32, 33, 34, 35, 36, 37] (by decide +kernel) (by decide +kernel)
set_option maxRecDepth 20000 in
theorem gX5_taste_X5_isSpoilt : GoodIn wsX5_taste (wsV RX5 53 RX5 yX5_isSpoilt wsX5_isSpoilt) := goodIn_app (goodIn_of _ (by decide +kernel)) ggX5_taste_X5_isSpoilt
theorem dX5_taste_0 : decode cX5_taste 0 = .ok (.iconst 1, 1) := by decide +kernel
theorem dX5_taste_1 : decode cX5_taste 1 = .ok (.istore_n 2, 1) := by decide +kernel
theorem dX5_taste_2 : decode cX5_taste 2 = .ok (.iconst 0, 1) := by decide +kernel
theorem dX5_taste_3 : decode cX5_taste 3 = .ok (.istore_n 3, 1) := by decide +kernel
theorem dX5_taste_4 : decode cX5_taste 4 = .ok (.iload_n 3, 1) := by decide +kernel
theorem dX5_taste_5 : decode cX5_taste 5 = .ok (.aload_n 0, 1) := by decide +kernel
theorem dX5_taste_6 : decode cX5_taste 6 = .ok (.getfield 50, 3) := by decide +kernel
theorem dX5_taste_9 : decode cX5_taste 9 = .ok (.if_icmp .ge 29, 3) := by decide +kernel
theorem dX5_taste_12 : decode cX5_taste 12 = .ok (.iload_n 2, 1) := by decide +kernel
theorem dX5_taste_13 : decode cX5_taste 13 = .ok (.ifCond .eq 25, 3) := by decide +kernel
theorem dX5_taste_16 : decode cX5_taste 16 = .ok (.aload_n 0, 1) := by decide +kernel
theorem dX5_taste_17 : decode cX5_taste 17 = .ok (.getfield 19, 3) := by decide +kernel
theorem dX5_taste_20 : decode cX5_taste 20 = .ok (.iload_n 3, 1) := by decide +kernel
theorem dX5_taste_21 : decode cX5_taste 21 = .ok (.iaload, 1) := by decide +kernel
theorem dX5_taste_22 : decode cX5_taste 22 = .ok (.iload_n 1, 1) := by decide +kernel
theorem dX5_taste_23 : decode cX5_taste 23 = .ok (.if_icmp .eq 7, 3) := by decide +kernel
theorem dX5_taste_26 : decode cX5_taste 26 = .ok (.iconst 1, 1) := by decide +kernel
theorem dX5_taste_27 : decode cX5_taste 27 = .ok (.goto 4, 3) := by decide +kernel
theorem dX5_taste_30 : decode cX5_taste 30 = .ok (.iconst 0, 1) := by decide +kernel
theorem dX5_taste_31 : decode cX5_taste 31 = .ok (.istore_n 2, 1) := by decide +kernel
theorem dX5_taste_32 : decode cX5_taste 32 = .ok (.iinc 3 1, 3) := by decide +kernel
theorem dX5_taste_35 : decode cX5_taste 35 = .ok (.goto (-31), 3) := by decide +kernel
theorem dX5_taste_38 : decode cX5_taste 38 = .ok (.iload_n 2, 1) := by decide +kernel
theorem dX5_taste_39 : decode cX5_taste 39 = .ok (.ifCond .eq 23, 3) := by decide +kernel
theorem dX5_taste_42 : decode cX5_taste 42 = .ok (.aload_n 0, 1) := by decide +kernel
theorem dX5_taste_43 : decode cX5_taste 43 = .ok (.getfield 19, 3) := by decide +kernel
theorem dX5_taste_46 : decode cX5_taste 46 = .ok (.aload_n 0, 1) := by decide +kernel
theorem dX5_taste_47 : decode cX5_taste 47 = .ok (.getfield 50, 3) := by decide +kernel
theorem dX5_taste_50 : decode cX5_taste 50 = .ok (.iload_n 1, 1) := by decide +kernel
theorem dX5_taste_51 : decode cX5_taste 51 = .ok (.iastore, 1) := by decide +kernel
theorem dX5_taste_52 : decode cX5_taste 52 = .ok (.aload_n 0, 1) := by decide +kernel
theorem dX5_taste_53 : decode cX5_taste 53 = .ok (.dup, 1) := by decide +kernel
theorem dX5_taste_54 : decode cX5_taste 54 = .ok (.getfield 50, 3) := by decide +kernel
theorem dX5_taste_57 : decode cX5_taste 57 = .ok (.iconst 1, 1) := by decide +kernel
theorem dX5_taste_58 : decode cX5_taste 58 = .ok (.iadd, 1) := by decide +kernel
theorem dX5_taste_59 : decode cX5_taste 59 = .ok (.putfield 50, 3) := by decide +kernel
theorem dX5_taste_62 : decode cX5_taste 62 = .ok (.aload_n 0, 1) := by decide +kernel
theorem dX5_taste_63 : decode cX5_taste 63 = .ok (.iload_n 1, 1) := by decide +kernel
theorem dX5_taste_64 : decode cX5_taste 64 = .ok (.invokevirtual 53, 3) := by decide +kernel
theorem dX5_taste_67 : decode cX5_taste 67 = .ok (.ireturn, 1) := by decide +kernel
theorem dX5_note_0 : decode cX5_note 0 = .ok (.iconst 5, 1) := by decide +kernel
theorem dX5_note_1 : decode cX5_note 1 = .ok (.aload_n 0, 1) := by decide +kernel
theorem dX5_note_2 : decode cX5_note 2 = .ok (.getfield 57, 3) := by decide +kernel
theorem dX5_note_5 : decode cX5_note 5 = .ok (.imul, 1) := by decide +kernel
theorem dX5_note_6 : decode cX5_note 6 = .ok (.istore 6, 2) := by decide +kernel
theorem dX5_note_8 : decode cX5_note 8 = .ok (.aload_n 0, 1) := by decide +kernel
theorem dX5_note_9 : decode cX5_note 9 = .ok (.getfield 22, 3) := by decide +kernel
theorem dX5_note_12 : decode cX5_note 12 = .ok (.iload 6, 2) := by decide +kernel
theorem dX5_note_14 : decode cX5_note 14 = .ok (.iload_n 1, 1) := by decide +kernel
theorem dX5_note_15 : decode cX5_note 15 = .ok (.iastore, 1) := by decide +kernel
theorem dX5_note_16 : decode cX5_note 16 = .ok (.aload_n 0, 1) := by decide +kernel
theorem dX5_note_17 : decode cX5_note 17 = .ok (.getfield 22, 3) := by decide +kernel
theorem dX5_note_20 : decode cX5_note 20 = .ok (.iload 6, 2) := by decide +kernel
theorem dX5_note_22 : decode cX5_note 22 = .ok (.iconst 1, 1) := by decide +kernel
theorem dX5_note_23 : decode cX5_note 23 = .ok (.iadd, 1) := by decide +kernel
theorem dX5_note_24 : decode cX5_note 24 = .ok (.iload_n 2, 1) := by decide +kernel
theorem dX5_note_25 : decode cX5_note 25 = .ok (.iastore, 1) := by decide +kernel
theorem dX5_note_26 : decode cX5_note 26 = .ok (.aload_n 0, 1) := by decide +kernel
theorem dX5_note_27 : decode cX5_note 27 = .ok (.getfield 22, 3) := by decide +kernel
theorem dX5_note_30 : decode cX5_note 30 = .ok (.iload 6, 2) := by decide +kernel
theorem dX5_note_32 : decode cX5_note 32 = .ok (.iconst 2, 1) := by decide +kernel
theorem dX5_note_33 : decode cX5_note 33 = .ok (.iadd, 1) := by decide +kernel
theorem dX5_note_34 : decode cX5_note 34 = .ok (.iload_n 3, 1) := by decide +kernel
theorem dX5_note_35 : decode cX5_note 35 = .ok (.iastore, 1) := by decide +kernel
theorem dX5_note_36 : decode cX5_note 36 = .ok (.aload_n 0, 1) := by decide +kernel
theorem dX5_note_37 : decode cX5_note 37 = .ok (.getfield 22, 3) := by decide +kernel
theorem dX5_note_40 : decode cX5_note 40 = .ok (.iload 6, 2) := by decide +kernel
theorem dX5_note_42 : decode cX5_note 42 = .ok (.iconst 3, 1) := by decide +kernel
theorem dX5_note_43 : decode cX5_note 43 = .ok (.iadd, 1) := by decide +kernel
theorem dX5_note_44 : decode cX5_note 44 = .ok (.iload 4, 2) := by decide +kernel
theorem dX5_note_46 : decode cX5_note 46 = .ok (.iastore, 1) := by decide +kernel
theorem dX5_note_47 : decode cX5_note 47 = .ok (.aload_n 0, 1) := by decide +kernel
theorem dX5_note_48 : decode cX5_note 48 = .ok (.getfield 22, 3) := by decide +kernel
theorem dX5_note_51 : decode cX5_note 51 = .ok (.iload 6, 2) := by decide +kernel
theorem dX5_note_53 : decode cX5_note 53 = .ok (.iconst 4, 1) := by decide +kernel
theorem dX5_note_54 : decode cX5_note 54 = .ok (.iadd, 1) := by decide +kernel
theorem dX5_note_55 : decode cX5_note 55 = .ok (.iload 5, 2) := by decide +kernel
theorem dX5_note_57 : decode cX5_note 57 = .ok (.iastore, 1) := by decide +kernel
theorem dX5_note_58 : decode cX5_note 58 = .ok (.aload_n 0, 1) := by decide +kernel
theorem dX5_note_59 : decode cX5_note 59 = .ok (.dup, 1) := by decide +kernel
theorem dX5_note_60 : decode cX5_note 60 = .ok (.getfield 57, 3) := by decide +kernel
theorem dX5_note_63 : decode cX5_note 63 = .ok (.iconst 1, 1) := by decide +kernel
theorem dX5_note_64 : decode cX5_note 64 = .ok (.iadd, 1) := by decide +kernel
theorem dX5_note_65 : decode cX5_note 65 = .ok (.putfield 57, 3) := by decide +kernel
theorem dX5_note_68 : decode cX5_note 68 = .ok (.return_, 1) := by decide +kernel
theorem dX5_part_0 : decode cX5_part 0 = .ok (.iconst 0, 1) := by decide +kernel
theorem dX5_part_1 : decode cX5_part 1 = .ok (.istore_n 3, 1) := by decide +kernel
theorem dX5_part_2 : decode cX5_part 2 = .ok (.iconst 0, 1) := by decide +kernel
theorem dX5_part_3 : decode cX5_part 3 = .ok (.istore 4, 2) := by decide +kernel
theorem dX5_part_5 : decode cX5_part 5 = .ok (.iconst 0, 1) := by decide +kernel
theorem dX5_part_6 : decode cX5_part 6 = .ok (.istore 5, 2) := by decide +kernel
theorem dX5_part_8 : decode cX5_part 8 = .ok (.iload 5, 2) := by decide +kernel
theorem dX5_part_10 : decode cX5_part 10 = .ok (.bipush 24, 2) := by decide +kernel
theorem dX5_part_12 : decode cX5_part 12 = .ok (.if_icmp .ge 43, 3) := by decide +kernel
theorem dX5_part_15 : decode cX5_part 15 = .ok (.iload_n 0, 1) := by decide +kernel
theorem dX5_part_16 : decode cX5_part 16 = .ok (.iload 5, 2) := by decide +kernel
theorem dX5_part_18 : decode cX5_part 18 = .ok (.ishr, 1) := by decide +kernel
theorem dX5_part_19 : decode cX5_part 19 = .ok (.iconst 1, 1) := by decide +kernel
theorem dX5_part_20 : decode cX5_part 20 = .ok (.iand, 1) := by decide +kernel
theorem dX5_part_21 : decode cX5_part 21 = .ok (.ifCond .ne 6, 3) := by decide +kernel
theorem dX5_part_24 : decode cX5_part 24 = .ok (.goto 25, 3) := by decide +kernel
theorem dX5_part_27 : decode cX5_part 27 = .ok (.iload 4, 2) := by decide +kernel
theorem dX5_part_29 : decode cX5_part 29 = .ok (.iload_n 1, 1) := by decide +kernel
theorem dX5_part_30 : decode cX5_part 30 = .ok (.if_icmp .lt 16, 3) := by decide +kernel
theorem dX5_part_33 : decode cX5_part 33 = .ok (.iload 4, 2) := by decide +kernel
theorem dX5_part_35 : decode cX5_part 35 = .ok (.iload_n 2, 1) := by decide +kernel
theorem dX5_part_36 : decode cX5_part 36 = .ok (.if_icmp .ge 10, 3) := by decide +kernel
theorem dX5_part_39 : decode cX5_part 39 = .ok (.iload_n 3, 1) := by decide +kernel
theorem dX5_part_40 : decode cX5_part 40 = .ok (.iconst 1, 1) := by decide +kernel
theorem dX5_part_41 : decode cX5_part 41 = .ok (.iload 5, 2) := by decide +kernel
theorem dX5_part_43 : decode cX5_part 43 = .ok (.ishl, 1) := by decide +kernel
theorem dX5_part_44 : decode cX5_part 44 = .ok (.ior, 1) := by decide +kernel
theorem dX5_part_45 : decode cX5_part 45 = .ok (.istore_n 3, 1) := by decide +kernel
theorem dX5_part_46 : decode cX5_part 46 = .ok (.iinc 4 1, 3) := by decide +kernel
theorem dX5_part_49 : decode cX5_part 49 = .ok (.iinc 5 1, 3) := by decide +kernel
theorem dX5_part_52 : decode cX5_part 52 = .ok (.goto (-44), 3) := by decide +kernel
theorem dX5_part_55 : decode cX5_part 55 = .ok (.iload_n 3, 1) := by decide +kernel
theorem dX5_part_56 : decode cX5_part 56 = .ok (.ireturn, 1) := by decide +kernel
set_option maxRecDepth 20000 in
theorem ggX5_partOf_J6_bitCount_0f7a4 : GoodIn wsX5_partOf wsJ6_bitCount_0f7a4 := goodIn_r _ [4, 5, 6, 7] (by decide +kernel) (by decide +kernel)
set_option maxRecDepth 20000 in
theorem gX5_partOf_J6_bitCount_0f7a4 : GoodIn wsX5_partOf (va_wsS RX5 60 yJ6_bitCount_0f7a4 wsJ6_bitCount_0f7a4) := goodIn_app (goodIn_of _ (by decide +kernel)) ggX5_partOf_J6_bitCount_0f7a4
set_option maxRecDepth 20000 in
theorem ggX5_partOf_X5_part : GoodIn wsX5_partOf wsX5_part := goodIn_r _ [11] (by decide +kernel) (by decide +kernel)
set_option maxRecDepth 20000 in
theorem gX5_partOf_X5_part : GoodIn wsX5_partOf (va_wsS RX5 65 yX5_part wsX5_part) := goodIn_app (goodIn_of _ (by decide +kernel)) ggX5_partOf_X5_part
theorem dX5_partOf_0 : decode cX5_partOf 0 = .ok (.iload_n 0, 1) := by decide +kernel
theorem dX5_partOf_1 : decode cX5_partOf 1 = .ok (.invokestatic 60, 3) := by decide +kernel
theorem dX5_partOf_4 : decode cX5_partOf 4 = .ok (.istore_n 3, 1) := by decide +kernel
theorem dX5_partOf_5 : decode cX5_partOf 5 = .ok (.iload_n 0, 1) := by decide +kernel
theorem dX5_partOf_6 : decode cX5_partOf 6 = .ok (.iload_n 1, 1) := by decide +kernel
theorem dX5_partOf_7 : decode cX5_partOf 7 = .ok (.iload_n 3, 1) := by decide +kernel
theorem dX5_partOf_8 : decode cX5_partOf 8 = .ok (.imul, 1) := by decide +kernel
theorem dX5_partOf_9 : decode cX5_partOf 9 = .ok (.iload_n 2, 1) := by decide +kernel
theorem dX5_partOf_10 : decode cX5_partOf 10 = .ok (.idiv, 1) := by decide +kernel
theorem dX5_partOf_11 : decode cX5_partOf 11 = .ok (.iload_n 1, 1) := by decide +kernel
theorem dX5_partOf_12 : decode cX5_partOf 12 = .ok (.iconst 1, 1) := by decide +kernel
theorem dX5_partOf_13 : decode cX5_partOf 13 = .ok (.iadd, 1) := by decide +kernel
theorem dX5_partOf_14 : decode cX5_partOf 14 = .ok (.iload_n 3, 1) := by decide +kernel
theorem dX5_partOf_15 : decode cX5_partOf 15 = .ok (.imul, 1) := by decide +kernel
theorem dX5_partOf_16 : decode cX5_partOf 16 = .ok (.iload_n 2, 1) := by decide +kernel
theorem dX5_partOf_17 : decode cX5_partOf 17 = .ok (.idiv, 1) := by decide +kernel
theorem dX5_partOf_18 : decode cX5_partOf 18 = .ok (.invokestatic 65, 3) := by decide +kernel
theorem dX5_partOf_21 : decode cX5_partOf 21 = .ok (.ireturn, 1) := by decide +kernel
set_option maxRecDepth 20000 in
theorem ggX5_first_X5_partOf : GoodIn wsX5_first wsX5_partOf := goodIn_r _ [4, 5, 6, 7, 8, 9, 10, 11, 12, 13, 3, 14] (by decide +kernel) (by decide +kernel)
set_option maxRecDepth 20000 in
theorem gX5_first_X5_partOf : GoodIn wsX5_first (va_wsS RX5 69 yX5_partOf wsX5_partOf) := goodIn_app (goodIn_of _ (by decide +kernel)) ggX5_first_X5_partOf
set_option maxRecDepth 20000 in
theorem ggX5_first_X5_taste : GoodIn wsX5_first wsX5_taste := goodIn_r _ [18, 19, 20, 21, 22, 23, 3, 24, 25, 26, 27, 28, 29, 30, 31, 32, 33, 34, 35, 36, 37, 38, 39, 40, 41, 42, 43, 44, 45, 46, 47, 48, 49, 50, 51, 52, 53, 54] (by decide +kernel) (by decide +kernel)
set_option maxRecDepth 20000 in
theorem gX5_first_X5_taste : GoodIn wsX5_first (wsV RX5 72 RX5 yX5_taste wsX5_taste) := goodIn_app (goodIn_of _ (by decide +kernel)) ggX5_first_X5_taste
theorem dX5_first_0 : decode cX5_first 0 = .ok (.iconst 0, 1) := by decide +kernel
theorem dX5_first_1 : decode cX5_first 1 = .ok (.istore 4, 2) := by decide +kernel
theorem dX5_first_3 : decode cX5_first 3 = .ok (.iload 4, 2) := by decide +kernel
theorem dX5_first_5 : decode cX5_first 5 = .ok (.iload_n 2, 1) := by decide +kernel
theorem dX5_first_6 : decode cX5_first 6 = .ok (.if_icmp .ge 44, 3) := by decide +kernel
theorem dX5_first_9 : decode cX5_first 9 = .ok (.aload_n 0, 1) := by decide +kernel
theorem dX5_first_10 : decode cX5_first 10 = .ok (.iload_n 3, 1) := by decide +kernel
theorem dX5_first_11 : decode cX5_first 11 = .ok (.ifCond .eq 17, 3) := by decide +kernel
theorem dX5_first_14 : decode cX5_first 14 = .ok (.iload_n 1, 1) := by decide +kernel
theorem dX5_first_15 : decode cX5_first 15 = .ok (.iload_n 1, 1) := by decide +kernel
theorem dX5_first_16 : decode cX5_first 16 = .ok (.iload 4, 2) := by decide +kernel
theorem dX5_first_18 : decode cX5_first 18 = .ok (.iload_n 2, 1) := by decide +kernel
theorem dX5_first_19 : decode cX5_first 19 = .ok (.invokestatic 69, 3) := by decide +kernel
theorem dX5_first_22 : decode cX5_first 22 = .ok (.iconst (-1), 1) := by decide +kernel
theorem dX5_first_23 : decode cX5_first 23 = .ok (.ixor, 1) := by decide +kernel
theorem dX5_first_24 : decode cX5_first 24 = .ok (.iand, 1) := by decide +kernel
theorem dX5_first_25 : decode cX5_first 25 = .ok (.goto 10, 3) := by decide +kernel
theorem dX5_first_28 : decode cX5_first 28 = .ok (.iload_n 1, 1) := by decide +kernel
theorem dX5_first_29 : decode cX5_first 29 = .ok (.iload 4, 2) := by decide +kernel
theorem dX5_first_31 : decode cX5_first 31 = .ok (.iload_n 2, 1) := by decide +kernel
theorem dX5_first_32 : decode cX5_first 32 = .ok (.invokestatic 69, 3) := by decide +kernel
theorem dX5_first_35 : decode cX5_first 35 = .ok (.invokevirtual 72, 3) := by decide +kernel
theorem dX5_first_38 : decode cX5_first 38 = .ok (.ifCond .eq 6, 3) := by decide +kernel
theorem dX5_first_41 : decode cX5_first 41 = .ok (.iload 4, 2) := by decide +kernel
theorem dX5_first_43 : decode cX5_first 43 = .ok (.ireturn, 1) := by decide +kernel
theorem dX5_first_44 : decode cX5_first 44 = .ok (.iinc 4 1, 3) := by decide +kernel
theorem dX5_first_47 : decode cX5_first 47 = .ok (.goto (-44), 3) := by decide +kernel
theorem dX5_first_50 : decode cX5_first 50 = .ok (.iconst (-1), 1) := by decide +kernel
theorem dX5_first_51 : decode cX5_first 51 = .ok (.ireturn, 1) := by decide +kernel
set_option maxRecDepth 20000 in
theorem ggX5_halve_X5_whole : GoodIn wsX5_halve wsX5_whole := goodIn_r _ [11, 12, 56, 57, 58, 59, 60, 61, 62, 63, 64, 65, 66, 67, 68, 69, 70, 71, 72] (by decide +kernel) (by decide +kernel)
set_option maxRecDepth 20000 in
theorem gX5_halve_X5_whole : GoodIn wsX5_halve (wsV RX5 75 RX5 yX5_whole wsX5_whole) := goodIn_app (goodIn_of _ (by decide +kernel)) ggX5_halve_X5_whole
set_option maxRecDepth 20000 in
theorem ggX5_halve_X5_taste : GoodIn wsX5_halve wsX5_taste := goodIn_r _ [16, 1, 17, 18, 19, 20, 10, 21, 22, 23, 24, 25, 26, 12, 27, 28, 29, 30, 31, 32, 33, 56, 57, 58, 59, 60, 61, 62, 63, 64, 65, 66, 67, 68, 69, 70, 71, 72] (by decide +kernel) (by decide +kernel)
set_option maxRecDepth 20000 in
theorem gX5_halve_X5_taste : GoodIn wsX5_halve (wsV RX5 72 RX5 yX5_taste wsX5_taste) := goodIn_app (goodIn_of _ (by decide +kernel)) ggX5_halve_X5_taste
set_option maxRecDepth 20000 in
theorem ggX5_halve_J6_bitCount_0f7a4 : GoodIn wsX5_halve wsJ6_bitCount_0f7a4 := goodIn_r _ [37, 38, 39, 40] (by decide +kernel) (by decide +kernel)
set_option maxRecDepth 20000 in
theorem gX5_halve_J6_bitCount_0f7a4 : GoodIn wsX5_halve (va_wsS RX5 60 yJ6_bitCount_0f7a4 wsJ6_bitCount_0f7a4) := goodIn_app (goodIn_of _ (by decide +kernel)) ggX5_halve_J6_bitCount_0f7a4
set_option maxRecDepth 20000 in
theorem ggX5_halve_X5_first : GoodIn wsX5_halve wsX5_first := goodIn_r _ [44, 45, 46, 10, 47, 34, 35, 36, 37, 38, 39, 40, 48, 49, 50, 13, 14, 15, 16, 1, 17, 18, 19, 20, 21, 22, 23, 24, 25, 26, 12, 27, 28, 29, 30, 31, 32, 33, 56, 57, 58, 59, 60, 61, 62, 63, 64, 65, 66, 67, 68, 69, 70, 71, 72] (by decide +kernel) (by decide +kernel)
set_option maxRecDepth 20000 in
theorem gX5_halve_X5_first : GoodIn wsX5_halve (wsV RX5 79 RX5 yX5_first wsX5_first) := goodIn_app (goodIn_of _ (by decide +kernel)) ggX5_halve_X5_first
set_option maxRecDepth 20000 in
theorem ggX5_halve_X5_partOf : GoodIn wsX5_halve wsX5_partOf := goodIn_r _ [47, 34, 35, 36, 37, 38, 39, 40, 48, 49, 10, 50] (by decide +kernel) (by decide +kernel)
set_option maxRecDepth 20000 in
theorem gX5_halve_X5_partOf : GoodIn wsX5_halve (va_wsS RX5 69 yX5_partOf wsX5_partOf) := goodIn_app (goodIn_of _ (by decide +kernel)) ggX5_halve_X5_partOf
set_option maxRecDepth 20000 in
theorem ggX5_halve_X5_note : GoodIn wsX5_halve wsX5_note := goodIn_r _ [54, 2, 55, 56, 57, 58, 59, 60, 61, 62, 63, 64, 65, 66, 67, 68, 69, 70, 71, 72] (by decide +kernel) (by decide +kernel)
set_option maxRecDepth 20000 in
theorem gX5_halve_X5_note : GoodIn wsX5_halve (wsV RX5 83 RX5 yX5_note wsX5_note) := goodIn_app (goodIn_of _ (by decide +kernel)) ggX5_halve_X5_note
theorem dX5_halve_0 : decode cX5_halve 0 = .ok (.aload_n 0, 1) := by decide +kernel
theorem dX5_halve_1 : decode cX5_halve 1 = .ok (.iconst 0, 1) := by decide +kernel
theorem dX5_halve_2 : decode cX5_halve 2 = .ok (.putfield 50, 3) := by decide +kernel
theorem dX5_halve_5 : decode cX5_halve 5 = .ok (.aload_n 0, 1) := by decide +kernel
theorem dX5_halve_6 : decode cX5_halve 6 = .ok (.iconst 0, 1) := by decide +kernel
theorem dX5_halve_7 : decode cX5_halve 7 = .ok (.putfield 57, 3) := by decide +kernel
theorem dX5_halve_10 : decode cX5_halve 10 = .ok (.aload_n 0, 1) := by decide +kernel
theorem dX5_halve_11 : decode cX5_halve 11 = .ok (.invokevirtual 75, 3) := by decide +kernel
theorem dX5_halve_14 : decode cX5_halve 14 = .ok (.istore_n 1, 1) := by decide +kernel
theorem dX5_halve_15 : decode cX5_halve 15 = .ok (.aload_n 0, 1) := by decide +kernel
theorem dX5_halve_16 : decode cX5_halve 16 = .ok (.iload_n 1, 1) := by decide +kernel
theorem dX5_halve_17 : decode cX5_halve 17 = .ok (.invokevirtual 72, 3) := by decide +kernel
theorem dX5_halve_20 : decode cX5_halve 20 = .ok (.ifCond .ne 5, 3) := by decide +kernel
theorem dX5_halve_23 : decode cX5_halve 23 = .ok (.iconst 0, 1) := by decide +kernel
theorem dX5_halve_24 : decode cX5_halve 24 = .ok (.ireturn, 1) := by decide +kernel
theorem dX5_halve_25 : decode cX5_halve 25 = .ok (.iconst 2, 1) := by decide +kernel
theorem dX5_halve_26 : decode cX5_halve 26 = .ok (.istore_n 2, 1) := by decide +kernel
theorem dX5_halve_27 : decode cX5_halve 27 = .ok (.iload_n 1, 1) := by decide +kernel
theorem dX5_halve_28 : decode cX5_halve 28 = .ok (.invokestatic 60, 3) := by decide +kernel
theorem dX5_halve_31 : decode cX5_halve 31 = .ok (.iconst 1, 1) := by decide +kernel
theorem dX5_halve_32 : decode cX5_halve 32 = .ok (.if_icmp .le 124, 3) := by decide +kernel
theorem dX5_halve_35 : decode cX5_halve 35 = .ok (.iload_n 1, 1) := by decide +kernel
theorem dX5_halve_36 : decode cX5_halve 36 = .ok (.invokestatic 60, 3) := by decide +kernel
theorem dX5_halve_39 : decode cX5_halve 39 = .ok (.istore_n 3, 1) := by decide +kernel
theorem dX5_halve_40 : decode cX5_halve 40 = .ok (.aload_n 0, 1) := by decide +kernel
theorem dX5_halve_41 : decode cX5_halve 41 = .ok (.iload_n 1, 1) := by decide +kernel
theorem dX5_halve_42 : decode cX5_halve 42 = .ok (.iload_n 2, 1) := by decide +kernel
theorem dX5_halve_43 : decode cX5_halve 43 = .ok (.iconst 0, 1) := by decide +kernel
theorem dX5_halve_44 : decode cX5_halve 44 = .ok (.invokevirtual 79, 3) := by decide +kernel
theorem dX5_halve_47 : decode cX5_halve 47 = .ok (.istore 4, 2) := by decide +kernel
theorem dX5_halve_49 : decode cX5_halve 49 = .ok (.iload 4, 2) := by decide +kernel
theorem dX5_halve_51 : decode cX5_halve 51 = .ok (.iconst (-1), 1) := by decide +kernel
theorem dX5_halve_52 : decode cX5_halve 52 = .ok (.if_icmp .eq 26, 3) := by decide +kernel
theorem dX5_halve_55 : decode cX5_halve 55 = .ok (.iload_n 1, 1) := by decide +kernel
theorem dX5_halve_56 : decode cX5_halve 56 = .ok (.iload 4, 2) := by decide +kernel
theorem dX5_halve_58 : decode cX5_halve 58 = .ok (.iload_n 2, 1) := by decide +kernel
theorem dX5_halve_59 : decode cX5_halve 59 = .ok (.invokestatic 69, 3) := by decide +kernel
theorem dX5_halve_62 : decode cX5_halve 62 = .ok (.istore_n 1, 1) := by decide +kernel
theorem dX5_halve_63 : decode cX5_halve 63 = .ok (.aload_n 0, 1) := by decide +kernel
theorem dX5_halve_64 : decode cX5_halve 64 = .ok (.iload_n 3, 1) := by decide +kernel
theorem dX5_halve_65 : decode cX5_halve 65 = .ok (.iload_n 2, 1) := by decide +kernel
theorem dX5_halve_66 : decode cX5_halve 66 = .ok (.iconst 1, 1) := by decide +kernel
theorem dX5_halve_67 : decode cX5_halve 67 = .ok (.iload 4, 2) := by decide +kernel
theorem dX5_halve_69 : decode cX5_halve 69 = .ok (.iload_n 1, 1) := by decide +kernel
theorem dX5_halve_70 : decode cX5_halve 70 = .ok (.invokevirtual 83, 3) := by decide +kernel
theorem dX5_halve_73 : decode cX5_halve 73 = .ok (.iconst 2, 1) := by decide +kernel
theorem dX5_halve_74 : decode cX5_halve 74 = .ok (.istore_n 2, 1) := by decide +kernel
theorem dX5_halve_75 : decode cX5_halve 75 = .ok (.goto (-48), 3) := by decide +kernel
theorem dX5_halve_78 : decode cX5_halve 78 = .ok (.iload_n 2, 1) := by decide +kernel
theorem dX5_halve_79 : decode cX5_halve 79 = .ok (.iconst 2, 1) := by decide +kernel
theorem dX5_halve_80 : decode cX5_halve 80 = .ok (.if_icmp .le 12, 3) := by decide +kernel
theorem dX5_halve_83 : decode cX5_halve 83 = .ok (.aload_n 0, 1) := by decide +kernel
theorem dX5_halve_84 : decode cX5_halve 84 = .ok (.iload_n 1, 1) := by decide +kernel
theorem dX5_halve_85 : decode cX5_halve 85 = .ok (.iload_n 2, 1) := by decide +kernel
theorem dX5_halve_86 : decode cX5_halve 86 = .ok (.iconst 1, 1) := by decide +kernel
theorem dX5_halve_87 : decode cX5_halve 87 = .ok (.invokevirtual 79, 3) := by decide +kernel
theorem dX5_halve_90 : decode cX5_halve 90 = .ok (.istore 4, 2) := by decide +kernel
theorem dX5_halve_92 : decode cX5_halve 92 = .ok (.iload 4, 2) := by decide +kernel
theorem dX5_halve_94 : decode cX5_halve 94 = .ok (.iconst (-1), 1) := by decide +kernel
theorem dX5_halve_95 : decode cX5_halve 95 = .ok (.if_icmp .eq 31, 3) := by decide +kernel
theorem dX5_halve_98 : decode cX5_halve 98 = .ok (.iload_n 1, 1) := by decide +kernel
theorem dX5_halve_99 : decode cX5_halve 99 = .ok (.iload_n 1, 1) := by decide +kernel
theorem dX5_halve_100 : decode cX5_halve 100 = .ok (.iload 4, 2) := by decide +kernel
theorem dX5_halve_102 : decode cX5_halve 102 = .ok (.iload_n 2, 1) := by decide +kernel
theorem dX5_halve_103 : decode cX5_halve 103 = .ok (.invokestatic 69, 3) := by decide +kernel
theorem dX5_halve_106 : decode cX5_halve 106 = .ok (.iconst (-1), 1) := by decide +kernel
theorem dX5_halve_107 : decode cX5_halve 107 = .ok (.ixor, 1) := by decide +kernel
theorem dX5_halve_108 : decode cX5_halve 108 = .ok (.iand, 1) := by decide +kernel
theorem dX5_halve_109 : decode cX5_halve 109 = .ok (.istore_n 1, 1) := by decide +kernel
theorem dX5_halve_110 : decode cX5_halve 110 = .ok (.aload_n 0, 1) := by decide +kernel
theorem dX5_halve_111 : decode cX5_halve 111 = .ok (.iload_n 3, 1) := by decide +kernel
theorem dX5_halve_112 : decode cX5_halve 112 = .ok (.iload_n 2, 1) := by decide +kernel
theorem dX5_halve_113 : decode cX5_halve 113 = .ok (.iconst 2, 1) := by decide +kernel
theorem dX5_halve_114 : decode cX5_halve 114 = .ok (.iload 4, 2) := by decide +kernel
theorem dX5_halve_116 : decode cX5_halve 116 = .ok (.iload_n 1, 1) := by decide +kernel
theorem dX5_halve_117 : decode cX5_halve 117 = .ok (.invokevirtual 83, 3) := by decide +kernel
theorem dX5_halve_120 : decode cX5_halve 120 = .ok (.iinc 2 (-1), 3) := by decide +kernel
theorem dX5_halve_123 : decode cX5_halve 123 = .ok (.goto 30, 3) := by decide +kernel
theorem dX5_halve_126 : decode cX5_halve 126 = .ok (.iload_n 2, 1) := by decide +kernel
theorem dX5_halve_127 : decode cX5_halve 127 = .ok (.iload_n 3, 1) := by decide +kernel
theorem dX5_halve_128 : decode cX5_halve 128 = .ok (.if_icmp .ge 23, 3) := by decide +kernel
theorem dX5_halve_131 : decode cX5_halve 131 = .ok (.aload_n 0, 1) := by decide +kernel
theorem dX5_halve_132 : decode cX5_halve 132 = .ok (.iload_n 3, 1) := by decide +kernel
theorem dX5_halve_133 : decode cX5_halve 133 = .ok (.iload_n 2, 1) := by decide +kernel
theorem dX5_halve_134 : decode cX5_halve 134 = .ok (.iconst 3, 1) := by decide +kernel
theorem dX5_halve_135 : decode cX5_halve 135 = .ok (.iconst (-1), 1) := by decide +kernel
theorem dX5_halve_136 : decode cX5_halve 136 = .ok (.iload_n 1, 1) := by decide +kernel
theorem dX5_halve_137 : decode cX5_halve 137 = .ok (.invokevirtual 83, 3) := by decide +kernel
theorem dX5_halve_140 : decode cX5_halve 140 = .ok (.iload_n 3, 1) := by decide +kernel
theorem dX5_halve_141 : decode cX5_halve 141 = .ok (.iconst 2, 1) := by decide +kernel
theorem dX5_halve_142 : decode cX5_halve 142 = .ok (.iload_n 2, 1) := by decide +kernel
theorem dX5_halve_143 : decode cX5_halve 143 = .ok (.imul, 1) := by decide +kernel
theorem dX5_halve_144 : decode cX5_halve 144 = .ok (.invokestatic 87, 3) := by decide +kernel
theorem dX5_halve_147 : decode cX5_halve 147 = .ok (.istore_n 2, 1) := by decide +kernel
theorem dX5_halve_148 : decode cX5_halve 148 = .ok (.goto 5, 3) := by decide +kernel
theorem dX5_halve_151 : decode cX5_halve 151 = .ok (.iload_n 1, 1) := by decide +kernel
theorem dX5_halve_152 : decode cX5_halve 152 = .ok (.ireturn, 1) := by decide +kernel
theorem dX5_halve_153 : decode cX5_halve 153 = .ok (.goto (-126), 3) := by decide +kernel
theorem dX5_halve_156 : decode cX5_halve 156 = .ok (.iload_n 1, 1) := by decide +kernel
theorem dX5_halve_157 : decode cX5_halve 157 = .ok (.ireturn, 1) := by decide +kernel
set_option maxRecDepth 20000 in
theorem ggX5_spareEach_X5_whole : GoodIn wsX5_spareEach wsX5_whole := goodIn_r _ [7, 2, 29, 30, 31, 32, 33, 34, 35, 36, 37, 38, 39, 40, 41, 42, 43, 44, 45] (by decide +kernel) (by decide +kernel)
set_option maxRecDepth 20000 in
theorem gX5_spareEach_X5_whole : GoodIn wsX5_spareEach (wsV RX5 75 RX5 yX5_whole wsX5_whole) := goodIn_app (goodIn_of _ (by decide +kernel)) ggX5_spareEach_X5_whole
set_option maxRecDepth 20000 in
theorem ggX5_spareEach_X5_taste : GoodIn wsX5_spareEach wsX5_taste := goodIn_r _ [11, 1, 12, 13, 14, 15, 6, 16, 17, 18, 19, 20, 21, 2, 22, 23, 24, 25, 26, 27, 28, 29, 30, 31, 32, 33, 34, 35, 36, 37, 38, 39, 40, 41, 42, 43, 44, 45] (by decide +kernel) (by decide +kernel)
set_option maxRecDepth 20000 in
theorem gX5_spareEach_X5_taste : GoodIn wsX5_spareEach (wsV RX5 72 RX5 yX5_taste wsX5_taste) := goodIn_app (goodIn_of _ (by decide +kernel)) ggX5_spareEach_X5_taste
theorem dX5_spareEach_0 : decode cX5_spareEach 0 = .ok (.aload_n 0, 1) := by decide +kernel
theorem dX5_spareEach_1 : decode cX5_spareEach 1 = .ok (.iconst 0, 1) := by decide +kernel
theorem dX5_spareEach_2 : decode cX5_spareEach 2 = .ok (.putfield 50, 3) := by decide +kernel
theorem dX5_spareEach_5 : decode cX5_spareEach 5 = .ok (.aload_n 0, 1) := by decide +kernel
theorem dX5_spareEach_6 : decode cX5_spareEach 6 = .ok (.invokevirtual 75, 3) := by decide +kernel
theorem dX5_spareEach_9 : decode cX5_spareEach 9 = .ok (.istore_n 1, 1) := by decide +kernel
theorem dX5_spareEach_10 : decode cX5_spareEach 10 = .ok (.aload_n 0, 1) := by decide +kernel
theorem dX5_spareEach_11 : decode cX5_spareEach 11 = .ok (.iload_n 1, 1) := by decide +kernel
theorem dX5_spareEach_12 : decode cX5_spareEach 12 = .ok (.invokevirtual 72, 3) := by decide +kernel
theorem dX5_spareEach_15 : decode cX5_spareEach 15 = .ok (.ifCond .ne 5, 3) := by decide +kernel
theorem dX5_spareEach_18 : decode cX5_spareEach 18 = .ok (.iconst 0, 1) := by decide +kernel
theorem dX5_spareEach_19 : decode cX5_spareEach 19 = .ok (.ireturn, 1) := by decide +kernel
theorem dX5_spareEach_20 : decode cX5_spareEach 20 = .ok (.aload_n 0, 1) := by decide +kernel
theorem dX5_spareEach_21 : decode cX5_spareEach 21 = .ok (.getfield 39, 3) := by decide +kernel
theorem dX5_spareEach_24 : decode cX5_spareEach 24 = .ok (.iconst 1, 1) := by decide +kernel
theorem dX5_spareEach_25 : decode cX5_spareEach 25 = .ok (.isub, 1) := by decide +kernel
theorem dX5_spareEach_26 : decode cX5_spareEach 26 = .ok (.istore_n 2, 1) := by decide +kernel
theorem dX5_spareEach_27 : decode cX5_spareEach 27 = .ok (.iload_n 2, 1) := by decide +kernel
theorem dX5_spareEach_28 : decode cX5_spareEach 28 = .ok (.ifCond .lt 38, 3) := by decide +kernel
theorem dX5_spareEach_31 : decode cX5_spareEach 31 = .ok (.iload_n 1, 1) := by decide +kernel
theorem dX5_spareEach_32 : decode cX5_spareEach 32 = .ok (.iconst 1, 1) := by decide +kernel
theorem dX5_spareEach_33 : decode cX5_spareEach 33 = .ok (.iload_n 2, 1) := by decide +kernel
theorem dX5_spareEach_34 : decode cX5_spareEach 34 = .ok (.ishl, 1) := by decide +kernel
theorem dX5_spareEach_35 : decode cX5_spareEach 35 = .ok (.if_icmp .eq 25, 3) := by decide +kernel
theorem dX5_spareEach_38 : decode cX5_spareEach 38 = .ok (.aload_n 0, 1) := by decide +kernel
theorem dX5_spareEach_39 : decode cX5_spareEach 39 = .ok (.iload_n 1, 1) := by decide +kernel
theorem dX5_spareEach_40 : decode cX5_spareEach 40 = .ok (.iconst 1, 1) := by decide +kernel
theorem dX5_spareEach_41 : decode cX5_spareEach 41 = .ok (.iload_n 2, 1) := by decide +kernel
theorem dX5_spareEach_42 : decode cX5_spareEach 42 = .ok (.ishl, 1) := by decide +kernel
theorem dX5_spareEach_43 : decode cX5_spareEach 43 = .ok (.iconst (-1), 1) := by decide +kernel
theorem dX5_spareEach_44 : decode cX5_spareEach 44 = .ok (.ixor, 1) := by decide +kernel
theorem dX5_spareEach_45 : decode cX5_spareEach 45 = .ok (.iand, 1) := by decide +kernel
theorem dX5_spareEach_46 : decode cX5_spareEach 46 = .ok (.invokevirtual 72, 3) := by decide +kernel
theorem dX5_spareEach_49 : decode cX5_spareEach 49 = .ok (.ifCond .eq 11, 3) := by decide +kernel
theorem dX5_spareEach_52 : decode cX5_spareEach 52 = .ok (.iload_n 1, 1) := by decide +kernel
theorem dX5_spareEach_53 : decode cX5_spareEach 53 = .ok (.iconst 1, 1) := by decide +kernel
theorem dX5_spareEach_54 : decode cX5_spareEach 54 = .ok (.iload_n 2, 1) := by decide +kernel
theorem dX5_spareEach_55 : decode cX5_spareEach 55 = .ok (.ishl, 1) := by decide +kernel
theorem dX5_spareEach_56 : decode cX5_spareEach 56 = .ok (.iconst (-1), 1) := by decide +kernel
theorem dX5_spareEach_57 : decode cX5_spareEach 57 = .ok (.ixor, 1) := by decide +kernel
theorem dX5_spareEach_58 : decode cX5_spareEach 58 = .ok (.iand, 1) := by decide +kernel
theorem dX5_spareEach_59 : decode cX5_spareEach 59 = .ok (.istore_n 1, 1) := by decide +kernel
theorem dX5_spareEach_60 : decode cX5_spareEach 60 = .ok (.iinc 2 (-1), 3) := by decide +kernel
theorem dX5_spareEach_63 : decode cX5_spareEach 63 = .ok (.goto (-36), 3) := by decide +kernel
theorem dX5_spareEach_66 : decode cX5_spareEach 66 = .ok (.iload_n 1, 1) := by decide +kernel
theorem dX5_spareEach_67 : decode cX5_spareEach 67 = .ok (.ireturn, 1) := by decide +kernel
set_option maxRecDepth 20000 in
theorem ggX5_add_X5_isIn : GoodIn wsX5_add wsX5_isIn := goodIn_r _ [7] (by decide +kernel) (by decide +kernel)
set_option maxRecDepth 20000 in
theorem gX5_add_X5_isIn : GoodIn wsX5_add (va_wsS RX5 35 yX5_isIn wsX5_isIn) := goodIn_app (goodIn_of _ (by decide +kernel)) ggX5_add_X5_isIn
set_option maxRecDepth 20000 in
theorem ggX5_add_X5_no : GoodIn wsX5_add wsX5_no := goodIn_r _ [11, 1, 12, 13, 14, 15, 16, 17, 18, 19, 20, 21, 22, 23, 24, 25, 26, 27, 28] (by decide +kernel) (by decide +kernel)
set_option maxRecDepth 20000 in
theorem gX5_add_X5_no : GoodIn wsX5_add (wsV RX5 93 RX5 yX5_no wsX5_no) := goodIn_app (goodIn_of _ (by decide +kernel)) ggX5_add_X5_no
theorem dX5_add_0 : decode cX5_add 0 = .ok (.aload_n 0, 1) := by decide +kernel
theorem dX5_add_1 : decode cX5_add 1 = .ok (.iconst 0, 1) := by decide +kernel
theorem dX5_add_2 : decode cX5_add 2 = .ok (.putfield 28, 3) := by decide +kernel
theorem dX5_add_5 : decode cX5_add 5 = .ok (.iload_n 1, 1) := by decide +kernel
theorem dX5_add_6 : decode cX5_add 6 = .ok (.iconst 0, 1) := by decide +kernel
theorem dX5_add_7 : decode cX5_add 7 = .ok (.bipush 15, 2) := by decide +kernel
theorem dX5_add_9 : decode cX5_add 9 = .ok (.invokestatic 35, 3) := by decide +kernel
theorem dX5_add_12 : decode cX5_add 12 = .ok (.ifCond .ne 9, 3) := by decide +kernel
theorem dX5_add_15 : decode cX5_add 15 = .ok (.aload_n 0, 1) := by decide +kernel
theorem dX5_add_16 : decode cX5_add 16 = .ok (.iconst 1, 1) := by decide +kernel
theorem dX5_add_17 : decode cX5_add 17 = .ok (.invokevirtual 93, 3) := by decide +kernel
theorem dX5_add_20 : decode cX5_add 20 = .ok (.ireturn, 1) := by decide +kernel
theorem dX5_add_21 : decode cX5_add 21 = .ok (.aload_n 0, 1) := by decide +kernel
theorem dX5_add_22 : decode cX5_add 22 = .ok (.getfield 39, 3) := by decide +kernel
theorem dX5_add_25 : decode cX5_add 25 = .ok (.bipush 24, 2) := by decide +kernel
theorem dX5_add_27 : decode cX5_add 27 = .ok (.if_icmp .ne 9, 3) := by decide +kernel
theorem dX5_add_30 : decode cX5_add 30 = .ok (.aload_n 0, 1) := by decide +kernel
theorem dX5_add_31 : decode cX5_add 31 = .ok (.iconst 2, 1) := by decide +kernel
theorem dX5_add_32 : decode cX5_add 32 = .ok (.invokevirtual 93, 3) := by decide +kernel
theorem dX5_add_35 : decode cX5_add 35 = .ok (.ireturn, 1) := by decide +kernel
theorem dX5_add_36 : decode cX5_add 36 = .ok (.aload_n 0, 1) := by decide +kernel
theorem dX5_add_37 : decode cX5_add 37 = .ok (.getfield 9, 3) := by decide +kernel
theorem dX5_add_40 : decode cX5_add 40 = .ok (.aload_n 0, 1) := by decide +kernel
theorem dX5_add_41 : decode cX5_add 41 = .ok (.getfield 39, 3) := by decide +kernel
theorem dX5_add_44 : decode cX5_add 44 = .ok (.iload_n 1, 1) := by decide +kernel
theorem dX5_add_45 : decode cX5_add 45 = .ok (.iastore, 1) := by decide +kernel
theorem dX5_add_46 : decode cX5_add 46 = .ok (.aload_n 0, 1) := by decide +kernel
theorem dX5_add_47 : decode cX5_add 47 = .ok (.dup, 1) := by decide +kernel
theorem dX5_add_48 : decode cX5_add 48 = .ok (.getfield 39, 3) := by decide +kernel
theorem dX5_add_51 : decode cX5_add 51 = .ok (.iconst 1, 1) := by decide +kernel
theorem dX5_add_52 : decode cX5_add 52 = .ok (.iadd, 1) := by decide +kernel
theorem dX5_add_53 : decode cX5_add 53 = .ok (.putfield 39, 3) := by decide +kernel
theorem dX5_add_56 : decode cX5_add 56 = .ok (.aload_n 0, 1) := by decide +kernel
theorem dX5_add_57 : decode cX5_add 57 = .ok (.getfield 39, 3) := by decide +kernel
theorem dX5_add_60 : decode cX5_add 60 = .ok (.ireturn, 1) := by decide +kernel
theorem dX5_takeOut_0 : decode cX5_takeOut 0 = .ok (.aload_n 0, 1) := by decide +kernel
theorem dX5_takeOut_1 : decode cX5_takeOut 1 = .ok (.getfield 9, 3) := by decide +kernel
theorem dX5_takeOut_4 : decode cX5_takeOut 4 = .ok (.iload_n 1, 1) := by decide +kernel
theorem dX5_takeOut_5 : decode cX5_takeOut 5 = .ok (.iaload, 1) := by decide +kernel
theorem dX5_takeOut_6 : decode cX5_takeOut 6 = .ok (.istore_n 2, 1) := by decide +kernel
theorem dX5_takeOut_7 : decode cX5_takeOut 7 = .ok (.iload_n 1, 1) := by decide +kernel
theorem dX5_takeOut_8 : decode cX5_takeOut 8 = .ok (.istore_n 3, 1) := by decide +kernel
theorem dX5_takeOut_9 : decode cX5_takeOut 9 = .ok (.iload_n 3, 1) := by decide +kernel
theorem dX5_takeOut_10 : decode cX5_takeOut 10 = .ok (.iconst 1, 1) := by decide +kernel
theorem dX5_takeOut_11 : decode cX5_takeOut 11 = .ok (.iadd, 1) := by decide +kernel
theorem dX5_takeOut_12 : decode cX5_takeOut 12 = .ok (.aload_n 0, 1) := by decide +kernel
theorem dX5_takeOut_13 : decode cX5_takeOut 13 = .ok (.getfield 39, 3) := by decide +kernel
theorem dX5_takeOut_16 : decode cX5_takeOut 16 = .ok (.if_icmp .ge 23, 3) := by decide +kernel
theorem dX5_takeOut_19 : decode cX5_takeOut 19 = .ok (.aload_n 0, 1) := by decide +kernel
theorem dX5_takeOut_20 : decode cX5_takeOut 20 = .ok (.getfield 9, 3) := by decide +kernel
theorem dX5_takeOut_23 : decode cX5_takeOut 23 = .ok (.iload_n 3, 1) := by decide +kernel
theorem dX5_takeOut_24 : decode cX5_takeOut 24 = .ok (.aload_n 0, 1) := by decide +kernel
theorem dX5_takeOut_25 : decode cX5_takeOut 25 = .ok (.getfield 9, 3) := by decide +kernel
theorem dX5_takeOut_28 : decode cX5_takeOut 28 = .ok (.iload_n 3, 1) := by decide +kernel
theorem dX5_takeOut_29 : decode cX5_takeOut 29 = .ok (.iconst 1, 1) := by decide +kernel
theorem dX5_takeOut_30 : decode cX5_takeOut 30 = .ok (.iadd, 1) := by decide +kernel
theorem dX5_takeOut_31 : decode cX5_takeOut 31 = .ok (.iaload, 1) := by decide +kernel
theorem dX5_takeOut_32 : decode cX5_takeOut 32 = .ok (.iastore, 1) := by decide +kernel
theorem dX5_takeOut_33 : decode cX5_takeOut 33 = .ok (.iinc 3 1, 3) := by decide +kernel
theorem dX5_takeOut_36 : decode cX5_takeOut 36 = .ok (.goto (-27), 3) := by decide +kernel
theorem dX5_takeOut_39 : decode cX5_takeOut 39 = .ok (.aload_n 0, 1) := by decide +kernel
theorem dX5_takeOut_40 : decode cX5_takeOut 40 = .ok (.dup, 1) := by decide +kernel
theorem dX5_takeOut_41 : decode cX5_takeOut 41 = .ok (.getfield 39, 3) := by decide +kernel
theorem dX5_takeOut_44 : decode cX5_takeOut 44 = .ok (.iconst 1, 1) := by decide +kernel
theorem dX5_takeOut_45 : decode cX5_takeOut 45 = .ok (.isub, 1) := by decide +kernel
theorem dX5_takeOut_46 : decode cX5_takeOut 46 = .ok (.putfield 39, 3) := by decide +kernel
theorem dX5_takeOut_49 : decode cX5_takeOut 49 = .ok (.iload_n 2, 1) := by decide +kernel
theorem dX5_takeOut_50 : decode cX5_takeOut 50 = .ok (.ireturn, 1) := by decide +kernel
set_option maxRecDepth 20000 in
theorem ggX5_drop_X5_isPlace : GoodIn wsX5_drop wsX5_isPlace := goodIn_r _ [6, 7, 8, 9, 5, 10, 20, 21, 22, 23, 24, 25, 26, 27, 28, 29, 30, 31, 32, 33, 34, 35, 36] (by decide +kernel) (by decide +kernel)
set_option maxRecDepth 20000 in
theorem gX5_drop_X5_isPlace : GoodIn wsX5_drop (wsV RX5 96 RX5 yX5_isPlace wsX5_isPlace) := goodIn_app (goodIn_of _ (by decide +kernel)) ggX5_drop_X5_isPlace
set_option maxRecDepth 20000 in
theorem ggX5_drop_X5_takeOut : GoodIn wsX5_drop wsX5_takeOut := goodIn_r _ [14, 15, 7, 20, 21, 22, 23, 24, 25, 26, 27, 28, 29, 30, 31, 32, 33, 34, 35, 36] (by decide +kernel) (by decide +kernel)
set_option maxRecDepth 20000 in
theorem gX5_drop_X5_takeOut : GoodIn wsX5_drop (wsV RX5 99 RX5 yX5_takeOut wsX5_takeOut) := goodIn_app (goodIn_of _ (by decide +kernel)) ggX5_drop_X5_takeOut
set_option maxRecDepth 20000 in
theorem ggX5_drop_X5_no : GoodIn wsX5_drop wsX5_no := goodIn_r _ [19, 1, 20, 21, 22, 23, 24, 25, 26, 27, 28, 29, 30, 31, 32, 33, 34, 35, 36] (by decide +kernel) (by decide +kernel)
set_option maxRecDepth 20000 in
theorem gX5_drop_X5_no : GoodIn wsX5_drop (wsV RX5 93 RX5 yX5_no wsX5_no) := goodIn_app (goodIn_of _ (by decide +kernel)) ggX5_drop_X5_no
theorem dX5_drop_0 : decode cX5_drop 0 = .ok (.aload_n 0, 1) := by decide +kernel
theorem dX5_drop_1 : decode cX5_drop 1 = .ok (.iconst 0, 1) := by decide +kernel
theorem dX5_drop_2 : decode cX5_drop 2 = .ok (.putfield 28, 3) := by decide +kernel
theorem dX5_drop_5 : decode cX5_drop 5 = .ok (.aload_n 0, 1) := by decide +kernel
theorem dX5_drop_6 : decode cX5_drop 6 = .ok (.iload_n 1, 1) := by decide +kernel
theorem dX5_drop_7 : decode cX5_drop 7 = .ok (.invokevirtual 96, 3) := by decide +kernel
theorem dX5_drop_10 : decode cX5_drop 10 = .ok (.ifCond .eq 11, 3) := by decide +kernel
theorem dX5_drop_13 : decode cX5_drop 13 = .ok (.aload_n 0, 1) := by decide +kernel
theorem dX5_drop_14 : decode cX5_drop 14 = .ok (.iload_n 1, 1) := by decide +kernel
theorem dX5_drop_15 : decode cX5_drop 15 = .ok (.invokevirtual 99, 3) := by decide +kernel
theorem dX5_drop_18 : decode cX5_drop 18 = .ok (.goto 8, 3) := by decide +kernel
theorem dX5_drop_21 : decode cX5_drop 21 = .ok (.aload_n 0, 1) := by decide +kernel
theorem dX5_drop_22 : decode cX5_drop 22 = .ok (.iconst 1, 1) := by decide +kernel
theorem dX5_drop_23 : decode cX5_drop 23 = .ok (.invokevirtual 93, 3) := by decide +kernel
theorem dX5_drop_26 : decode cX5_drop 26 = .ok (.ireturn, 1) := by decide +kernel
set_option maxRecDepth 20000 in
theorem ggX5_kind_X5_isPlace : GoodIn wsX5_kind wsX5_isPlace := goodIn_r _ [7, 8, 9, 10, 6, 11, 16, 17, 18, 19, 20, 21, 22, 23, 24, 25, 26, 27, 28, 29, 30, 31, 32] (by decide +kernel) (by decide +kernel)
set_option maxRecDepth 20000 in
theorem gX5_kind_X5_isPlace : GoodIn wsX5_kind (wsV RX5 96 RX5 yX5_isPlace wsX5_isPlace) := goodIn_app (goodIn_of _ (by decide +kernel)) ggX5_kind_X5_isPlace
set_option maxRecDepth 20000 in
theorem ggX5_kind_X5_no : GoodIn wsX5_kind wsX5_no := goodIn_r _ [15, 1, 16, 17, 18, 19, 20, 21, 22, 23, 24, 25, 26, 27, 28, 29, 30, 31, 32] (by decide +kernel) (by decide +kernel)
set_option maxRecDepth 20000 in
theorem gX5_kind_X5_no : GoodIn wsX5_kind (wsV RX5 93 RX5 yX5_no wsX5_no) := goodIn_app (goodIn_of _ (by decide +kernel)) ggX5_kind_X5_no
theorem dX5_kind_0 : decode cX5_kind 0 = .ok (.aload_n 0, 1) := by decide +kernel
theorem dX5_kind_1 : decode cX5_kind 1 = .ok (.iconst 0, 1) := by decide +kernel
theorem dX5_kind_2 : decode cX5_kind 2 = .ok (.putfield 28, 3) := by decide +kernel
theorem dX5_kind_5 : decode cX5_kind 5 = .ok (.aload_n 0, 1) := by decide +kernel
theorem dX5_kind_6 : decode cX5_kind 6 = .ok (.iload_n 1, 1) := by decide +kernel
theorem dX5_kind_7 : decode cX5_kind 7 = .ok (.invokevirtual 96, 3) := by decide +kernel
theorem dX5_kind_10 : decode cX5_kind 10 = .ok (.ifCond .eq 12, 3) := by decide +kernel
theorem dX5_kind_13 : decode cX5_kind 13 = .ok (.aload_n 0, 1) := by decide +kernel
theorem dX5_kind_14 : decode cX5_kind 14 = .ok (.getfield 9, 3) := by decide +kernel
theorem dX5_kind_17 : decode cX5_kind 17 = .ok (.iload_n 1, 1) := by decide +kernel
theorem dX5_kind_18 : decode cX5_kind 18 = .ok (.iaload, 1) := by decide +kernel
theorem dX5_kind_19 : decode cX5_kind 19 = .ok (.goto 8, 3) := by decide +kernel
theorem dX5_kind_22 : decode cX5_kind 22 = .ok (.aload_n 0, 1) := by decide +kernel
theorem dX5_kind_23 : decode cX5_kind 23 = .ok (.iconst 1, 1) := by decide +kernel
theorem dX5_kind_24 : decode cX5_kind 24 = .ok (.invokevirtual 93, 3) := by decide +kernel
theorem dX5_kind_27 : decode cX5_kind 27 = .ok (.ireturn, 1) := by decide +kernel
set_option maxRecDepth 20000 in
theorem ggX5_rule_X5_no : GoodIn wsX5_rule wsX5_no := goodIn_r _ [7, 1, 8, 9, 10, 11, 12, 13, 14, 15, 16, 17, 18, 19, 20, 21, 22, 23, 24] (by decide +kernel) (by decide +kernel)
set_option maxRecDepth 20000 in
theorem gX5_rule_X5_no : GoodIn wsX5_rule (wsV RX5 93 RX5 yX5_no wsX5_no) := goodIn_app (goodIn_of _ (by decide +kernel)) ggX5_rule_X5_no
theorem dX5_rule_0 : decode cX5_rule 0 = .ok (.aload_n 0, 1) := by decide +kernel
theorem dX5_rule_1 : decode cX5_rule 1 = .ok (.iconst 0, 1) := by decide +kernel
theorem dX5_rule_2 : decode cX5_rule 2 = .ok (.putfield 28, 3) := by decide +kernel
theorem dX5_rule_5 : decode cX5_rule 5 = .ok (.aload_n 0, 1) := by decide +kernel
theorem dX5_rule_6 : decode cX5_rule 6 = .ok (.getfield 32, 3) := by decide +kernel
theorem dX5_rule_9 : decode cX5_rule 9 = .ok (.bipush 6, 2) := by decide +kernel
theorem dX5_rule_11 : decode cX5_rule 11 = .ok (.if_icmp .ne 9, 3) := by decide +kernel
theorem dX5_rule_14 : decode cX5_rule 14 = .ok (.aload_n 0, 1) := by decide +kernel
theorem dX5_rule_15 : decode cX5_rule 15 = .ok (.iconst 1, 1) := by decide +kernel
theorem dX5_rule_16 : decode cX5_rule 16 = .ok (.invokevirtual 93, 3) := by decide +kernel
theorem dX5_rule_19 : decode cX5_rule 19 = .ok (.ireturn, 1) := by decide +kernel
theorem dX5_rule_20 : decode cX5_rule 20 = .ok (.aload_n 0, 1) := by decide +kernel
theorem dX5_rule_21 : decode cX5_rule 21 = .ok (.dup, 1) := by decide +kernel
theorem dX5_rule_22 : decode cX5_rule 22 = .ok (.getfield 32, 3) := by decide +kernel
theorem dX5_rule_25 : decode cX5_rule 25 = .ok (.iconst 1, 1) := by decide +kernel
theorem dX5_rule_26 : decode cX5_rule 26 = .ok (.iadd, 1) := by decide +kernel
theorem dX5_rule_27 : decode cX5_rule 27 = .ok (.putfield 32, 3) := by decide +kernel
theorem dX5_rule_30 : decode cX5_rule 30 = .ok (.aload_n 0, 1) := by decide +kernel
theorem dX5_rule_31 : decode cX5_rule 31 = .ok (.getfield 32, 3) := by decide +kernel
theorem dX5_rule_34 : decode cX5_rule 34 = .ok (.iconst 1, 1) := by decide +kernel
theorem dX5_rule_35 : decode cX5_rule 35 = .ok (.isub, 1) := by decide +kernel
theorem dX5_rule_36 : decode cX5_rule 36 = .ok (.ireturn, 1) := by decide +kernel
set_option maxRecDepth 20000 in
theorem ggX5_set_X5_isRule : GoodIn wsX5_set wsX5_isRule := goodIn_r _ [6, 7, 8, 9, 5, 10, 11, 12, 13, 14, 15, 16, 17, 18, 19, 20, 21, 22, 23, 24, 25, 26, 27] (by decide +kernel) (by decide +kernel)
set_option maxRecDepth 20000 in
theorem gX5_set_X5_isRule : GoodIn wsX5_set (wsV RX5 102 RX5 yX5_isRule wsX5_isRule) := goodIn_app (goodIn_of _ (by decide +kernel)) ggX5_set_X5_isRule
set_option maxRecDepth 20000 in
theorem ggX5_set_X5_isIn : GoodIn wsX5_set wsX5_isIn := goodIn_r _ [10] (by decide +kernel) (by decide +kernel)
set_option maxRecDepth 20000 in
theorem gX5_set_X5_isIn : GoodIn wsX5_set (va_wsS RX5 35 yX5_isIn wsX5_isIn) := goodIn_app (goodIn_of _ (by decide +kernel)) ggX5_set_X5_isIn
theorem dX5_set_0 : decode cX5_set 0 = .ok (.aload_n 0, 1) := by decide +kernel
theorem dX5_set_1 : decode cX5_set 1 = .ok (.aload_n 0, 1) := by decide +kernel
theorem dX5_set_2 : decode cX5_set 2 = .ok (.iload_n 3, 1) := by decide +kernel
theorem dX5_set_3 : decode cX5_set 3 = .ok (.invokevirtual 102, 3) := by decide +kernel
theorem dX5_set_6 : decode cX5_set 6 = .ok (.ifCond .eq 14, 3) := by decide +kernel
theorem dX5_set_9 : decode cX5_set 9 = .ok (.iload 4, 2) := by decide +kernel
theorem dX5_set_11 : decode cX5_set 11 = .ok (.iconst 0, 1) := by decide +kernel
theorem dX5_set_12 : decode cX5_set 12 = .ok (.bipush 15, 2) := by decide +kernel
theorem dX5_set_14 : decode cX5_set 14 = .ok (.invokestatic 35, 3) := by decide +kernel
theorem dX5_set_17 : decode cX5_set 17 = .ok (.ifCond .ne 7, 3) := by decide +kernel
theorem dX5_set_20 : decode cX5_set 20 = .ok (.iconst 1, 1) := by decide +kernel
theorem dX5_set_21 : decode cX5_set 21 = .ok (.goto 25, 3) := by decide +kernel
theorem dX5_set_24 : decode cX5_set 24 = .ok (.iload 5, 2) := by decide +kernel
theorem dX5_set_26 : decode cX5_set 26 = .ok (.ifCond .eq 19, 3) := by decide +kernel
theorem dX5_set_29 : decode cX5_set 29 = .ok (.aload_n 2, 1) := by decide +kernel
theorem dX5_set_30 : decode cX5_set 30 = .ok (.iload_n 3, 1) := by decide +kernel
theorem dX5_set_31 : decode cX5_set 31 = .ok (.iaload, 1) := by decide +kernel
theorem dX5_set_32 : decode cX5_set 32 = .ok (.iload 4, 2) := by decide +kernel
theorem dX5_set_34 : decode cX5_set 34 = .ok (.ishr, 1) := by decide +kernel
theorem dX5_set_35 : decode cX5_set 35 = .ok (.iconst 1, 1) := by decide +kernel
theorem dX5_set_36 : decode cX5_set 36 = .ok (.iand, 1) := by decide +kernel
theorem dX5_set_37 : decode cX5_set 37 = .ok (.iconst 1, 1) := by decide +kernel
theorem dX5_set_38 : decode cX5_set 38 = .ok (.if_icmp .ne 7, 3) := by decide +kernel
theorem dX5_set_41 : decode cX5_set 41 = .ok (.iconst 2, 1) := by decide +kernel
theorem dX5_set_42 : decode cX5_set 42 = .ok (.goto 4, 3) := by decide +kernel
theorem dX5_set_45 : decode cX5_set 45 = .ok (.iconst 0, 1) := by decide +kernel
theorem dX5_set_46 : decode cX5_set 46 = .ok (.putfield 28, 3) := by decide +kernel
theorem dX5_set_49 : decode cX5_set 49 = .ok (.aload_n 0, 1) := by decide +kernel
theorem dX5_set_50 : decode cX5_set 50 = .ok (.getfield 28, 3) := by decide +kernel
theorem dX5_set_53 : decode cX5_set 53 = .ok (.ifCond .eq 5, 3) := by decide +kernel
theorem dX5_set_56 : decode cX5_set 56 = .ok (.iconst 0, 1) := by decide +kernel
theorem dX5_set_57 : decode cX5_set 57 = .ok (.ireturn, 1) := by decide +kernel
theorem dX5_set_58 : decode cX5_set 58 = .ok (.aload_n 1, 1) := by decide +kernel
theorem dX5_set_59 : decode cX5_set 59 = .ok (.iload_n 3, 1) := by decide +kernel
theorem dX5_set_60 : decode cX5_set 60 = .ok (.iaload, 1) := by decide +kernel
theorem dX5_set_61 : decode cX5_set 61 = .ok (.iload 4, 2) := by decide +kernel
theorem dX5_set_63 : decode cX5_set 63 = .ok (.ishr, 1) := by decide +kernel
theorem dX5_set_64 : decode cX5_set 64 = .ok (.iconst 1, 1) := by decide +kernel
theorem dX5_set_65 : decode cX5_set 65 = .ok (.iand, 1) := by decide +kernel
theorem dX5_set_66 : decode cX5_set 66 = .ok (.iconst 1, 1) := by decide +kernel
theorem dX5_set_67 : decode cX5_set 67 = .ok (.if_icmp .ne 7, 3) := by decide +kernel
theorem dX5_set_70 : decode cX5_set 70 = .ok (.iconst 1, 1) := by decide +kernel
theorem dX5_set_71 : decode cX5_set 71 = .ok (.goto 4, 3) := by decide +kernel
theorem dX5_set_74 : decode cX5_set 74 = .ok (.iconst 0, 1) := by decide +kernel
theorem dX5_set_75 : decode cX5_set 75 = .ok (.istore 6, 2) := by decide +kernel
theorem dX5_set_77 : decode cX5_set 77 = .ok (.iload 6, 2) := by decide +kernel
theorem dX5_set_79 : decode cX5_set 79 = .ok (.iload 5, 2) := by decide +kernel
theorem dX5_set_81 : decode cX5_set 81 = .ok (.if_icmp .eq 13, 3) := by decide +kernel
theorem dX5_set_84 : decode cX5_set 84 = .ok (.aload_n 1, 1) := by decide +kernel
theorem dX5_set_85 : decode cX5_set 85 = .ok (.iload_n 3, 1) := by decide +kernel
theorem dX5_set_86 : decode cX5_set 86 = .ok (.dup2, 1) := by decide +kernel
theorem dX5_set_87 : decode cX5_set 87 = .ok (.iaload, 1) := by decide +kernel
theorem dX5_set_88 : decode cX5_set 88 = .ok (.iconst 1, 1) := by decide +kernel
theorem dX5_set_89 : decode cX5_set 89 = .ok (.iload 4, 2) := by decide +kernel
theorem dX5_set_91 : decode cX5_set 91 = .ok (.ishl, 1) := by decide +kernel
theorem dX5_set_92 : decode cX5_set 92 = .ok (.ixor, 1) := by decide +kernel
theorem dX5_set_93 : decode cX5_set 93 = .ok (.iastore, 1) := by decide +kernel
theorem dX5_set_94 : decode cX5_set 94 = .ok (.iload 6, 2) := by decide +kernel
theorem dX5_set_96 : decode cX5_set 96 = .ok (.ireturn, 1) := by decide +kernel
set_option maxRecDepth 20000 in
theorem ggX5_setNeeds_X5_set : GoodIn wsX5_setNeeds wsX5_set := goodIn_r _ [7, 8, 9, 10, 11, 6, 12, 13, 14, 15, 16, 17, 18, 19, 20, 21, 22, 23, 24, 25, 26, 27, 28, 29, 30, 31, 32, 33] (by decide +kernel) (by decide +kernel)
set_option maxRecDepth 20000 in
theorem gX5_setNeeds_X5_set : GoodIn wsX5_setNeeds (wsV RX5 105 RX5 yX5_set wsX5_set) := goodIn_app (goodIn_of _ (by decide +kernel)) ggX5_setNeeds_X5_set
theorem dX5_setNeeds_0 : decode cX5_setNeeds 0 = .ok (.aload_n 0, 1) := by decide +kernel
theorem dX5_setNeeds_1 : decode cX5_setNeeds 1 = .ok (.aload_n 0, 1) := by decide +kernel
theorem dX5_setNeeds_2 : decode cX5_setNeeds 2 = .ok (.getfield 13, 3) := by decide +kernel
theorem dX5_setNeeds_5 : decode cX5_setNeeds 5 = .ok (.aload_n 0, 1) := by decide +kernel
theorem dX5_setNeeds_6 : decode cX5_setNeeds 6 = .ok (.getfield 16, 3) := by decide +kernel
theorem dX5_setNeeds_9 : decode cX5_setNeeds 9 = .ok (.iload_n 1, 1) := by decide +kernel
theorem dX5_setNeeds_10 : decode cX5_setNeeds 10 = .ok (.iload_n 2, 1) := by decide +kernel
theorem dX5_setNeeds_11 : decode cX5_setNeeds 11 = .ok (.iload_n 3, 1) := by decide +kernel
theorem dX5_setNeeds_12 : decode cX5_setNeeds 12 = .ok (.invokevirtual 105, 3) := by decide +kernel
theorem dX5_setNeeds_15 : decode cX5_setNeeds 15 = .ok (.ireturn, 1) := by decide +kernel
set_option maxRecDepth 20000 in
theorem ggX5_setSpares_X5_set : GoodIn wsX5_setSpares wsX5_set := goodIn_r _ [7, 8, 9, 10, 11, 6, 12, 13, 14, 15, 16, 17, 18, 19, 20, 21, 22, 23, 24, 25, 26, 27, 28, 29, 30, 31, 32, 33] (by decide +kernel) (by decide +kernel)
set_option maxRecDepth 20000 in
theorem gX5_setSpares_X5_set : GoodIn wsX5_setSpares (wsV RX5 105 RX5 yX5_set wsX5_set) := goodIn_app (goodIn_of _ (by decide +kernel)) ggX5_setSpares_X5_set
theorem dX5_setSpares_0 : decode cX5_setSpares 0 = .ok (.aload_n 0, 1) := by decide +kernel
theorem dX5_setSpares_1 : decode cX5_setSpares 1 = .ok (.aload_n 0, 1) := by decide +kernel
theorem dX5_setSpares_2 : decode cX5_setSpares 2 = .ok (.getfield 16, 3) := by decide +kernel
theorem dX5_setSpares_5 : decode cX5_setSpares 5 = .ok (.aload_n 0, 1) := by decide +kernel
theorem dX5_setSpares_6 : decode cX5_setSpares 6 = .ok (.getfield 13, 3) := by decide +kernel
theorem dX5_setSpares_9 : decode cX5_setSpares 9 = .ok (.iload_n 1, 1) := by decide +kernel
theorem dX5_setSpares_10 : decode cX5_setSpares 10 = .ok (.iload_n 2, 1) := by decide +kernel
theorem dX5_setSpares_11 : decode cX5_setSpares 11 = .ok (.iload_n 3, 1) := by decide +kernel
theorem dX5_setSpares_12 : decode cX5_setSpares 12 = .ok (.invokevirtual 105, 3) := by decide +kernel
theorem dX5_setSpares_15 : decode cX5_setSpares 15 = .ok (.ireturn, 1) := by decide +kernel
set_option maxRecDepth 20000 in
theorem ggX5_ruleTold_J6_bitCount_0f7a4 : GoodIn wsX5_ruleTold wsJ6_bitCount_0f7a4 := goodIn_r _ [8, 9, 10, 11] (by decide +kernel) (by decide +kernel)
set_option maxRecDepth 20000 in
theorem gX5_ruleTold_J6_bitCount_0f7a4 : GoodIn wsX5_ruleTold (va_wsS RX5 60 yJ6_bitCount_0f7a4 wsJ6_bitCount_0f7a4) := goodIn_app (goodIn_of _ (by decide +kernel)) ggX5_ruleTold_J6_bitCount_0f7a4
set_option maxRecDepth 20000 in
theorem ggX5_ruleTold_X5_whole : GoodIn wsX5_ruleTold wsX5_whole := goodIn_r _ [16, 17, 27, 28, 29, 30, 31, 32, 33, 34, 35, 36, 37, 38, 39, 40, 41, 42, 43] (by decide +kernel) (by decide +kernel)
set_option maxRecDepth 20000 in
theorem gX5_ruleTold_X5_whole : GoodIn wsX5_ruleTold (wsV RX5 75 RX5 yX5_whole wsX5_whole) := goodIn_app (goodIn_of _ (by decide +kernel)) ggX5_ruleTold_X5_whole
set_option maxRecDepth 20000 in
theorem ggX5_ruleTold_X5_kindsOf : GoodIn wsX5_ruleTold wsX5_kindsOf := goodIn_r _ [21, 17, 22, 27, 28, 29, 30, 31, 32, 33, 34, 35, 36, 37, 38, 39, 40, 41, 42, 43] (by decide +kernel) (by decide +kernel)
set_option maxRecDepth 20000 in
theorem gX5_ruleTold_X5_kindsOf : GoodIn wsX5_ruleTold (wsV RX5 42 RX5 yX5_kindsOf wsX5_kindsOf) := goodIn_app (goodIn_of _ (by decide +kernel)) ggX5_ruleTold_X5_kindsOf
set_option maxRecDepth 20000 in
theorem ggX5_ruleTold_X5_holds : GoodIn wsX5_ruleTold wsX5_holds := goodIn_r _ [26, 1, 2, 27, 28, 29, 30, 31, 32, 33, 34, 35, 36, 37, 38, 39, 40, 41, 42, 43] (by decide +kernel) (by decide +kernel)
set_option maxRecDepth 20000 in
theorem gX5_ruleTold_X5_holds : GoodIn wsX5_ruleTold (wsV RX5 46 RX5 yX5_holds wsX5_holds) := goodIn_app (goodIn_of _ (by decide +kernel)) ggX5_ruleTold_X5_holds
theorem dX5_ruleTold_0 : decode cX5_ruleTold 0 = .ok (.iload_n 2, 1) := by decide +kernel
theorem dX5_ruleTold_1 : decode cX5_ruleTold 1 = .ok (.tableswitch 77 0 3 #[31, 38, 45, 55], 31) := by decide +kernel
theorem dX5_ruleTold_32 : decode cX5_ruleTold 32 = .ok (.aload_n 0, 1) := by decide +kernel
theorem dX5_ruleTold_33 : decode cX5_ruleTold 33 = .ok (.getfield 13, 3) := by decide +kernel
theorem dX5_ruleTold_36 : decode cX5_ruleTold 36 = .ok (.iload_n 1, 1) := by decide +kernel
theorem dX5_ruleTold_37 : decode cX5_ruleTold 37 = .ok (.iaload, 1) := by decide +kernel
theorem dX5_ruleTold_38 : decode cX5_ruleTold 38 = .ok (.ireturn, 1) := by decide +kernel
theorem dX5_ruleTold_39 : decode cX5_ruleTold 39 = .ok (.aload_n 0, 1) := by decide +kernel
theorem dX5_ruleTold_40 : decode cX5_ruleTold 40 = .ok (.getfield 16, 3) := by decide +kernel
theorem dX5_ruleTold_43 : decode cX5_ruleTold 43 = .ok (.iload_n 1, 1) := by decide +kernel
theorem dX5_ruleTold_44 : decode cX5_ruleTold 44 = .ok (.iaload, 1) := by decide +kernel
theorem dX5_ruleTold_45 : decode cX5_ruleTold 45 = .ok (.ireturn, 1) := by decide +kernel
theorem dX5_ruleTold_46 : decode cX5_ruleTold 46 = .ok (.aload_n 0, 1) := by decide +kernel
theorem dX5_ruleTold_47 : decode cX5_ruleTold 47 = .ok (.getfield 13, 3) := by decide +kernel
theorem dX5_ruleTold_50 : decode cX5_ruleTold 50 = .ok (.iload_n 1, 1) := by decide +kernel
theorem dX5_ruleTold_51 : decode cX5_ruleTold 51 = .ok (.iaload, 1) := by decide +kernel
theorem dX5_ruleTold_52 : decode cX5_ruleTold 52 = .ok (.invokestatic 60, 3) := by decide +kernel
theorem dX5_ruleTold_55 : decode cX5_ruleTold 55 = .ok (.ireturn, 1) := by decide +kernel
theorem dX5_ruleTold_56 : decode cX5_ruleTold 56 = .ok (.aload_n 0, 1) := by decide +kernel
theorem dX5_ruleTold_57 : decode cX5_ruleTold 57 = .ok (.iload_n 1, 1) := by decide +kernel
theorem dX5_ruleTold_58 : decode cX5_ruleTold 58 = .ok (.aload_n 0, 1) := by decide +kernel
theorem dX5_ruleTold_59 : decode cX5_ruleTold 59 = .ok (.aload_n 0, 1) := by decide +kernel
theorem dX5_ruleTold_60 : decode cX5_ruleTold 60 = .ok (.invokevirtual 75, 3) := by decide +kernel
theorem dX5_ruleTold_63 : decode cX5_ruleTold 63 = .ok (.invokevirtual 42, 3) := by decide +kernel
theorem dX5_ruleTold_66 : decode cX5_ruleTold 66 = .ok (.invokevirtual 46, 3) := by decide +kernel
theorem dX5_ruleTold_69 : decode cX5_ruleTold 69 = .ok (.ifCond .eq 7, 3) := by decide +kernel
theorem dX5_ruleTold_72 : decode cX5_ruleTold 72 = .ok (.iconst 1, 1) := by decide +kernel
theorem dX5_ruleTold_73 : decode cX5_ruleTold 73 = .ok (.goto 4, 3) := by decide +kernel
theorem dX5_ruleTold_76 : decode cX5_ruleTold 76 = .ok (.iconst 0, 1) := by decide +kernel
theorem dX5_ruleTold_77 : decode cX5_ruleTold 77 = .ok (.ireturn, 1) := by decide +kernel
theorem dX5_ruleTold_78 : decode cX5_ruleTold 78 = .ok (.aload_n 0, 1) := by decide +kernel
theorem dX5_ruleTold_79 : decode cX5_ruleTold 79 = .ok (.getfield 109, 3) := by decide +kernel
theorem dX5_ruleTold_82 : decode cX5_ruleTold 82 = .ok (.ifCond .eq 19, 3) := by decide +kernel
theorem dX5_ruleTold_85 : decode cX5_ruleTold 85 = .ok (.aload_n 0, 1) := by decide +kernel
theorem dX5_ruleTold_86 : decode cX5_ruleTold 86 = .ok (.iload_n 1, 1) := by decide +kernel
theorem dX5_ruleTold_87 : decode cX5_ruleTold 87 = .ok (.aload_n 0, 1) := by decide +kernel
theorem dX5_ruleTold_88 : decode cX5_ruleTold 88 = .ok (.getfield 113, 3) := by decide +kernel
theorem dX5_ruleTold_91 : decode cX5_ruleTold 91 = .ok (.invokevirtual 46, 3) := by decide +kernel
theorem dX5_ruleTold_94 : decode cX5_ruleTold 94 = .ok (.ifCond .eq 7, 3) := by decide +kernel
theorem dX5_ruleTold_97 : decode cX5_ruleTold 97 = .ok (.iconst 1, 1) := by decide +kernel
theorem dX5_ruleTold_98 : decode cX5_ruleTold 98 = .ok (.goto 4, 3) := by decide +kernel
theorem dX5_ruleTold_101 : decode cX5_ruleTold 101 = .ok (.iconst 0, 1) := by decide +kernel
theorem dX5_ruleTold_102 : decode cX5_ruleTold 102 = .ok (.ireturn, 1) := by decide +kernel
set_option maxRecDepth 20000 in
theorem ggX5_told_X5_isRule : GoodIn wsX5_told wsX5_isRule := goodIn_r _ [6, 7, 8, 9, 5, 10, 44, 45, 46, 47, 48, 49, 50, 51, 52, 53, 54, 55, 56, 57, 58, 59, 60] (by decide +kernel) (by decide +kernel)
set_option maxRecDepth 20000 in
theorem gX5_told_X5_isRule : GoodIn wsX5_told (wsV RX5 102 RX5 yX5_isRule wsX5_isRule) := goodIn_app (goodIn_of _ (by decide +kernel)) ggX5_told_X5_isRule
set_option maxRecDepth 20000 in
theorem ggX5_told_X5_isIn : GoodIn wsX5_told wsX5_isIn := goodIn_r _ [10] (by decide +kernel) (by decide +kernel)
set_option maxRecDepth 20000 in
theorem gX5_told_X5_isIn : GoodIn wsX5_told (va_wsS RX5 35 yX5_isIn wsX5_isIn) := goodIn_app (goodIn_of _ (by decide +kernel)) ggX5_told_X5_isIn
set_option maxRecDepth 20000 in
theorem ggX5_told_X5_ruleTold : GoodIn wsX5_told wsX5_ruleTold := goodIn_r _ [14, 15, 16, 17, 18, 19, 20, 21, 22, 23, 24, 25, 26, 27, 28, 5, 29, 30, 31, 32, 33, 34, 35, 36, 37, 38, 39, 44, 45, 46, 47, 48, 49, 50, 51, 52, 53, 54, 55, 56, 57, 58, 59, 60] (by decide +kernel) (by decide +kernel)
set_option maxRecDepth 20000 in
theorem gX5_told_X5_ruleTold : GoodIn wsX5_told (wsV RX5 116 RX5 yX5_ruleTold wsX5_ruleTold) := goodIn_app (goodIn_of _ (by decide +kernel)) ggX5_told_X5_ruleTold
set_option maxRecDepth 20000 in
theorem ggX5_told_X5_no : GoodIn wsX5_told wsX5_no := goodIn_r _ [43, 1, 44, 45, 46, 47, 48, 49, 50, 51, 52, 53, 54, 55, 56, 57, 58, 59, 60] (by decide +kernel) (by decide +kernel)
set_option maxRecDepth 20000 in
theorem gX5_told_X5_no : GoodIn wsX5_told (wsV RX5 93 RX5 yX5_no wsX5_no) := goodIn_app (goodIn_of _ (by decide +kernel)) ggX5_told_X5_no
theorem dX5_told_0 : decode cX5_told 0 = .ok (.aload_n 0, 1) := by decide +kernel
theorem dX5_told_1 : decode cX5_told 1 = .ok (.iconst 0, 1) := by decide +kernel
theorem dX5_told_2 : decode cX5_told 2 = .ok (.putfield 28, 3) := by decide +kernel
theorem dX5_told_5 : decode cX5_told 5 = .ok (.aload_n 0, 1) := by decide +kernel
theorem dX5_told_6 : decode cX5_told 6 = .ok (.iload_n 1, 1) := by decide +kernel
theorem dX5_told_7 : decode cX5_told 7 = .ok (.invokevirtual 102, 3) := by decide +kernel
theorem dX5_told_10 : decode cX5_told 10 = .ok (.ifCond .eq 21, 3) := by decide +kernel
theorem dX5_told_13 : decode cX5_told 13 = .ok (.iload_n 2, 1) := by decide +kernel
theorem dX5_told_14 : decode cX5_told 14 = .ok (.iconst 0, 1) := by decide +kernel
theorem dX5_told_15 : decode cX5_told 15 = .ok (.iconst 4, 1) := by decide +kernel
theorem dX5_told_16 : decode cX5_told 16 = .ok (.invokestatic 35, 3) := by decide +kernel
theorem dX5_told_19 : decode cX5_told 19 = .ok (.ifCond .eq 12, 3) := by decide +kernel
theorem dX5_told_22 : decode cX5_told 22 = .ok (.aload_n 0, 1) := by decide +kernel
theorem dX5_told_23 : decode cX5_told 23 = .ok (.iload_n 1, 1) := by decide +kernel
theorem dX5_told_24 : decode cX5_told 24 = .ok (.iload_n 2, 1) := by decide +kernel
theorem dX5_told_25 : decode cX5_told 25 = .ok (.invokevirtual 116, 3) := by decide +kernel
theorem dX5_told_28 : decode cX5_told 28 = .ok (.goto 8, 3) := by decide +kernel
theorem dX5_told_31 : decode cX5_told 31 = .ok (.aload_n 0, 1) := by decide +kernel
theorem dX5_told_32 : decode cX5_told 32 = .ok (.iconst 1, 1) := by decide +kernel
theorem dX5_told_33 : decode cX5_told 33 = .ok (.invokevirtual 93, 3) := by decide +kernel
theorem dX5_told_36 : decode cX5_told 36 = .ok (.ireturn, 1) := by decide +kernel
set_option maxRecDepth 20000 in
theorem ggX5_spoils_X5_whole : GoodIn wsX5_spoils wsX5_whole := goodIn_r _ [6, 7, 27, 28, 29, 30, 31, 32, 33, 34, 35, 36, 37, 38, 39, 40, 41, 42, 43] (by decide +kernel) (by decide +kernel)
set_option maxRecDepth 20000 in
theorem gX5_spoils_X5_whole : GoodIn wsX5_spoils (wsV RX5 75 RX5 yX5_whole wsX5_whole) := goodIn_app (goodIn_of _ (by decide +kernel)) ggX5_spoils_X5_whole
set_option maxRecDepth 20000 in
theorem ggX5_spoils_X5_isIn : GoodIn wsX5_spoils wsX5_isIn := goodIn_r _ [10] (by decide +kernel) (by decide +kernel)
set_option maxRecDepth 20000 in
theorem gX5_spoils_X5_isIn : GoodIn wsX5_spoils (va_wsS RX5 35 yX5_isIn wsX5_isIn) := goodIn_app (goodIn_of _ (by decide +kernel)) ggX5_spoils_X5_isIn
set_option maxRecDepth 20000 in
theorem ggX5_spoils_X5_isSpoilt : GoodIn wsX5_spoils wsX5_isSpoilt := goodIn_r _ [14, 15, 16, 17, 18, 5, 19, 7, 20, 21, 22, 23, 24, 25, 26, 27, 28, 29, 30, 31, 32, 33, 34, 35, 36, 37, 38, 39, 40, 41, 42, 43] (by decide +kernel) (by decide +kernel)
set_option maxRecDepth 20000 in
theorem gX5_spoils_X5_isSpoilt : GoodIn wsX5_spoils (wsV RX5 53 RX5 yX5_isSpoilt wsX5_isSpoilt) := goodIn_app (goodIn_of _ (by decide +kernel)) ggX5_spoils_X5_isSpoilt
theorem dX5_spoils_0 : decode cX5_spoils 0 = .ok (.aload_n 0, 1) := by decide +kernel
theorem dX5_spoils_1 : decode cX5_spoils 1 = .ok (.iload_n 1, 1) := by decide +kernel
theorem dX5_spoils_2 : decode cX5_spoils 2 = .ok (.iconst 0, 1) := by decide +kernel
theorem dX5_spoils_3 : decode cX5_spoils 3 = .ok (.aload_n 0, 1) := by decide +kernel
theorem dX5_spoils_4 : decode cX5_spoils 4 = .ok (.invokevirtual 75, 3) := by decide +kernel
theorem dX5_spoils_7 : decode cX5_spoils 7 = .ok (.invokestatic 35, 3) := by decide +kernel
theorem dX5_spoils_10 : decode cX5_spoils 10 = .ok (.ifCond .eq 7, 3) := by decide +kernel
theorem dX5_spoils_13 : decode cX5_spoils 13 = .ok (.iconst 0, 1) := by decide +kernel
theorem dX5_spoils_14 : decode cX5_spoils 14 = .ok (.goto 4, 3) := by decide +kernel
theorem dX5_spoils_17 : decode cX5_spoils 17 = .ok (.iconst 1, 1) := by decide +kernel
theorem dX5_spoils_18 : decode cX5_spoils 18 = .ok (.putfield 28, 3) := by decide +kernel
theorem dX5_spoils_21 : decode cX5_spoils 21 = .ok (.aload_n 0, 1) := by decide +kernel
theorem dX5_spoils_22 : decode cX5_spoils 22 = .ok (.getfield 28, 3) := by decide +kernel
theorem dX5_spoils_25 : decode cX5_spoils 25 = .ok (.ifCond .ne 15, 3) := by decide +kernel
theorem dX5_spoils_28 : decode cX5_spoils 28 = .ok (.aload_n 0, 1) := by decide +kernel
theorem dX5_spoils_29 : decode cX5_spoils 29 = .ok (.iload_n 1, 1) := by decide +kernel
theorem dX5_spoils_30 : decode cX5_spoils 30 = .ok (.invokevirtual 53, 3) := by decide +kernel
theorem dX5_spoils_33 : decode cX5_spoils 33 = .ok (.ifCond .eq 7, 3) := by decide +kernel
theorem dX5_spoils_36 : decode cX5_spoils 36 = .ok (.iconst 1, 1) := by decide +kernel
theorem dX5_spoils_37 : decode cX5_spoils 37 = .ok (.goto 4, 3) := by decide +kernel
theorem dX5_spoils_40 : decode cX5_spoils 40 = .ok (.iconst 0, 1) := by decide +kernel
theorem dX5_spoils_41 : decode cX5_spoils 41 = .ok (.ireturn, 1) := by decide +kernel
set_option maxRecDepth 20000 in
theorem ggX5_shrink_X5_halve : GoodIn wsX5_shrink wsX5_halve := goodIn_r _ [20, 5, 7, 21, 22, 23, 24, 25, 26, 27, 19, 28, 29, 30, 31, 32, 33, 34, 35, 36, 37, 38, 39, 40, 41, 42, 43, 44, 45, 46, 47, 48, 49, 50, 51, 52, 53, 54, 55, 56, 57, 58, 59, 60, 61, 62, 63, 64, 65, 66, 67, 68, 69, 70, 71, 9, 72, 73, 74, 75, 76, 77, 78, 79, 80, 81, 82, 83, 84, 85, 86, 87, 88] (by decide +kernel) (by decide +kernel)
set_option maxRecDepth 20000 in
theorem gX5_shrink_X5_halve : GoodIn wsX5_shrink (wsV RX5 119 RX5 yX5_halve wsX5_halve) := goodIn_app (goodIn_of _ (by decide +kernel)) ggX5_shrink_X5_halve
set_option maxRecDepth 20000 in
theorem ggX5_shrink_X5_kindsOf : GoodIn wsX5_shrink wsX5_kindsOf := goodIn_r _ [43, 29, 44, 72, 73, 74, 75, 76, 77, 78, 79, 80, 81, 82, 83, 84, 85, 86, 87, 88] (by decide +kernel) (by decide +kernel)
set_option maxRecDepth 20000 in
theorem gX5_shrink_X5_kindsOf : GoodIn wsX5_shrink (wsV RX5 42 RX5 yX5_kindsOf wsX5_kindsOf) := goodIn_app (goodIn_of _ (by decide +kernel)) ggX5_shrink_X5_kindsOf
theorem dX5_shrink_0 : decode cX5_shrink 0 = .ok (.aload_n 0, 1) := by decide +kernel
theorem dX5_shrink_1 : decode cX5_shrink 1 = .ok (.iconst 0, 1) := by decide +kernel
theorem dX5_shrink_2 : decode cX5_shrink 2 = .ok (.putfield 28, 3) := by decide +kernel
theorem dX5_shrink_5 : decode cX5_shrink 5 = .ok (.aload_n 0, 1) := by decide +kernel
theorem dX5_shrink_6 : decode cX5_shrink 6 = .ok (.aload_n 0, 1) := by decide +kernel
theorem dX5_shrink_7 : decode cX5_shrink 7 = .ok (.invokevirtual 119, 3) := by decide +kernel
theorem dX5_shrink_10 : decode cX5_shrink 10 = .ok (.putfield 122, 3) := by decide +kernel
theorem dX5_shrink_13 : decode cX5_shrink 13 = .ok (.aload_n 0, 1) := by decide +kernel
theorem dX5_shrink_14 : decode cX5_shrink 14 = .ok (.iconst 1, 1) := by decide +kernel
theorem dX5_shrink_15 : decode cX5_shrink 15 = .ok (.putfield 109, 3) := by decide +kernel
theorem dX5_shrink_18 : decode cX5_shrink 18 = .ok (.aload_n 0, 1) := by decide +kernel
theorem dX5_shrink_19 : decode cX5_shrink 19 = .ok (.aload_n 0, 1) := by decide +kernel
theorem dX5_shrink_20 : decode cX5_shrink 20 = .ok (.aload_n 0, 1) := by decide +kernel
theorem dX5_shrink_21 : decode cX5_shrink 21 = .ok (.getfield 122, 3) := by decide +kernel
theorem dX5_shrink_24 : decode cX5_shrink 24 = .ok (.invokevirtual 42, 3) := by decide +kernel
theorem dX5_shrink_27 : decode cX5_shrink 27 = .ok (.putfield 113, 3) := by decide +kernel
theorem dX5_shrink_30 : decode cX5_shrink 30 = .ok (.aload_n 0, 1) := by decide +kernel
theorem dX5_shrink_31 : decode cX5_shrink 31 = .ok (.aload_n 0, 1) := by decide +kernel
theorem dX5_shrink_32 : decode cX5_shrink 32 = .ok (.getfield 50, 3) := by decide +kernel
theorem dX5_shrink_35 : decode cX5_shrink 35 = .ok (.putfield 125, 3) := by decide +kernel
theorem dX5_shrink_38 : decode cX5_shrink 38 = .ok (.aload_n 0, 1) := by decide +kernel
theorem dX5_shrink_39 : decode cX5_shrink 39 = .ok (.aload_n 0, 1) := by decide +kernel
theorem dX5_shrink_40 : decode cX5_shrink 40 = .ok (.getfield 57, 3) := by decide +kernel
theorem dX5_shrink_43 : decode cX5_shrink 43 = .ok (.putfield 128, 3) := by decide +kernel
theorem dX5_shrink_46 : decode cX5_shrink 46 = .ok (.aload_n 0, 1) := by decide +kernel
theorem dX5_shrink_47 : decode cX5_shrink 47 = .ok (.getfield 22, 3) := by decide +kernel
theorem dX5_shrink_50 : decode cX5_shrink 50 = .ok (.iconst 0, 1) := by decide +kernel
theorem dX5_shrink_51 : decode cX5_shrink 51 = .ok (.aload_n 0, 1) := by decide +kernel
theorem dX5_shrink_52 : decode cX5_shrink 52 = .ok (.getfield 25, 3) := by decide +kernel
theorem dX5_shrink_55 : decode cX5_shrink 55 = .ok (.iconst 0, 1) := by decide +kernel
theorem dX5_shrink_56 : decode cX5_shrink 56 = .ok (.iconst 5, 1) := by decide +kernel
theorem dX5_shrink_57 : decode cX5_shrink 57 = .ok (.aload_n 0, 1) := by decide +kernel
theorem dX5_shrink_58 : decode cX5_shrink 58 = .ok (.getfield 57, 3) := by decide +kernel
theorem dX5_shrink_61 : decode cX5_shrink 61 = .ok (.imul, 1) := by decide +kernel
theorem dX5_shrink_62 : decode cX5_shrink 62 = .ok (.invokestatic 131, 3) := by decide +kernel
theorem dX5_shrink_65 : decode cX5_shrink 65 = .ok (.aload_n 0, 1) := by decide +kernel
theorem dX5_shrink_66 : decode cX5_shrink 66 = .ok (.dup, 1) := by decide +kernel
theorem dX5_shrink_67 : decode cX5_shrink 67 = .ok (.getfield 137, 3) := by decide +kernel
theorem dX5_shrink_70 : decode cX5_shrink 70 = .ok (.aload_n 0, 1) := by decide +kernel
theorem dX5_shrink_71 : decode cX5_shrink 71 = .ok (.getfield 50, 3) := by decide +kernel
theorem dX5_shrink_74 : decode cX5_shrink 74 = .ok (.iadd, 1) := by decide +kernel
theorem dX5_shrink_75 : decode cX5_shrink 75 = .ok (.putfield 137, 3) := by decide +kernel
theorem dX5_shrink_78 : decode cX5_shrink 78 = .ok (.aload_n 0, 1) := by decide +kernel
theorem dX5_shrink_79 : decode cX5_shrink 79 = .ok (.getfield 50, 3) := by decide +kernel
theorem dX5_shrink_82 : decode cX5_shrink 82 = .ok (.ireturn, 1) := by decide +kernel
set_option maxRecDepth 20000 in
theorem ggX5_keptSize_J6_bitCount_0f7a4 : GoodIn wsX5_keptSize wsJ6_bitCount_0f7a4 := goodIn_r _ [5, 6, 7, 8] (by decide +kernel) (by decide +kernel)
set_option maxRecDepth 20000 in
theorem gX5_keptSize_J6_bitCount_0f7a4 : GoodIn wsX5_keptSize (va_wsS RX5 60 yJ6_bitCount_0f7a4 wsJ6_bitCount_0f7a4) := goodIn_app (goodIn_of _ (by decide +kernel)) ggX5_keptSize_J6_bitCount_0f7a4
theorem dX5_keptSize_0 : decode cX5_keptSize 0 = .ok (.aload_n 0, 1) := by decide +kernel
theorem dX5_keptSize_1 : decode cX5_keptSize 1 = .ok (.getfield 122, 3) := by decide +kernel
theorem dX5_keptSize_4 : decode cX5_keptSize 4 = .ok (.invokestatic 60, 3) := by decide +kernel
theorem dX5_keptSize_7 : decode cX5_keptSize 7 = .ok (.ireturn, 1) := by decide +kernel
set_option maxRecDepth 20000 in
theorem ggX5_keptPlace_X5_part : GoodIn wsX5_keptPlace wsX5_part := goodIn_r _ [5] (by decide +kernel) (by decide +kernel)
set_option maxRecDepth 20000 in
theorem gX5_keptPlace_X5_part : GoodIn wsX5_keptPlace (va_wsS RX5 65 yX5_part wsX5_part) := goodIn_app (goodIn_of _ (by decide +kernel)) ggX5_keptPlace_X5_part
set_option maxRecDepth 20000 in
theorem ggX5_keptPlace_J6_numberOfTrailingZeros_0f7a4 : GoodIn wsX5_keptPlace wsJ6_numberOfTrailingZeros_0f7a4 := goodIn_r _ [9, 10] (by decide +kernel) (by decide +kernel)
set_option maxRecDepth 20000 in
theorem gX5_keptPlace_J6_numberOfTrailingZeros_0f7a4 : GoodIn wsX5_keptPlace (va_wsS RX5 140 yJ6_numberOfTrailingZeros_0f7a4 wsJ6_numberOfTrailingZeros_0f7a4) := goodIn_app (goodIn_of _ (by decide +kernel)) ggX5_keptPlace_J6_numberOfTrailingZeros_0f7a4
theorem dX5_keptPlace_0 : decode cX5_keptPlace 0 = .ok (.aload_n 0, 1) := by decide +kernel
theorem dX5_keptPlace_1 : decode cX5_keptPlace 1 = .ok (.getfield 122, 3) := by decide +kernel
theorem dX5_keptPlace_4 : decode cX5_keptPlace 4 = .ok (.iload_n 1, 1) := by decide +kernel
theorem dX5_keptPlace_5 : decode cX5_keptPlace 5 = .ok (.iload_n 1, 1) := by decide +kernel
theorem dX5_keptPlace_6 : decode cX5_keptPlace 6 = .ok (.iconst 1, 1) := by decide +kernel
theorem dX5_keptPlace_7 : decode cX5_keptPlace 7 = .ok (.iadd, 1) := by decide +kernel
theorem dX5_keptPlace_8 : decode cX5_keptPlace 8 = .ok (.invokestatic 65, 3) := by decide +kernel
theorem dX5_keptPlace_11 : decode cX5_keptPlace 11 = .ok (.invokestatic 140, 3) := by decide +kernel
theorem dX5_keptPlace_14 : decode cX5_keptPlace 14 = .ok (.ireturn, 1) := by decide +kernel
set_option maxRecDepth 20000 in
theorem ggX5_kept_X5_keptSize : GoodIn wsX5_kept wsX5_keptSize := goodIn_r _ [6, 7, 8, 9, 10, 11, 12, 13, 14, 33, 34, 35, 36, 37, 38, 39, 40, 41, 42, 43, 44, 45, 46, 47, 48, 49] (by decide +kernel) (by decide +kernel)
set_option maxRecDepth 20000 in
theorem gX5_kept_X5_keptSize : GoodIn wsX5_kept (wsV RX5 143 RX5 yX5_keptSize wsX5_keptSize) := goodIn_app (goodIn_of _ (by decide +kernel)) ggX5_kept_X5_keptSize
set_option maxRecDepth 20000 in
theorem ggX5_kept_X5_isIn : GoodIn wsX5_kept wsX5_isIn := goodIn_r _ [17] (by decide +kernel) (by decide +kernel)
set_option maxRecDepth 20000 in
theorem gX5_kept_X5_isIn : GoodIn wsX5_kept (va_wsS RX5 35 yX5_isIn wsX5_isIn) := goodIn_app (goodIn_of _ (by decide +kernel)) ggX5_kept_X5_isIn
set_option maxRecDepth 20000 in
theorem ggX5_kept_X5_keptPlace : GoodIn wsX5_kept wsX5_keptPlace := goodIn_r _ [21, 7, 22, 23, 5, 24, 25, 26, 10, 27, 28, 33, 34, 35, 36, 37, 38, 39, 40, 41, 42, 43, 44, 45, 46, 47, 48, 49] (by decide +kernel) (by decide +kernel)
set_option maxRecDepth 20000 in
theorem gX5_kept_X5_keptPlace : GoodIn wsX5_kept (wsV RX5 146 RX5 yX5_keptPlace wsX5_keptPlace) := goodIn_app (goodIn_of _ (by decide +kernel)) ggX5_kept_X5_keptPlace
set_option maxRecDepth 20000 in
theorem ggX5_kept_X5_no : GoodIn wsX5_kept wsX5_no := goodIn_r _ [32, 1, 33, 34, 35, 36, 37, 38, 39, 40, 41, 42, 43, 44, 45, 46, 47, 48, 49] (by decide +kernel) (by decide +kernel)
set_option maxRecDepth 20000 in
theorem gX5_kept_X5_no : GoodIn wsX5_kept (wsV RX5 93 RX5 yX5_no wsX5_no) := goodIn_app (goodIn_of _ (by decide +kernel)) ggX5_kept_X5_no
theorem dX5_kept_0 : decode cX5_kept 0 = .ok (.aload_n 0, 1) := by decide +kernel
theorem dX5_kept_1 : decode cX5_kept 1 = .ok (.iconst 0, 1) := by decide +kernel
theorem dX5_kept_2 : decode cX5_kept 2 = .ok (.putfield 28, 3) := by decide +kernel
theorem dX5_kept_5 : decode cX5_kept 5 = .ok (.iload_n 1, 1) := by decide +kernel
theorem dX5_kept_6 : decode cX5_kept 6 = .ok (.iconst 0, 1) := by decide +kernel
theorem dX5_kept_7 : decode cX5_kept 7 = .ok (.aload_n 0, 1) := by decide +kernel
theorem dX5_kept_8 : decode cX5_kept 8 = .ok (.invokevirtual 143, 3) := by decide +kernel
theorem dX5_kept_11 : decode cX5_kept 11 = .ok (.iconst 1, 1) := by decide +kernel
theorem dX5_kept_12 : decode cX5_kept 12 = .ok (.isub, 1) := by decide +kernel
theorem dX5_kept_13 : decode cX5_kept 13 = .ok (.invokestatic 35, 3) := by decide +kernel
theorem dX5_kept_16 : decode cX5_kept 16 = .ok (.ifCond .eq 11, 3) := by decide +kernel
theorem dX5_kept_19 : decode cX5_kept 19 = .ok (.aload_n 0, 1) := by decide +kernel
theorem dX5_kept_20 : decode cX5_kept 20 = .ok (.iload_n 1, 1) := by decide +kernel
theorem dX5_kept_21 : decode cX5_kept 21 = .ok (.invokevirtual 146, 3) := by decide +kernel
theorem dX5_kept_24 : decode cX5_kept 24 = .ok (.goto 8, 3) := by decide +kernel
theorem dX5_kept_27 : decode cX5_kept 27 = .ok (.aload_n 0, 1) := by decide +kernel
theorem dX5_kept_28 : decode cX5_kept 28 = .ok (.iconst 1, 1) := by decide +kernel
theorem dX5_kept_29 : decode cX5_kept 29 = .ok (.invokevirtual 93, 3) := by decide +kernel
theorem dX5_kept_32 : decode cX5_kept 32 = .ok (.ireturn, 1) := by decide +kernel
set_option maxRecDepth 20000 in
theorem ggX5_step_X5_isIn : GoodIn wsX5_step wsX5_isIn := goodIn_r _ [7] (by decide +kernel) (by decide +kernel)
set_option maxRecDepth 20000 in
theorem gX5_step_X5_isIn : GoodIn wsX5_step (va_wsS RX5 35 yX5_isIn wsX5_isIn) := goodIn_app (goodIn_of _ (by decide +kernel)) ggX5_step_X5_isIn
set_option maxRecDepth 20000 in
theorem ggX5_step_X5_no : GoodIn wsX5_step wsX5_no := goodIn_r _ [11, 1, 12, 13, 14, 15, 16, 17, 18, 19, 20, 21, 22, 23, 24, 25, 26, 27, 28] (by decide +kernel) (by decide +kernel)
set_option maxRecDepth 20000 in
theorem gX5_step_X5_no : GoodIn wsX5_step (wsV RX5 93 RX5 yX5_no wsX5_no) := goodIn_app (goodIn_of _ (by decide +kernel)) ggX5_step_X5_no
theorem dX5_step_0 : decode cX5_step 0 = .ok (.aload_n 0, 1) := by decide +kernel
theorem dX5_step_1 : decode cX5_step 1 = .ok (.iconst 0, 1) := by decide +kernel
theorem dX5_step_2 : decode cX5_step 2 = .ok (.putfield 28, 3) := by decide +kernel
theorem dX5_step_5 : decode cX5_step 5 = .ok (.iload_n 1, 1) := by decide +kernel
theorem dX5_step_6 : decode cX5_step 6 = .ok (.iconst 0, 1) := by decide +kernel
theorem dX5_step_7 : decode cX5_step 7 = .ok (.aload_n 0, 1) := by decide +kernel
theorem dX5_step_8 : decode cX5_step 8 = .ok (.getfield 128, 3) := by decide +kernel
theorem dX5_step_11 : decode cX5_step 11 = .ok (.iconst 1, 1) := by decide +kernel
theorem dX5_step_12 : decode cX5_step 12 = .ok (.isub, 1) := by decide +kernel
theorem dX5_step_13 : decode cX5_step 13 = .ok (.invokestatic 35, 3) := by decide +kernel
theorem dX5_step_16 : decode cX5_step 16 = .ok (.ifCond .eq 25, 3) := by decide +kernel
theorem dX5_step_19 : decode cX5_step 19 = .ok (.iload_n 2, 1) := by decide +kernel
theorem dX5_step_20 : decode cX5_step 20 = .ok (.iconst 0, 1) := by decide +kernel
theorem dX5_step_21 : decode cX5_step 21 = .ok (.iconst 4, 1) := by decide +kernel
theorem dX5_step_22 : decode cX5_step 22 = .ok (.invokestatic 35, 3) := by decide +kernel
theorem dX5_step_25 : decode cX5_step 25 = .ok (.ifCond .eq 16, 3) := by decide +kernel
theorem dX5_step_28 : decode cX5_step 28 = .ok (.aload_n 0, 1) := by decide +kernel
theorem dX5_step_29 : decode cX5_step 29 = .ok (.getfield 25, 3) := by decide +kernel
theorem dX5_step_32 : decode cX5_step 32 = .ok (.iconst 5, 1) := by decide +kernel
theorem dX5_step_33 : decode cX5_step 33 = .ok (.iload_n 1, 1) := by decide +kernel
theorem dX5_step_34 : decode cX5_step 34 = .ok (.imul, 1) := by decide +kernel
theorem dX5_step_35 : decode cX5_step 35 = .ok (.iload_n 2, 1) := by decide +kernel
theorem dX5_step_36 : decode cX5_step 36 = .ok (.iadd, 1) := by decide +kernel
theorem dX5_step_37 : decode cX5_step 37 = .ok (.iaload, 1) := by decide +kernel
theorem dX5_step_38 : decode cX5_step 38 = .ok (.goto 8, 3) := by decide +kernel
theorem dX5_step_41 : decode cX5_step 41 = .ok (.aload_n 0, 1) := by decide +kernel
theorem dX5_step_42 : decode cX5_step 42 = .ok (.iconst 1, 1) := by decide +kernel
theorem dX5_step_43 : decode cX5_step 43 = .ok (.invokevirtual 93, 3) := by decide +kernel
theorem dX5_step_46 : decode cX5_step 46 = .ok (.ireturn, 1) := by decide +kernel
set_option maxRecDepth 20000 in
theorem ggX5_hold_X5_whole : GoodIn wsX5_hold wsX5_whole := goodIn_r _ [6, 7, 19, 20, 21, 22, 23, 24, 25, 26, 27, 28, 29, 30, 31, 32, 33, 34, 35] (by decide +kernel) (by decide +kernel)
set_option maxRecDepth 20000 in
theorem gX5_hold_X5_whole : GoodIn wsX5_hold (wsV RX5 75 RX5 yX5_whole wsX5_whole) := goodIn_app (goodIn_of _ (by decide +kernel)) ggX5_hold_X5_whole
set_option maxRecDepth 20000 in
theorem ggX5_hold_X5_kindsOf : GoodIn wsX5_hold wsX5_kindsOf := goodIn_r _ [11, 7, 12, 19, 20, 21, 22, 23, 24, 25, 26, 27, 28, 29, 30, 31, 32, 33, 34, 35] (by decide +kernel) (by decide +kernel)
set_option maxRecDepth 20000 in
theorem gX5_hold_X5_kindsOf : GoodIn wsX5_hold (wsV RX5 42 RX5 yX5_kindsOf wsX5_kindsOf) := goodIn_app (goodIn_of _ (by decide +kernel)) ggX5_hold_X5_kindsOf
set_option maxRecDepth 20000 in
theorem ggX5_hold_X5_holds : GoodIn wsX5_hold wsX5_holds := goodIn_r _ [16, 17, 18, 19, 20, 21, 22, 23, 24, 25, 26, 27, 28, 29, 30, 31, 32, 33, 34, 35] (by decide +kernel) (by decide +kernel)
set_option maxRecDepth 20000 in
theorem gX5_hold_X5_holds : GoodIn wsX5_hold (wsV RX5 46 RX5 yX5_holds wsX5_holds) := goodIn_app (goodIn_of _ (by decide +kernel)) ggX5_hold_X5_holds
theorem dX5_hold_0 : decode cX5_hold 0 = .ok (.aload_n 0, 1) := by decide +kernel
theorem dX5_hold_1 : decode cX5_hold 1 = .ok (.aload_n 0, 1) := by decide +kernel
theorem dX5_hold_2 : decode cX5_hold 2 = .ok (.invokevirtual 75, 3) := by decide +kernel
theorem dX5_hold_5 : decode cX5_hold 5 = .ok (.invokevirtual 42, 3) := by decide +kernel
theorem dX5_hold_8 : decode cX5_hold 8 = .ok (.istore_n 1, 1) := by decide +kernel
theorem dX5_hold_9 : decode cX5_hold 9 = .ok (.iconst 0, 1) := by decide +kernel
theorem dX5_hold_10 : decode cX5_hold 10 = .ok (.istore_n 2, 1) := by decide +kernel
theorem dX5_hold_11 : decode cX5_hold 11 = .ok (.iconst 0, 1) := by decide +kernel
theorem dX5_hold_12 : decode cX5_hold 12 = .ok (.istore_n 3, 1) := by decide +kernel
theorem dX5_hold_13 : decode cX5_hold 13 = .ok (.iload_n 3, 1) := by decide +kernel
theorem dX5_hold_14 : decode cX5_hold 14 = .ok (.aload_n 0, 1) := by decide +kernel
theorem dX5_hold_15 : decode cX5_hold 15 = .ok (.getfield 32, 3) := by decide +kernel
theorem dX5_hold_18 : decode cX5_hold 18 = .ok (.if_icmp .ge 26, 3) := by decide +kernel
theorem dX5_hold_21 : decode cX5_hold 21 = .ok (.iload_n 2, 1) := by decide +kernel
theorem dX5_hold_22 : decode cX5_hold 22 = .ok (.aload_n 0, 1) := by decide +kernel
theorem dX5_hold_23 : decode cX5_hold 23 = .ok (.iload_n 3, 1) := by decide +kernel
theorem dX5_hold_24 : decode cX5_hold 24 = .ok (.iload_n 1, 1) := by decide +kernel
theorem dX5_hold_25 : decode cX5_hold 25 = .ok (.invokevirtual 46, 3) := by decide +kernel
theorem dX5_hold_28 : decode cX5_hold 28 = .ok (.ifCond .eq 7, 3) := by decide +kernel
theorem dX5_hold_31 : decode cX5_hold 31 = .ok (.iconst 1, 1) := by decide +kernel
theorem dX5_hold_32 : decode cX5_hold 32 = .ok (.goto 4, 3) := by decide +kernel
theorem dX5_hold_35 : decode cX5_hold 35 = .ok (.iconst 0, 1) := by decide +kernel
theorem dX5_hold_36 : decode cX5_hold 36 = .ok (.iadd, 1) := by decide +kernel
theorem dX5_hold_37 : decode cX5_hold 37 = .ok (.istore_n 2, 1) := by decide +kernel
theorem dX5_hold_38 : decode cX5_hold 38 = .ok (.iinc 3 1, 3) := by decide +kernel
theorem dX5_hold_41 : decode cX5_hold 41 = .ok (.goto (-28), 3) := by decide +kernel
theorem dX5_hold_44 : decode cX5_hold 44 = .ok (.iload_n 2, 1) := by decide +kernel
theorem dX5_hold_45 : decode cX5_hold 45 = .ok (.ireturn, 1) := by decide +kernel
set_option maxRecDepth 20000 in
theorem ggX5_counted_X5_hold : GoodIn wsX5_counted wsX5_hold := goodIn_r _ [10, 2, 11, 12, 13, 9, 14, 1, 15, 16, 17, 18, 19, 20, 21, 22, 23, 24, 25, 38, 39, 40, 41, 42, 43, 44, 45, 46, 47, 48, 49, 50, 51, 52, 53, 54] (by decide +kernel) (by decide +kernel)
set_option maxRecDepth 20000 in
theorem gX5_counted_X5_hold : GoodIn wsX5_counted (wsV RX5 149 RX5 yX5_hold wsX5_hold) := goodIn_app (goodIn_of _ (by decide +kernel)) ggX5_counted_X5_hold
set_option maxRecDepth 20000 in
theorem ggX5_counted_X5_keptSize : GoodIn wsX5_counted wsX5_keptSize := goodIn_r _ [29, 30, 31, 32, 33, 34, 35, 36, 37, 38, 39, 40, 41, 42, 43, 44, 45, 46, 47, 48, 49, 50, 51, 52, 53, 54] (by decide +kernel) (by decide +kernel)
set_option maxRecDepth 20000 in
theorem gX5_counted_X5_keptSize : GoodIn wsX5_counted (wsV RX5 143 RX5 yX5_keptSize wsX5_keptSize) := goodIn_app (goodIn_of _ (by decide +kernel)) ggX5_counted_X5_keptSize
theorem dX5_counted_0 : decode cX5_counted 0 = .ok (.iload_n 1, 1) := by decide +kernel
theorem dX5_counted_1 : decode cX5_counted 1 = .ok (.tableswitch 69 0 5 #[39, 44, 49, 54, 59, 64], 39) := by decide +kernel
theorem dX5_counted_40 : decode cX5_counted 40 = .ok (.aload_n 0, 1) := by decide +kernel
theorem dX5_counted_41 : decode cX5_counted 41 = .ok (.getfield 39, 3) := by decide +kernel
theorem dX5_counted_44 : decode cX5_counted 44 = .ok (.ireturn, 1) := by decide +kernel
theorem dX5_counted_45 : decode cX5_counted 45 = .ok (.aload_n 0, 1) := by decide +kernel
theorem dX5_counted_46 : decode cX5_counted 46 = .ok (.getfield 32, 3) := by decide +kernel
theorem dX5_counted_49 : decode cX5_counted 49 = .ok (.ireturn, 1) := by decide +kernel
theorem dX5_counted_50 : decode cX5_counted 50 = .ok (.aload_n 0, 1) := by decide +kernel
theorem dX5_counted_51 : decode cX5_counted 51 = .ok (.invokevirtual 149, 3) := by decide +kernel
theorem dX5_counted_54 : decode cX5_counted 54 = .ok (.ireturn, 1) := by decide +kernel
theorem dX5_counted_55 : decode cX5_counted 55 = .ok (.aload_n 0, 1) := by decide +kernel
theorem dX5_counted_56 : decode cX5_counted 56 = .ok (.invokevirtual 143, 3) := by decide +kernel
theorem dX5_counted_59 : decode cX5_counted 59 = .ok (.ireturn, 1) := by decide +kernel
theorem dX5_counted_60 : decode cX5_counted 60 = .ok (.aload_n 0, 1) := by decide +kernel
theorem dX5_counted_61 : decode cX5_counted 61 = .ok (.getfield 128, 3) := by decide +kernel
theorem dX5_counted_64 : decode cX5_counted 64 = .ok (.ireturn, 1) := by decide +kernel
theorem dX5_counted_65 : decode cX5_counted 65 = .ok (.aload_n 0, 1) := by decide +kernel
theorem dX5_counted_66 : decode cX5_counted 66 = .ok (.getfield 125, 3) := by decide +kernel
theorem dX5_counted_69 : decode cX5_counted 69 = .ok (.ireturn, 1) := by decide +kernel
theorem dX5_counted_70 : decode cX5_counted 70 = .ok (.aload_n 0, 1) := by decide +kernel
theorem dX5_counted_71 : decode cX5_counted 71 = .ok (.getfield 137, 3) := by decide +kernel
theorem dX5_counted_74 : decode cX5_counted 74 = .ok (.ireturn, 1) := by decide +kernel
set_option maxRecDepth 20000 in
theorem ggX5_count_X5_isIn : GoodIn wsX5_count wsX5_isIn := goodIn_r _ [5] (by decide +kernel) (by decide +kernel)
set_option maxRecDepth 20000 in
theorem gX5_count_X5_isIn : GoodIn wsX5_count (va_wsS RX5 35 yX5_isIn wsX5_isIn) := goodIn_app (goodIn_of _ (by decide +kernel)) ggX5_count_X5_isIn
set_option maxRecDepth 20000 in
theorem ggX5_count_X5_counted : GoodIn wsX5_count wsX5_counted := goodIn_r _ [9, 10, 11, 12, 13, 14, 15, 16, 17, 4, 18, 19, 20, 21, 22, 23, 24, 25, 26, 27, 28, 29, 30, 31, 32, 33, 34, 35, 36, 37, 38, 39, 40, 41, 42, 43, 44, 45, 50, 51, 52, 53, 54, 55, 56, 57, 58, 59, 60, 61, 62, 63, 64, 65, 66] (by decide +kernel) (by decide +kernel)
set_option maxRecDepth 20000 in
theorem gX5_count_X5_counted : GoodIn wsX5_count (wsV RX5 152 RX5 yX5_counted wsX5_counted) := goodIn_app (goodIn_of _ (by decide +kernel)) ggX5_count_X5_counted
set_option maxRecDepth 20000 in
theorem ggX5_count_X5_no : GoodIn wsX5_count wsX5_no := goodIn_r _ [49, 1, 50, 51, 52, 53, 54, 55, 56, 57, 58, 59, 60, 61, 62, 63, 64, 65, 66] (by decide +kernel) (by decide +kernel)
set_option maxRecDepth 20000 in
theorem gX5_count_X5_no : GoodIn wsX5_count (wsV RX5 93 RX5 yX5_no wsX5_no) := goodIn_app (goodIn_of _ (by decide +kernel)) ggX5_count_X5_no
theorem dX5_count_0 : decode cX5_count 0 = .ok (.aload_n 0, 1) := by decide +kernel
theorem dX5_count_1 : decode cX5_count 1 = .ok (.iconst 0, 1) := by decide +kernel
theorem dX5_count_2 : decode cX5_count 2 = .ok (.putfield 28, 3) := by decide +kernel
theorem dX5_count_5 : decode cX5_count 5 = .ok (.iload_n 1, 1) := by decide +kernel
theorem dX5_count_6 : decode cX5_count 6 = .ok (.iconst 0, 1) := by decide +kernel
theorem dX5_count_7 : decode cX5_count 7 = .ok (.bipush 6, 2) := by decide +kernel
theorem dX5_count_9 : decode cX5_count 9 = .ok (.invokestatic 35, 3) := by decide +kernel
theorem dX5_count_12 : decode cX5_count 12 = .ok (.ifCond .eq 11, 3) := by decide +kernel
theorem dX5_count_15 : decode cX5_count 15 = .ok (.aload_n 0, 1) := by decide +kernel
theorem dX5_count_16 : decode cX5_count 16 = .ok (.iload_n 1, 1) := by decide +kernel
theorem dX5_count_17 : decode cX5_count 17 = .ok (.invokevirtual 152, 3) := by decide +kernel
theorem dX5_count_20 : decode cX5_count 20 = .ok (.goto 8, 3) := by decide +kernel
theorem dX5_count_23 : decode cX5_count 23 = .ok (.aload_n 0, 1) := by decide +kernel
theorem dX5_count_24 : decode cX5_count 24 = .ok (.iconst 1, 1) := by decide +kernel
theorem dX5_count_25 : decode cX5_count 25 = .ok (.invokevirtual 93, 3) := by decide +kernel
theorem dX5_count_28 : decode cX5_count 28 = .ok (.ireturn, 1) := by decide +kernel
set_option maxRecDepth 20000 in
theorem ggX5_wouldBe_X5_halve : GoodIn wsX5_wouldBe wsX5_halve := goodIn_r _ [7, 2, 1, 8, 9, 10, 11, 12, 13, 14, 6, 15, 16, 17, 18, 19, 20, 21, 22, 23, 24, 25, 26, 27, 28, 29, 30, 31, 32, 33, 34, 35, 36, 37, 38, 39, 40, 41, 42, 43, 44, 45, 46, 47, 48, 49, 50, 51, 52, 53, 54, 55, 56, 57, 58, 59, 64, 65, 66, 67, 68, 69, 70, 71, 72, 73, 74, 75, 76, 77, 78, 79, 80] (by decide +kernel) (by decide +kernel)
set_option maxRecDepth 20000 in
theorem gX5_wouldBe_X5_halve : GoodIn wsX5_wouldBe (wsV RX5 119 RX5 yX5_halve wsX5_halve) := goodIn_app (goodIn_of _ (by decide +kernel)) ggX5_wouldBe_X5_halve
set_option maxRecDepth 20000 in
theorem ggX5_wouldBe_X5_spareEach : GoodIn wsX5_wouldBe wsX5_spareEach := goodIn_r _ [63, 2, 16, 12, 13, 14, 6, 15, 17, 18, 19, 20, 21, 22, 23, 24, 25, 26, 27, 28, 29, 30, 31, 32, 33, 34, 35, 36, 37, 64, 65, 66, 67, 68, 69, 70, 71, 72, 73, 74, 75, 76, 77, 78, 79, 80] (by decide +kernel) (by decide +kernel)
set_option maxRecDepth 20000 in
theorem gX5_wouldBe_X5_spareEach : GoodIn wsX5_wouldBe (wsV RX5 155 RX5 yX5_spareEach wsX5_spareEach) := goodIn_app (goodIn_of _ (by decide +kernel)) ggX5_wouldBe_X5_spareEach
theorem dX5_wouldBe_0 : decode cX5_wouldBe 0 = .ok (.iload_n 1, 1) := by decide +kernel
theorem dX5_wouldBe_1 : decode cX5_wouldBe 1 = .ok (.iconst 3, 1) := by decide +kernel
theorem dX5_wouldBe_2 : decode cX5_wouldBe 2 = .ok (.if_icmp .ge 10, 3) := by decide +kernel
theorem dX5_wouldBe_5 : decode cX5_wouldBe 5 = .ok (.aload_n 0, 1) := by decide +kernel
theorem dX5_wouldBe_6 : decode cX5_wouldBe 6 = .ok (.invokevirtual 119, 3) := by decide +kernel
theorem dX5_wouldBe_9 : decode cX5_wouldBe 9 = .ok (.goto 7, 3) := by decide +kernel
theorem dX5_wouldBe_12 : decode cX5_wouldBe 12 = .ok (.aload_n 0, 1) := by decide +kernel
theorem dX5_wouldBe_13 : decode cX5_wouldBe 13 = .ok (.invokevirtual 155, 3) := by decide +kernel
theorem dX5_wouldBe_16 : decode cX5_wouldBe 16 = .ok (.istore_n 2, 1) := by decide +kernel
theorem dX5_wouldBe_17 : decode cX5_wouldBe 17 = .ok (.iload_n 1, 1) := by decide +kernel
theorem dX5_wouldBe_18 : decode cX5_wouldBe 18 = .ok (.iconst 3, 1) := by decide +kernel
theorem dX5_wouldBe_19 : decode cX5_wouldBe 19 = .ok (.irem, 1) := by decide +kernel
theorem dX5_wouldBe_20 : decode cX5_wouldBe 20 = .ok (.ifCond .ne 7, 3) := by decide +kernel
theorem dX5_wouldBe_23 : decode cX5_wouldBe 23 = .ok (.iload_n 2, 1) := by decide +kernel
theorem dX5_wouldBe_24 : decode cX5_wouldBe 24 = .ok (.goto 19, 3) := by decide +kernel
theorem dX5_wouldBe_27 : decode cX5_wouldBe 27 = .ok (.iload_n 1, 1) := by decide +kernel
theorem dX5_wouldBe_28 : decode cX5_wouldBe 28 = .ok (.iconst 2, 1) := by decide +kernel
theorem dX5_wouldBe_29 : decode cX5_wouldBe 29 = .ok (.if_icmp .ne 10, 3) := by decide +kernel
theorem dX5_wouldBe_32 : decode cX5_wouldBe 32 = .ok (.aload_n 0, 1) := by decide +kernel
theorem dX5_wouldBe_33 : decode cX5_wouldBe 33 = .ok (.getfield 57, 3) := by decide +kernel
theorem dX5_wouldBe_36 : decode cX5_wouldBe 36 = .ok (.goto 7, 3) := by decide +kernel
theorem dX5_wouldBe_39 : decode cX5_wouldBe 39 = .ok (.aload_n 0, 1) := by decide +kernel
theorem dX5_wouldBe_40 : decode cX5_wouldBe 40 = .ok (.getfield 50, 3) := by decide +kernel
theorem dX5_wouldBe_43 : decode cX5_wouldBe 43 = .ok (.ireturn, 1) := by decide +kernel
set_option maxRecDepth 20000 in
theorem ggX5_would_X5_isIn : GoodIn wsX5_would wsX5_isIn := goodIn_r _ [5] (by decide +kernel) (by decide +kernel)
set_option maxRecDepth 20000 in
theorem gX5_would_X5_isIn : GoodIn wsX5_would (va_wsS RX5 35 yX5_isIn wsX5_isIn) := goodIn_app (goodIn_of _ (by decide +kernel)) ggX5_would_X5_isIn
set_option maxRecDepth 20000 in
theorem ggX5_would_X5_wouldBe : GoodIn wsX5_would wsX5_wouldBe := goodIn_r _ [9, 10, 11, 12, 13, 14, 4, 15, 16, 17, 18, 19, 20, 21, 22, 23, 24, 25, 26, 27, 28, 29, 30, 31, 32, 33, 34, 35, 36, 37, 38, 39, 40, 41, 42, 43, 44, 45, 46, 47, 48, 49, 50, 51, 52, 53, 54, 55, 56, 57, 58, 59, 60, 61, 62, 63, 64, 65, 66, 67, 68, 69, 70, 71, 76, 77, 78, 79, 80, 81, 82, 83, 84, 85, 86, 87, 88, 89, 90, 91, 92] (by decide +kernel) (by decide +kernel)
set_option maxRecDepth 20000 in
theorem gX5_would_X5_wouldBe : GoodIn wsX5_would (wsV RX5 158 RX5 yX5_wouldBe wsX5_wouldBe) := goodIn_app (goodIn_of _ (by decide +kernel)) ggX5_would_X5_wouldBe
set_option maxRecDepth 20000 in
theorem ggX5_would_X5_no : GoodIn wsX5_would wsX5_no := goodIn_r _ [75, 1, 76, 77, 78, 79, 80, 81, 82, 83, 84, 85, 86, 87, 88, 89, 90, 91, 92] (by decide +kernel) (by decide +kernel)
set_option maxRecDepth 20000 in
theorem gX5_would_X5_no : GoodIn wsX5_would (wsV RX5 93 RX5 yX5_no wsX5_no) := goodIn_app (goodIn_of _ (by decide +kernel)) ggX5_would_X5_no
theorem dX5_would_0 : decode cX5_would 0 = .ok (.aload_n 0, 1) := by decide +kernel
theorem dX5_would_1 : decode cX5_would 1 = .ok (.iconst 0, 1) := by decide +kernel
theorem dX5_would_2 : decode cX5_would 2 = .ok (.putfield 28, 3) := by decide +kernel
theorem dX5_would_5 : decode cX5_would 5 = .ok (.iload_n 1, 1) := by decide +kernel
theorem dX5_would_6 : decode cX5_would 6 = .ok (.iconst 0, 1) := by decide +kernel
theorem dX5_would_7 : decode cX5_would 7 = .ok (.iconst 4, 1) := by decide +kernel
theorem dX5_would_8 : decode cX5_would 8 = .ok (.invokestatic 35, 3) := by decide +kernel
theorem dX5_would_11 : decode cX5_would 11 = .ok (.ifCond .eq 11, 3) := by decide +kernel
theorem dX5_would_14 : decode cX5_would 14 = .ok (.aload_n 0, 1) := by decide +kernel
theorem dX5_would_15 : decode cX5_would 15 = .ok (.iload_n 1, 1) := by decide +kernel
theorem dX5_would_16 : decode cX5_would 16 = .ok (.invokevirtual 158, 3) := by decide +kernel
theorem dX5_would_19 : decode cX5_would 19 = .ok (.goto 8, 3) := by decide +kernel
theorem dX5_would_22 : decode cX5_would 22 = .ok (.aload_n 0, 1) := by decide +kernel
theorem dX5_would_23 : decode cX5_would 23 = .ok (.iconst 1, 1) := by decide +kernel
theorem dX5_would_24 : decode cX5_would 24 = .ok (.invokevirtual 93, 3) := by decide +kernel
theorem dX5_would_27 : decode cX5_would 27 = .ok (.ireturn, 1) := by decide +kernel
set_option maxRecDepth 20000 in
theorem ggX5_leastDish_X5_whole : GoodIn wsX5_leastDish wsX5_whole := goodIn_r _ [7, 8, 21, 22, 23, 24, 25, 26, 27, 28, 29, 30, 31, 32, 33, 34, 35, 36, 37] (by decide +kernel) (by decide +kernel)
set_option maxRecDepth 20000 in
theorem gX5_leastDish_X5_whole : GoodIn wsX5_leastDish (wsV RX5 75 RX5 yX5_whole wsX5_whole) := goodIn_app (goodIn_of _ (by decide +kernel)) ggX5_leastDish_X5_whole
set_option maxRecDepth 20000 in
theorem ggX5_leastDish_X5_kindsOf : GoodIn wsX5_leastDish wsX5_kindsOf := goodIn_r _ [12, 8, 13, 21, 22, 23, 24, 25, 26, 27, 28, 29, 30, 31, 32, 33, 34, 35, 36, 37] (by decide +kernel) (by decide +kernel)
set_option maxRecDepth 20000 in
theorem gX5_leastDish_X5_kindsOf : GoodIn wsX5_leastDish (wsV RX5 42 RX5 yX5_kindsOf wsX5_kindsOf) := goodIn_app (goodIn_of _ (by decide +kernel)) ggX5_leastDish_X5_kindsOf
set_option maxRecDepth 20000 in
theorem ggX5_leastDish_J6_bitCount_0f7a4 : GoodIn wsX5_leastDish wsJ6_bitCount_0f7a4 := goodIn_r _ [17, 18, 19, 20] (by decide +kernel) (by decide +kernel)
set_option maxRecDepth 20000 in
theorem gX5_leastDish_J6_bitCount_0f7a4 : GoodIn wsX5_leastDish (va_wsS RX5 60 yJ6_bitCount_0f7a4 wsJ6_bitCount_0f7a4) := goodIn_app (goodIn_of _ (by decide +kernel)) ggX5_leastDish_J6_bitCount_0f7a4
theorem dX5_leastDish_0 : decode cX5_leastDish 0 = .ok (.aload_n 0, 1) := by decide +kernel
theorem dX5_leastDish_1 : decode cX5_leastDish 1 = .ok (.aload_n 0, 1) := by decide +kernel
theorem dX5_leastDish_2 : decode cX5_leastDish 2 = .ok (.invokevirtual 75, 3) := by decide +kernel
theorem dX5_leastDish_5 : decode cX5_leastDish 5 = .ok (.invokevirtual 42, 3) := by decide +kernel
theorem dX5_leastDish_8 : decode cX5_leastDish 8 = .ok (.istore_n 1, 1) := by decide +kernel
theorem dX5_leastDish_9 : decode cX5_leastDish 9 = .ok (.iconst 0, 1) := by decide +kernel
theorem dX5_leastDish_10 : decode cX5_leastDish 10 = .ok (.istore_n 2, 1) := by decide +kernel
theorem dX5_leastDish_11 : decode cX5_leastDish 11 = .ok (.iconst 0, 1) := by decide +kernel
theorem dX5_leastDish_12 : decode cX5_leastDish 12 = .ok (.istore_n 3, 1) := by decide +kernel
theorem dX5_leastDish_13 : decode cX5_leastDish 13 = .ok (.iload_n 3, 1) := by decide +kernel
theorem dX5_leastDish_14 : decode cX5_leastDish 14 = .ok (.aload_n 0, 1) := by decide +kernel
theorem dX5_leastDish_15 : decode cX5_leastDish 15 = .ok (.getfield 32, 3) := by decide +kernel
theorem dX5_leastDish_18 : decode cX5_leastDish 18 = .ok (.if_icmp .ge 58, 3) := by decide +kernel
theorem dX5_leastDish_21 : decode cX5_leastDish 21 = .ok (.aload_n 0, 1) := by decide +kernel
theorem dX5_leastDish_22 : decode cX5_leastDish 22 = .ok (.getfield 13, 3) := by decide +kernel
theorem dX5_leastDish_25 : decode cX5_leastDish 25 = .ok (.iload_n 3, 1) := by decide +kernel
theorem dX5_leastDish_26 : decode cX5_leastDish 26 = .ok (.iaload, 1) := by decide +kernel
theorem dX5_leastDish_27 : decode cX5_leastDish 27 = .ok (.ifCond .eq 43, 3) := by decide +kernel
theorem dX5_leastDish_30 : decode cX5_leastDish 30 = .ok (.aload_n 0, 1) := by decide +kernel
theorem dX5_leastDish_31 : decode cX5_leastDish 31 = .ok (.getfield 13, 3) := by decide +kernel
theorem dX5_leastDish_34 : decode cX5_leastDish 34 = .ok (.iload_n 3, 1) := by decide +kernel
theorem dX5_leastDish_35 : decode cX5_leastDish 35 = .ok (.iaload, 1) := by decide +kernel
theorem dX5_leastDish_36 : decode cX5_leastDish 36 = .ok (.iload_n 1, 1) := by decide +kernel
theorem dX5_leastDish_37 : decode cX5_leastDish 37 = .ok (.iconst (-1), 1) := by decide +kernel
theorem dX5_leastDish_38 : decode cX5_leastDish 38 = .ok (.ixor, 1) := by decide +kernel
theorem dX5_leastDish_39 : decode cX5_leastDish 39 = .ok (.iand, 1) := by decide +kernel
theorem dX5_leastDish_40 : decode cX5_leastDish 40 = .ok (.ifCond .eq 6, 3) := by decide +kernel
theorem dX5_leastDish_43 : decode cX5_leastDish 43 = .ok (.goto 27, 3) := by decide +kernel
theorem dX5_leastDish_46 : decode cX5_leastDish 46 = .ok (.aload_n 0, 1) := by decide +kernel
theorem dX5_leastDish_47 : decode cX5_leastDish 47 = .ok (.getfield 13, 3) := by decide +kernel
theorem dX5_leastDish_50 : decode cX5_leastDish 50 = .ok (.iload_n 3, 1) := by decide +kernel
theorem dX5_leastDish_51 : decode cX5_leastDish 51 = .ok (.iaload, 1) := by decide +kernel
theorem dX5_leastDish_52 : decode cX5_leastDish 52 = .ok (.invokestatic 60, 3) := by decide +kernel
theorem dX5_leastDish_55 : decode cX5_leastDish 55 = .ok (.istore 4, 2) := by decide +kernel
theorem dX5_leastDish_57 : decode cX5_leastDish 57 = .ok (.iload_n 2, 1) := by decide +kernel
theorem dX5_leastDish_58 : decode cX5_leastDish 58 = .ok (.ifCond .eq 9, 3) := by decide +kernel
theorem dX5_leastDish_61 : decode cX5_leastDish 61 = .ok (.iload 4, 2) := by decide +kernel
theorem dX5_leastDish_63 : decode cX5_leastDish 63 = .ok (.iload_n 2, 1) := by decide +kernel
theorem dX5_leastDish_64 : decode cX5_leastDish 64 = .ok (.if_icmp .ge 6, 3) := by decide +kernel
theorem dX5_leastDish_67 : decode cX5_leastDish 67 = .ok (.iload 4, 2) := by decide +kernel
theorem dX5_leastDish_69 : decode cX5_leastDish 69 = .ok (.istore_n 2, 1) := by decide +kernel
theorem dX5_leastDish_70 : decode cX5_leastDish 70 = .ok (.iinc 3 1, 3) := by decide +kernel
theorem dX5_leastDish_73 : decode cX5_leastDish 73 = .ok (.goto (-60), 3) := by decide +kernel
theorem dX5_leastDish_76 : decode cX5_leastDish 76 = .ok (.iload_n 2, 1) := by decide +kernel
theorem dX5_leastDish_77 : decode cX5_leastDish 77 = .ok (.ireturn, 1) := by decide +kernel
set_option maxRecDepth 20000 in
theorem ggX5_least_X5_leastDish : GoodIn wsX5_least wsX5_leastDish := goodIn_r _ [6, 7, 8, 9, 10, 11, 5, 12, 13, 14, 15, 16, 17, 18, 19, 20, 21, 22, 23, 24, 25, 26, 27, 28, 29, 30, 31, 32, 33, 34, 35, 36, 37, 38, 39, 40, 41, 42] (by decide +kernel) (by decide +kernel)
set_option maxRecDepth 20000 in
theorem gX5_least_X5_leastDish : GoodIn wsX5_least (wsV RX5 161 RX5 yX5_leastDish wsX5_leastDish) := goodIn_app (goodIn_of _ (by decide +kernel)) ggX5_least_X5_leastDish
theorem dX5_least_0 : decode cX5_least 0 = .ok (.aload_n 0, 1) := by decide +kernel
theorem dX5_least_1 : decode cX5_least 1 = .ok (.iconst 0, 1) := by decide +kernel
theorem dX5_least_2 : decode cX5_least 2 = .ok (.putfield 28, 3) := by decide +kernel
theorem dX5_least_5 : decode cX5_least 5 = .ok (.aload_n 0, 1) := by decide +kernel
theorem dX5_least_6 : decode cX5_least 6 = .ok (.invokevirtual 161, 3) := by decide +kernel
theorem dX5_least_9 : decode cX5_least 9 = .ok (.ireturn, 1) := by decide +kernel
set_option maxRecDepth 20000 in
theorem ggX5_isTightDish_X5_isSpoilt : GoodIn wsX5_isTightDish wsX5_isSpoilt := goodIn_r _ [6, 7, 8, 9, 10, 5, 11, 1, 12, 13, 14, 15, 16, 17, 18, 19, 20, 21, 22, 23, 24, 25, 26, 27, 28, 29, 30, 31, 32, 33, 34, 35] (by decide +kernel) (by decide +kernel)
set_option maxRecDepth 20000 in
theorem gX5_isTightDish_X5_isSpoilt : GoodIn wsX5_isTightDish (wsV RX5 53 RX5 yX5_isSpoilt wsX5_isSpoilt) := goodIn_app (goodIn_of _ (by decide +kernel)) ggX5_isTightDish_X5_isSpoilt
theorem dX5_isTightDish_0 : decode cX5_isTightDish 0 = .ok (.aload_n 0, 1) := by decide +kernel
theorem dX5_isTightDish_1 : decode cX5_isTightDish 1 = .ok (.iload_n 1, 1) := by decide +kernel
theorem dX5_isTightDish_2 : decode cX5_isTightDish 2 = .ok (.invokevirtual 53, 3) := by decide +kernel
theorem dX5_isTightDish_5 : decode cX5_isTightDish 5 = .ok (.ifCond .ne 5, 3) := by decide +kernel
theorem dX5_isTightDish_8 : decode cX5_isTightDish 8 = .ok (.iconst 0, 1) := by decide +kernel
theorem dX5_isTightDish_9 : decode cX5_isTightDish 9 = .ok (.ireturn, 1) := by decide +kernel
theorem dX5_isTightDish_10 : decode cX5_isTightDish 10 = .ok (.iconst 0, 1) := by decide +kernel
theorem dX5_isTightDish_11 : decode cX5_isTightDish 11 = .ok (.istore_n 2, 1) := by decide +kernel
theorem dX5_isTightDish_12 : decode cX5_isTightDish 12 = .ok (.iload_n 2, 1) := by decide +kernel
theorem dX5_isTightDish_13 : decode cX5_isTightDish 13 = .ok (.aload_n 0, 1) := by decide +kernel
theorem dX5_isTightDish_14 : decode cX5_isTightDish 14 = .ok (.getfield 39, 3) := by decide +kernel
theorem dX5_isTightDish_17 : decode cX5_isTightDish 17 = .ok (.if_icmp .ge 34, 3) := by decide +kernel
theorem dX5_isTightDish_20 : decode cX5_isTightDish 20 = .ok (.iload_n 1, 1) := by decide +kernel
theorem dX5_isTightDish_21 : decode cX5_isTightDish 21 = .ok (.iload_n 2, 1) := by decide +kernel
theorem dX5_isTightDish_22 : decode cX5_isTightDish 22 = .ok (.ishr, 1) := by decide +kernel
theorem dX5_isTightDish_23 : decode cX5_isTightDish 23 = .ok (.iconst 1, 1) := by decide +kernel
theorem dX5_isTightDish_24 : decode cX5_isTightDish 24 = .ok (.iand, 1) := by decide +kernel
theorem dX5_isTightDish_25 : decode cX5_isTightDish 25 = .ok (.iconst 1, 1) := by decide +kernel
theorem dX5_isTightDish_26 : decode cX5_isTightDish 26 = .ok (.if_icmp .ne 19, 3) := by decide +kernel
theorem dX5_isTightDish_29 : decode cX5_isTightDish 29 = .ok (.aload_n 0, 1) := by decide +kernel
theorem dX5_isTightDish_30 : decode cX5_isTightDish 30 = .ok (.iload_n 1, 1) := by decide +kernel
theorem dX5_isTightDish_31 : decode cX5_isTightDish 31 = .ok (.iconst 1, 1) := by decide +kernel
theorem dX5_isTightDish_32 : decode cX5_isTightDish 32 = .ok (.iload_n 2, 1) := by decide +kernel
theorem dX5_isTightDish_33 : decode cX5_isTightDish 33 = .ok (.ishl, 1) := by decide +kernel
theorem dX5_isTightDish_34 : decode cX5_isTightDish 34 = .ok (.iconst (-1), 1) := by decide +kernel
theorem dX5_isTightDish_35 : decode cX5_isTightDish 35 = .ok (.ixor, 1) := by decide +kernel
theorem dX5_isTightDish_36 : decode cX5_isTightDish 36 = .ok (.iand, 1) := by decide +kernel
theorem dX5_isTightDish_37 : decode cX5_isTightDish 37 = .ok (.invokevirtual 53, 3) := by decide +kernel
theorem dX5_isTightDish_40 : decode cX5_isTightDish 40 = .ok (.ifCond .eq 5, 3) := by decide +kernel
theorem dX5_isTightDish_43 : decode cX5_isTightDish 43 = .ok (.iconst 0, 1) := by decide +kernel
theorem dX5_isTightDish_44 : decode cX5_isTightDish 44 = .ok (.ireturn, 1) := by decide +kernel
theorem dX5_isTightDish_45 : decode cX5_isTightDish 45 = .ok (.iinc 2 1, 3) := by decide +kernel
theorem dX5_isTightDish_48 : decode cX5_isTightDish 48 = .ok (.goto (-36), 3) := by decide +kernel
theorem dX5_isTightDish_51 : decode cX5_isTightDish 51 = .ok (.iconst 1, 1) := by decide +kernel
theorem dX5_isTightDish_52 : decode cX5_isTightDish 52 = .ok (.ireturn, 1) := by decide +kernel
set_option maxRecDepth 20000 in
theorem ggX5_isTight_X5_whole : GoodIn wsX5_isTight wsX5_whole := goodIn_r _ [6, 7, 31, 32, 33, 34, 35, 36, 37, 38, 39, 40, 41, 42, 43, 44, 45, 46, 47] (by decide +kernel) (by decide +kernel)
set_option maxRecDepth 20000 in
theorem gX5_isTight_X5_whole : GoodIn wsX5_isTight (wsV RX5 75 RX5 yX5_whole wsX5_whole) := goodIn_app (goodIn_of _ (by decide +kernel)) ggX5_isTight_X5_whole
set_option maxRecDepth 20000 in
theorem ggX5_isTight_X5_isIn : GoodIn wsX5_isTight wsX5_isIn := goodIn_r _ [10] (by decide +kernel) (by decide +kernel)
set_option maxRecDepth 20000 in
theorem gX5_isTight_X5_isIn : GoodIn wsX5_isTight (va_wsS RX5 35 yX5_isIn wsX5_isIn) := goodIn_app (goodIn_of _ (by decide +kernel)) ggX5_isTight_X5_isIn
set_option maxRecDepth 20000 in
theorem ggX5_isTight_X5_isTightDish : GoodIn wsX5_isTight wsX5_isTightDish := goodIn_r _ [14, 7, 15, 16, 17, 5, 18, 19, 20, 21, 22, 23, 24, 25, 26, 27, 28, 29, 30, 31, 32, 33, 34, 35, 36, 37, 38, 39, 40, 41, 42, 43, 44, 45, 46, 47] (by decide +kernel) (by decide +kernel)
set_option maxRecDepth 20000 in
theorem gX5_isTight_X5_isTightDish : GoodIn wsX5_isTight (wsV RX5 164 RX5 yX5_isTightDish wsX5_isTightDish) := goodIn_app (goodIn_of _ (by decide +kernel)) ggX5_isTight_X5_isTightDish
theorem dX5_isTight_0 : decode cX5_isTight 0 = .ok (.aload_n 0, 1) := by decide +kernel
theorem dX5_isTight_1 : decode cX5_isTight 1 = .ok (.iload_n 1, 1) := by decide +kernel
theorem dX5_isTight_2 : decode cX5_isTight 2 = .ok (.iconst 0, 1) := by decide +kernel
theorem dX5_isTight_3 : decode cX5_isTight 3 = .ok (.aload_n 0, 1) := by decide +kernel
theorem dX5_isTight_4 : decode cX5_isTight 4 = .ok (.invokevirtual 75, 3) := by decide +kernel
theorem dX5_isTight_7 : decode cX5_isTight 7 = .ok (.invokestatic 35, 3) := by decide +kernel
theorem dX5_isTight_10 : decode cX5_isTight 10 = .ok (.ifCond .eq 7, 3) := by decide +kernel
theorem dX5_isTight_13 : decode cX5_isTight 13 = .ok (.iconst 0, 1) := by decide +kernel
theorem dX5_isTight_14 : decode cX5_isTight 14 = .ok (.goto 4, 3) := by decide +kernel
theorem dX5_isTight_17 : decode cX5_isTight 17 = .ok (.iconst 1, 1) := by decide +kernel
theorem dX5_isTight_18 : decode cX5_isTight 18 = .ok (.putfield 28, 3) := by decide +kernel
theorem dX5_isTight_21 : decode cX5_isTight 21 = .ok (.aload_n 0, 1) := by decide +kernel
theorem dX5_isTight_22 : decode cX5_isTight 22 = .ok (.getfield 28, 3) := by decide +kernel
theorem dX5_isTight_25 : decode cX5_isTight 25 = .ok (.ifCond .ne 15, 3) := by decide +kernel
theorem dX5_isTight_28 : decode cX5_isTight 28 = .ok (.aload_n 0, 1) := by decide +kernel
theorem dX5_isTight_29 : decode cX5_isTight 29 = .ok (.iload_n 1, 1) := by decide +kernel
theorem dX5_isTight_30 : decode cX5_isTight 30 = .ok (.invokevirtual 164, 3) := by decide +kernel
theorem dX5_isTight_33 : decode cX5_isTight 33 = .ok (.ifCond .eq 7, 3) := by decide +kernel
theorem dX5_isTight_36 : decode cX5_isTight 36 = .ok (.iconst 1, 1) := by decide +kernel
theorem dX5_isTight_37 : decode cX5_isTight 37 = .ok (.goto 4, 3) := by decide +kernel
theorem dX5_isTight_40 : decode cX5_isTight 40 = .ok (.iconst 0, 1) := by decide +kernel
theorem dX5_isTight_41 : decode cX5_isTight 41 = .ok (.ireturn, 1) := by decide +kernel
set_option maxRecDepth 20000 in
theorem ggX5_without_X5_takeOut : GoodIn wsX5_without wsX5_takeOut := goodIn_r _ [8, 2, 1, 64, 65, 66, 67, 68, 69, 70, 71, 72, 73, 74, 75, 76, 77, 78, 79, 80] (by decide +kernel) (by decide +kernel)
set_option maxRecDepth 20000 in
theorem gX5_without_X5_takeOut : GoodIn wsX5_without (wsV RX5 99 RX5 yX5_takeOut wsX5_takeOut) := goodIn_app (goodIn_of _ (by decide +kernel)) ggX5_without_X5_takeOut
set_option maxRecDepth 20000 in
theorem ggX5_without_X5_halve : GoodIn wsX5_without wsX5_halve := goodIn_r _ [12, 3, 13, 14, 15, 16, 17, 18, 19, 20, 7, 21, 1, 22, 23, 24, 25, 26, 27, 28, 29, 30, 31, 32, 33, 34, 35, 2, 36, 37, 38, 39, 40, 41, 42, 43, 44, 45, 46, 47, 48, 49, 50, 51, 52, 53, 54, 55, 56, 57, 58, 59, 60, 61, 62, 63, 64, 65, 66, 67, 68, 69, 70, 71, 72, 73, 74, 75, 76, 77, 78, 79, 80] (by decide +kernel) (by decide +kernel)
set_option maxRecDepth 20000 in
theorem gX5_without_X5_halve : GoodIn wsX5_without (wsV RX5 119 RX5 yX5_halve wsX5_halve) := goodIn_app (goodIn_of _ (by decide +kernel)) ggX5_without_X5_halve
theorem dX5_without_0 : decode cX5_without 0 = .ok (.aload_n 0, 1) := by decide +kernel
theorem dX5_without_1 : decode cX5_without 1 = .ok (.iload_n 1, 1) := by decide +kernel
theorem dX5_without_2 : decode cX5_without 2 = .ok (.invokevirtual 99, 3) := by decide +kernel
theorem dX5_without_5 : decode cX5_without 5 = .ok (.istore_n 2, 1) := by decide +kernel
theorem dX5_without_6 : decode cX5_without 6 = .ok (.aload_n 0, 1) := by decide +kernel
theorem dX5_without_7 : decode cX5_without 7 = .ok (.invokevirtual 119, 3) := by decide +kernel
theorem dX5_without_10 : decode cX5_without 10 = .ok (.pop, 1) := by decide +kernel
theorem dX5_without_11 : decode cX5_without 11 = .ok (.aload_n 0, 1) := by decide +kernel
theorem dX5_without_12 : decode cX5_without 12 = .ok (.getfield 39, 3) := by decide +kernel
theorem dX5_without_15 : decode cX5_without 15 = .ok (.istore_n 3, 1) := by decide +kernel
theorem dX5_without_16 : decode cX5_without 16 = .ok (.iload_n 3, 1) := by decide +kernel
theorem dX5_without_17 : decode cX5_without 17 = .ok (.iload_n 1, 1) := by decide +kernel
theorem dX5_without_18 : decode cX5_without 18 = .ok (.if_icmp .le 23, 3) := by decide +kernel
theorem dX5_without_21 : decode cX5_without 21 = .ok (.aload_n 0, 1) := by decide +kernel
theorem dX5_without_22 : decode cX5_without 22 = .ok (.getfield 9, 3) := by decide +kernel
theorem dX5_without_25 : decode cX5_without 25 = .ok (.iload_n 3, 1) := by decide +kernel
theorem dX5_without_26 : decode cX5_without 26 = .ok (.aload_n 0, 1) := by decide +kernel
theorem dX5_without_27 : decode cX5_without 27 = .ok (.getfield 9, 3) := by decide +kernel
theorem dX5_without_30 : decode cX5_without 30 = .ok (.iload_n 3, 1) := by decide +kernel
theorem dX5_without_31 : decode cX5_without 31 = .ok (.iconst 1, 1) := by decide +kernel
theorem dX5_without_32 : decode cX5_without 32 = .ok (.isub, 1) := by decide +kernel
theorem dX5_without_33 : decode cX5_without 33 = .ok (.iaload, 1) := by decide +kernel
theorem dX5_without_34 : decode cX5_without 34 = .ok (.iastore, 1) := by decide +kernel
theorem dX5_without_35 : decode cX5_without 35 = .ok (.iinc 3 (-1), 3) := by decide +kernel
theorem dX5_without_38 : decode cX5_without 38 = .ok (.goto (-22), 3) := by decide +kernel
theorem dX5_without_41 : decode cX5_without 41 = .ok (.aload_n 0, 1) := by decide +kernel
theorem dX5_without_42 : decode cX5_without 42 = .ok (.getfield 9, 3) := by decide +kernel
theorem dX5_without_45 : decode cX5_without 45 = .ok (.iload_n 1, 1) := by decide +kernel
theorem dX5_without_46 : decode cX5_without 46 = .ok (.iload_n 2, 1) := by decide +kernel
theorem dX5_without_47 : decode cX5_without 47 = .ok (.iastore, 1) := by decide +kernel
theorem dX5_without_48 : decode cX5_without 48 = .ok (.aload_n 0, 1) := by decide +kernel
theorem dX5_without_49 : decode cX5_without 49 = .ok (.dup, 1) := by decide +kernel
theorem dX5_without_50 : decode cX5_without 50 = .ok (.getfield 39, 3) := by decide +kernel
theorem dX5_without_53 : decode cX5_without 53 = .ok (.iconst 1, 1) := by decide +kernel
theorem dX5_without_54 : decode cX5_without 54 = .ok (.iadd, 1) := by decide +kernel
theorem dX5_without_55 : decode cX5_without 55 = .ok (.putfield 39, 3) := by decide +kernel
theorem dX5_without_58 : decode cX5_without 58 = .ok (.aload_n 0, 1) := by decide +kernel
theorem dX5_without_59 : decode cX5_without 59 = .ok (.getfield 50, 3) := by decide +kernel
theorem dX5_without_62 : decode cX5_without 62 = .ok (.ireturn, 1) := by decide +kernel
set_option maxRecDepth 20000 in
theorem ggX5_advise_X5_without : GoodIn wsX5_advise wsX5_without := goodIn_r _ [7, 2, 8, 9, 10, 11, 12, 6, 13, 14, 15, 16, 17, 18, 19, 20, 21, 22, 23, 24, 25, 26, 27, 28, 29, 30, 31, 32, 33, 34, 35, 36, 37, 38, 39, 40, 41, 42, 43, 44, 45, 46, 47, 48, 49, 50, 51, 52, 53, 54, 55, 56, 57, 58, 59, 60, 61, 62, 63, 64, 65, 66, 67, 68, 69, 70, 71, 72, 73, 74, 75, 76, 77, 78, 79, 80, 81, 82, 83, 84, 85] (by decide +kernel) (by decide +kernel)
set_option maxRecDepth 20000 in
theorem gX5_advise_X5_without : GoodIn wsX5_advise (wsV RX5 167 RX5 yX5_without wsX5_without) := goodIn_app (goodIn_of _ (by decide +kernel)) ggX5_advise_X5_without
theorem dX5_advise_0 : decode cX5_advise 0 = .ok (.aload_n 0, 1) := by decide +kernel
theorem dX5_advise_1 : decode cX5_advise 1 = .ok (.iconst 0, 1) := by decide +kernel
theorem dX5_advise_2 : decode cX5_advise 2 = .ok (.putfield 28, 3) := by decide +kernel
theorem dX5_advise_5 : decode cX5_advise 5 = .ok (.iconst (-1), 1) := by decide +kernel
theorem dX5_advise_6 : decode cX5_advise 6 = .ok (.istore_n 1, 1) := by decide +kernel
theorem dX5_advise_7 : decode cX5_advise 7 = .ok (.iconst 0, 1) := by decide +kernel
theorem dX5_advise_8 : decode cX5_advise 8 = .ok (.istore_n 2, 1) := by decide +kernel
theorem dX5_advise_9 : decode cX5_advise 9 = .ok (.iconst 0, 1) := by decide +kernel
theorem dX5_advise_10 : decode cX5_advise 10 = .ok (.istore_n 3, 1) := by decide +kernel
theorem dX5_advise_11 : decode cX5_advise 11 = .ok (.iload_n 3, 1) := by decide +kernel
theorem dX5_advise_12 : decode cX5_advise 12 = .ok (.aload_n 0, 1) := by decide +kernel
theorem dX5_advise_13 : decode cX5_advise 13 = .ok (.getfield 39, 3) := by decide +kernel
theorem dX5_advise_16 : decode cX5_advise 16 = .ok (.if_icmp .ge 35, 3) := by decide +kernel
theorem dX5_advise_19 : decode cX5_advise 19 = .ok (.aload_n 0, 1) := by decide +kernel
theorem dX5_advise_20 : decode cX5_advise 20 = .ok (.iload_n 3, 1) := by decide +kernel
theorem dX5_advise_21 : decode cX5_advise 21 = .ok (.invokevirtual 167, 3) := by decide +kernel
theorem dX5_advise_24 : decode cX5_advise 24 = .ok (.istore 4, 2) := by decide +kernel
theorem dX5_advise_26 : decode cX5_advise 26 = .ok (.iload_n 1, 1) := by decide +kernel
theorem dX5_advise_27 : decode cX5_advise 27 = .ok (.iconst (-1), 1) := by decide +kernel
theorem dX5_advise_28 : decode cX5_advise 28 = .ok (.if_icmp .eq 12, 3) := by decide +kernel
theorem dX5_advise_31 : decode cX5_advise 31 = .ok (.iload 4, 2) := by decide +kernel
theorem dX5_advise_33 : decode cX5_advise 33 = .ok (.iload_n 2, 1) := by decide +kernel
theorem dX5_advise_34 : decode cX5_advise 34 = .ok (.if_icmp .lt 6, 3) := by decide +kernel
theorem dX5_advise_37 : decode cX5_advise 37 = .ok (.goto 8, 3) := by decide +kernel
theorem dX5_advise_40 : decode cX5_advise 40 = .ok (.iload_n 3, 1) := by decide +kernel
theorem dX5_advise_41 : decode cX5_advise 41 = .ok (.istore_n 1, 1) := by decide +kernel
theorem dX5_advise_42 : decode cX5_advise 42 = .ok (.iload 4, 2) := by decide +kernel
theorem dX5_advise_44 : decode cX5_advise 44 = .ok (.istore_n 2, 1) := by decide +kernel
theorem dX5_advise_45 : decode cX5_advise 45 = .ok (.iinc 3 1, 3) := by decide +kernel
theorem dX5_advise_48 : decode cX5_advise 48 = .ok (.goto (-37), 3) := by decide +kernel
theorem dX5_advise_51 : decode cX5_advise 51 = .ok (.iload_n 1, 1) := by decide +kernel
theorem dX5_advise_52 : decode cX5_advise 52 = .ok (.ireturn, 1) := by decide +kernel
set_option maxRecDepth 20000 in
theorem ggX5_mean_J6_bitCount_0f7a4 : GoodIn wsX5_mean wsJ6_bitCount_0f7a4 := goodIn_r _ [7, 8, 9, 10] (by decide +kernel) (by decide +kernel)
set_option maxRecDepth 20000 in
theorem gX5_mean_J6_bitCount_0f7a4 : GoodIn wsX5_mean (va_wsS RX5 60 yJ6_bitCount_0f7a4 wsJ6_bitCount_0f7a4) := goodIn_app (goodIn_of _ (by decide +kernel)) ggX5_mean_J6_bitCount_0f7a4
theorem dX5_mean_0 : decode cX5_mean 0 = .ok (.aload_n 0, 1) := by decide +kernel
theorem dX5_mean_1 : decode cX5_mean 1 = .ok (.iconst 0, 1) := by decide +kernel
theorem dX5_mean_2 : decode cX5_mean 2 = .ok (.putfield 28, 3) := by decide +kernel
theorem dX5_mean_5 : decode cX5_mean 5 = .ok (.iconst 0, 1) := by decide +kernel
theorem dX5_mean_6 : decode cX5_mean 6 = .ok (.istore_n 1, 1) := by decide +kernel
theorem dX5_mean_7 : decode cX5_mean 7 = .ok (.iconst 0, 1) := by decide +kernel
theorem dX5_mean_8 : decode cX5_mean 8 = .ok (.istore_n 2, 1) := by decide +kernel
theorem dX5_mean_9 : decode cX5_mean 9 = .ok (.iload_n 2, 1) := by decide +kernel
theorem dX5_mean_10 : decode cX5_mean 10 = .ok (.aload_n 0, 1) := by decide +kernel
theorem dX5_mean_11 : decode cX5_mean 11 = .ok (.getfield 32, 3) := by decide +kernel
theorem dX5_mean_14 : decode cX5_mean 14 = .ok (.if_icmp .ge 21, 3) := by decide +kernel
theorem dX5_mean_17 : decode cX5_mean 17 = .ok (.iload_n 1, 1) := by decide +kernel
theorem dX5_mean_18 : decode cX5_mean 18 = .ok (.aload_n 0, 1) := by decide +kernel
theorem dX5_mean_19 : decode cX5_mean 19 = .ok (.getfield 13, 3) := by decide +kernel
theorem dX5_mean_22 : decode cX5_mean 22 = .ok (.iload_n 2, 1) := by decide +kernel
theorem dX5_mean_23 : decode cX5_mean 23 = .ok (.iaload, 1) := by decide +kernel
theorem dX5_mean_24 : decode cX5_mean 24 = .ok (.invokestatic 60, 3) := by decide +kernel
theorem dX5_mean_27 : decode cX5_mean 27 = .ok (.iadd, 1) := by decide +kernel
theorem dX5_mean_28 : decode cX5_mean 28 = .ok (.istore_n 1, 1) := by decide +kernel
theorem dX5_mean_29 : decode cX5_mean 29 = .ok (.iinc 2 1, 3) := by decide +kernel
theorem dX5_mean_32 : decode cX5_mean 32 = .ok (.goto (-23), 3) := by decide +kernel
theorem dX5_mean_35 : decode cX5_mean 35 = .ok (.aload_n 0, 1) := by decide +kernel
theorem dX5_mean_36 : decode cX5_mean 36 = .ok (.getfield 32, 3) := by decide +kernel
theorem dX5_mean_39 : decode cX5_mean 39 = .ok (.ifCond .ne 7, 3) := by decide +kernel
theorem dX5_mean_42 : decode cX5_mean 42 = .ok (.dconst 0, 1) := by decide +kernel
theorem dX5_mean_43 : decode cX5_mean 43 = .ok (.goto 11, 3) := by decide +kernel
theorem dX5_mean_46 : decode cX5_mean 46 = .ok (.iload_n 1, 1) := by decide +kernel
theorem dX5_mean_47 : decode cX5_mean 47 = .ok (.i2d, 1) := by decide +kernel
theorem dX5_mean_48 : decode cX5_mean 48 = .ok (.aload_n 0, 1) := by decide +kernel
theorem dX5_mean_49 : decode cX5_mean 49 = .ok (.getfield 32, 3) := by decide +kernel
theorem dX5_mean_52 : decode cX5_mean 52 = .ok (.i2d, 1) := by decide +kernel
theorem dX5_mean_53 : decode cX5_mean 53 = .ok (.ddiv, 1) := by decide +kernel
theorem dX5_mean_54 : decode cX5_mean 54 = .ok (.dreturn, 1) := by decide +kernel
set_option maxRecDepth 20000 in
theorem ggX5_digest_X5_counted : GoodIn wsX5_digest wsX5_counted := goodIn_r _ [13, 4, 6, 7, 14, 15, 16, 17, 18, 12, 19, 20, 21, 22, 23, 24, 25, 26, 27, 5, 28, 29, 30, 31, 32, 33, 34, 35, 36, 37, 38, 39, 40, 41, 42, 43, 44, 45, 106, 107, 108, 109, 110, 111, 112, 113, 114, 115, 116, 117, 118, 119, 120, 121, 122] (by decide +kernel) (by decide +kernel)
set_option maxRecDepth 20000 in
theorem gX5_digest_X5_counted : GoodIn wsX5_digest (wsV RX5 152 RX5 yX5_counted wsX5_counted) := goodIn_app (goodIn_of _ (by decide +kernel)) ggX5_digest_X5_counted
set_option maxRecDepth 20000 in
theorem ggX5_digest_X5_ruleTold : GoodIn wsX5_digest wsX5_ruleTold := goodIn_r _ [49, 32, 33, 50, 51, 39, 40, 41, 42, 43, 44, 45, 20, 21, 22, 12, 23, 4, 24, 25, 26, 27, 5, 28, 29, 30, 31, 106, 107, 108, 109, 110, 111, 112, 113, 114, 115, 116, 117, 118, 119, 120, 121, 122] (by decide +kernel) (by decide +kernel)
set_option maxRecDepth 20000 in
theorem gX5_digest_X5_ruleTold : GoodIn wsX5_digest (wsV RX5 116 RX5 yX5_ruleTold wsX5_ruleTold) := goodIn_app (goodIn_of _ (by decide +kernel)) ggX5_digest_X5_ruleTold
set_option maxRecDepth 20000 in
theorem ggX5_digest_X5_keptSize : GoodIn wsX5_digest wsX5_keptSize := goodIn_r _ [37, 38, 39, 40, 41, 42, 43, 44, 45, 106, 107, 108, 109, 110, 111, 112, 113, 114, 115, 116, 117, 118, 119, 120, 121, 122] (by decide +kernel) (by decide +kernel)
set_option maxRecDepth 20000 in
theorem gX5_digest_X5_keptSize : GoodIn wsX5_digest (wsV RX5 143 RX5 yX5_keptSize wsX5_keptSize) := goodIn_app (goodIn_of _ (by decide +kernel)) ggX5_digest_X5_keptSize
set_option maxRecDepth 20000 in
theorem ggX5_digest_X5_keptPlace : GoodIn wsX5_digest wsX5_keptPlace := goodIn_r _ [55, 38, 56, 57, 12, 58, 59, 60, 41, 61, 62, 106, 107, 108, 109, 110, 111, 112, 113, 114, 115, 116, 117, 118, 119, 120, 121, 122] (by decide +kernel) (by decide +kernel)
set_option maxRecDepth 20000 in
theorem gX5_digest_X5_keptPlace : GoodIn wsX5_digest (wsV RX5 146 RX5 yX5_keptPlace wsX5_keptPlace) := goodIn_app (goodIn_of _ (by decide +kernel)) ggX5_digest_X5_keptPlace
set_option maxRecDepth 20000 in
theorem ggX5_digest_X5_wouldBe : GoodIn wsX5_digest wsX5_wouldBe := goodIn_r _ [66, 67, 68, 69, 70, 71, 12, 72, 73, 74, 75, 76, 20, 21, 22, 23, 4, 77, 78, 79, 80, 81, 82, 83, 84, 85, 6, 24, 25, 26, 27, 5, 28, 29, 30, 31, 32, 33, 39, 40, 41, 42, 43, 44, 45, 86, 87, 88, 89, 90, 91, 92, 56, 57, 58, 93, 94, 95, 96, 97, 98, 99, 100, 101, 106, 107, 108, 109, 110, 111, 112, 113, 114, 115, 116, 117, 118, 119, 120, 121, 122] (by decide +kernel) (by decide +kernel)
set_option maxRecDepth 20000 in
theorem gX5_digest_X5_wouldBe : GoodIn wsX5_digest (wsV RX5 158 RX5 yX5_wouldBe wsX5_wouldBe) := goodIn_app (goodIn_of _ (by decide +kernel)) ggX5_digest_X5_wouldBe
set_option maxRecDepth 20000 in
theorem ggX5_digest_X5_leastDish : GoodIn wsX5_digest wsX5_leastDish := goodIn_r _ [105, 6, 32, 20, 21, 22, 12, 23, 4, 24, 25, 26, 27, 5, 39, 40, 41, 42, 43, 44, 45, 106, 107, 108, 109, 110, 111, 112, 113, 114, 115, 116, 117, 118, 119, 120, 121, 122] (by decide +kernel) (by decide +kernel)
set_option maxRecDepth 20000 in
theorem gX5_digest_X5_leastDish : GoodIn wsX5_digest (wsV RX5 161 RX5 yX5_leastDish wsX5_leastDish) := goodIn_app (goodIn_of _ (by decide +kernel)) ggX5_digest_X5_leastDish
theorem dX5_digest_0 : decode cX5_digest 0 = .ok (.aload_n 0, 1) := by decide +kernel
theorem dX5_digest_1 : decode cX5_digest 1 = .ok (.iconst 0, 1) := by decide +kernel
theorem dX5_digest_2 : decode cX5_digest 2 = .ok (.putfield 28, 3) := by decide +kernel
theorem dX5_digest_5 : decode cX5_digest 5 = .ok (.ldc2_w 170, 3) := by decide +kernel
theorem dX5_digest_8 : decode cX5_digest 8 = .ok (.lstore_n 1, 1) := by decide +kernel
theorem dX5_digest_9 : decode cX5_digest 9 = .ok (.iconst 0, 1) := by decide +kernel
theorem dX5_digest_10 : decode cX5_digest 10 = .ok (.istore_n 3, 1) := by decide +kernel
theorem dX5_digest_11 : decode cX5_digest 11 = .ok (.iload_n 3, 1) := by decide +kernel
theorem dX5_digest_12 : decode cX5_digest 12 = .ok (.bipush 7, 2) := by decide +kernel
theorem dX5_digest_14 : decode cX5_digest 14 = .ok (.if_icmp .ge 22, 3) := by decide +kernel
theorem dX5_digest_17 : decode cX5_digest 17 = .ok (.lload_n 1, 1) := by decide +kernel
theorem dX5_digest_18 : decode cX5_digest 18 = .ok (.ldc2_w 172, 3) := by decide +kernel
theorem dX5_digest_21 : decode cX5_digest 21 = .ok (.lmul, 1) := by decide +kernel
theorem dX5_digest_22 : decode cX5_digest 22 = .ok (.aload_n 0, 1) := by decide +kernel
theorem dX5_digest_23 : decode cX5_digest 23 = .ok (.iload_n 3, 1) := by decide +kernel
theorem dX5_digest_24 : decode cX5_digest 24 = .ok (.invokevirtual 152, 3) := by decide +kernel
theorem dX5_digest_27 : decode cX5_digest 27 = .ok (.i2l, 1) := by decide +kernel
theorem dX5_digest_28 : decode cX5_digest 28 = .ok (.ladd, 1) := by decide +kernel
theorem dX5_digest_29 : decode cX5_digest 29 = .ok (.lstore_n 1, 1) := by decide +kernel
theorem dX5_digest_30 : decode cX5_digest 30 = .ok (.iinc 3 1, 3) := by decide +kernel
theorem dX5_digest_33 : decode cX5_digest 33 = .ok (.goto (-22), 3) := by decide +kernel
theorem dX5_digest_36 : decode cX5_digest 36 = .ok (.iconst 0, 1) := by decide +kernel
theorem dX5_digest_37 : decode cX5_digest 37 = .ok (.istore_n 3, 1) := by decide +kernel
theorem dX5_digest_38 : decode cX5_digest 38 = .ok (.iload_n 3, 1) := by decide +kernel
theorem dX5_digest_39 : decode cX5_digest 39 = .ok (.aload_n 0, 1) := by decide +kernel
theorem dX5_digest_40 : decode cX5_digest 40 = .ok (.getfield 39, 3) := by decide +kernel
theorem dX5_digest_43 : decode cX5_digest 43 = .ok (.if_icmp .ge 23, 3) := by decide +kernel
theorem dX5_digest_46 : decode cX5_digest 46 = .ok (.lload_n 1, 1) := by decide +kernel
theorem dX5_digest_47 : decode cX5_digest 47 = .ok (.ldc2_w 172, 3) := by decide +kernel
theorem dX5_digest_50 : decode cX5_digest 50 = .ok (.lmul, 1) := by decide +kernel
theorem dX5_digest_51 : decode cX5_digest 51 = .ok (.aload_n 0, 1) := by decide +kernel
theorem dX5_digest_52 : decode cX5_digest 52 = .ok (.getfield 9, 3) := by decide +kernel
theorem dX5_digest_55 : decode cX5_digest 55 = .ok (.iload_n 3, 1) := by decide +kernel
theorem dX5_digest_56 : decode cX5_digest 56 = .ok (.iaload, 1) := by decide +kernel
theorem dX5_digest_57 : decode cX5_digest 57 = .ok (.i2l, 1) := by decide +kernel
theorem dX5_digest_58 : decode cX5_digest 58 = .ok (.ladd, 1) := by decide +kernel
theorem dX5_digest_59 : decode cX5_digest 59 = .ok (.lstore_n 1, 1) := by decide +kernel
theorem dX5_digest_60 : decode cX5_digest 60 = .ok (.iinc 3 1, 3) := by decide +kernel
theorem dX5_digest_63 : decode cX5_digest 63 = .ok (.goto (-25), 3) := by decide +kernel
theorem dX5_digest_66 : decode cX5_digest 66 = .ok (.iconst 0, 1) := by decide +kernel
theorem dX5_digest_67 : decode cX5_digest 67 = .ok (.istore_n 3, 1) := by decide +kernel
theorem dX5_digest_68 : decode cX5_digest 68 = .ok (.iload_n 3, 1) := by decide +kernel
theorem dX5_digest_69 : decode cX5_digest 69 = .ok (.aload_n 0, 1) := by decide +kernel
theorem dX5_digest_70 : decode cX5_digest 70 = .ok (.getfield 32, 3) := by decide +kernel
theorem dX5_digest_73 : decode cX5_digest 73 = .ok (.if_icmp .ge 39, 3) := by decide +kernel
theorem dX5_digest_76 : decode cX5_digest 76 = .ok (.iconst 0, 1) := by decide +kernel
theorem dX5_digest_77 : decode cX5_digest 77 = .ok (.istore 4, 2) := by decide +kernel
theorem dX5_digest_79 : decode cX5_digest 79 = .ok (.iload 4, 2) := by decide +kernel
theorem dX5_digest_81 : decode cX5_digest 81 = .ok (.iconst 5, 1) := by decide +kernel
theorem dX5_digest_82 : decode cX5_digest 82 = .ok (.if_icmp .ge 24, 3) := by decide +kernel
theorem dX5_digest_85 : decode cX5_digest 85 = .ok (.lload_n 1, 1) := by decide +kernel
theorem dX5_digest_86 : decode cX5_digest 86 = .ok (.ldc2_w 172, 3) := by decide +kernel
theorem dX5_digest_89 : decode cX5_digest 89 = .ok (.lmul, 1) := by decide +kernel
theorem dX5_digest_90 : decode cX5_digest 90 = .ok (.aload_n 0, 1) := by decide +kernel
theorem dX5_digest_91 : decode cX5_digest 91 = .ok (.iload_n 3, 1) := by decide +kernel
theorem dX5_digest_92 : decode cX5_digest 92 = .ok (.iload 4, 2) := by decide +kernel
theorem dX5_digest_94 : decode cX5_digest 94 = .ok (.invokevirtual 116, 3) := by decide +kernel
theorem dX5_digest_97 : decode cX5_digest 97 = .ok (.i2l, 1) := by decide +kernel
theorem dX5_digest_98 : decode cX5_digest 98 = .ok (.ladd, 1) := by decide +kernel
theorem dX5_digest_99 : decode cX5_digest 99 = .ok (.lstore_n 1, 1) := by decide +kernel
theorem dX5_digest_100 : decode cX5_digest 100 = .ok (.iinc 4 1, 3) := by decide +kernel
theorem dX5_digest_103 : decode cX5_digest 103 = .ok (.goto (-24), 3) := by decide +kernel
theorem dX5_digest_106 : decode cX5_digest 106 = .ok (.iinc 3 1, 3) := by decide +kernel
theorem dX5_digest_109 : decode cX5_digest 109 = .ok (.goto (-41), 3) := by decide +kernel
theorem dX5_digest_112 : decode cX5_digest 112 = .ok (.iconst 0, 1) := by decide +kernel
theorem dX5_digest_113 : decode cX5_digest 113 = .ok (.istore_n 3, 1) := by decide +kernel
theorem dX5_digest_114 : decode cX5_digest 114 = .ok (.iload_n 3, 1) := by decide +kernel
theorem dX5_digest_115 : decode cX5_digest 115 = .ok (.aload_n 0, 1) := by decide +kernel
theorem dX5_digest_116 : decode cX5_digest 116 = .ok (.invokevirtual 143, 3) := by decide +kernel
theorem dX5_digest_119 : decode cX5_digest 119 = .ok (.if_icmp .ge 22, 3) := by decide +kernel
theorem dX5_digest_122 : decode cX5_digest 122 = .ok (.lload_n 1, 1) := by decide +kernel
theorem dX5_digest_123 : decode cX5_digest 123 = .ok (.ldc2_w 172, 3) := by decide +kernel
theorem dX5_digest_126 : decode cX5_digest 126 = .ok (.lmul, 1) := by decide +kernel
theorem dX5_digest_127 : decode cX5_digest 127 = .ok (.aload_n 0, 1) := by decide +kernel
theorem dX5_digest_128 : decode cX5_digest 128 = .ok (.iload_n 3, 1) := by decide +kernel
theorem dX5_digest_129 : decode cX5_digest 129 = .ok (.invokevirtual 146, 3) := by decide +kernel
theorem dX5_digest_132 : decode cX5_digest 132 = .ok (.i2l, 1) := by decide +kernel
theorem dX5_digest_133 : decode cX5_digest 133 = .ok (.ladd, 1) := by decide +kernel
theorem dX5_digest_134 : decode cX5_digest 134 = .ok (.lstore_n 1, 1) := by decide +kernel
theorem dX5_digest_135 : decode cX5_digest 135 = .ok (.iinc 3 1, 3) := by decide +kernel
theorem dX5_digest_138 : decode cX5_digest 138 = .ok (.goto (-24), 3) := by decide +kernel
theorem dX5_digest_141 : decode cX5_digest 141 = .ok (.iconst 0, 1) := by decide +kernel
theorem dX5_digest_142 : decode cX5_digest 142 = .ok (.istore_n 3, 1) := by decide +kernel
theorem dX5_digest_143 : decode cX5_digest 143 = .ok (.iload_n 3, 1) := by decide +kernel
theorem dX5_digest_144 : decode cX5_digest 144 = .ok (.iconst 5, 1) := by decide +kernel
theorem dX5_digest_145 : decode cX5_digest 145 = .ok (.aload_n 0, 1) := by decide +kernel
theorem dX5_digest_146 : decode cX5_digest 146 = .ok (.getfield 128, 3) := by decide +kernel
theorem dX5_digest_149 : decode cX5_digest 149 = .ok (.imul, 1) := by decide +kernel
theorem dX5_digest_150 : decode cX5_digest 150 = .ok (.if_icmp .ge 23, 3) := by decide +kernel
theorem dX5_digest_153 : decode cX5_digest 153 = .ok (.lload_n 1, 1) := by decide +kernel
theorem dX5_digest_154 : decode cX5_digest 154 = .ok (.ldc2_w 172, 3) := by decide +kernel
theorem dX5_digest_157 : decode cX5_digest 157 = .ok (.lmul, 1) := by decide +kernel
theorem dX5_digest_158 : decode cX5_digest 158 = .ok (.aload_n 0, 1) := by decide +kernel
theorem dX5_digest_159 : decode cX5_digest 159 = .ok (.getfield 25, 3) := by decide +kernel
theorem dX5_digest_162 : decode cX5_digest 162 = .ok (.iload_n 3, 1) := by decide +kernel
theorem dX5_digest_163 : decode cX5_digest 163 = .ok (.iaload, 1) := by decide +kernel
theorem dX5_digest_164 : decode cX5_digest 164 = .ok (.i2l, 1) := by decide +kernel
theorem dX5_digest_165 : decode cX5_digest 165 = .ok (.ladd, 1) := by decide +kernel
theorem dX5_digest_166 : decode cX5_digest 166 = .ok (.lstore_n 1, 1) := by decide +kernel
theorem dX5_digest_167 : decode cX5_digest 167 = .ok (.iinc 3 1, 3) := by decide +kernel
theorem dX5_digest_170 : decode cX5_digest 170 = .ok (.goto (-27), 3) := by decide +kernel
theorem dX5_digest_173 : decode cX5_digest 173 = .ok (.iconst 0, 1) := by decide +kernel
theorem dX5_digest_174 : decode cX5_digest 174 = .ok (.istore_n 3, 1) := by decide +kernel
theorem dX5_digest_175 : decode cX5_digest 175 = .ok (.iload_n 3, 1) := by decide +kernel
theorem dX5_digest_176 : decode cX5_digest 176 = .ok (.iconst 5, 1) := by decide +kernel
theorem dX5_digest_177 : decode cX5_digest 177 = .ok (.if_icmp .ge 22, 3) := by decide +kernel
theorem dX5_digest_180 : decode cX5_digest 180 = .ok (.lload_n 1, 1) := by decide +kernel
theorem dX5_digest_181 : decode cX5_digest 181 = .ok (.ldc2_w 172, 3) := by decide +kernel
theorem dX5_digest_184 : decode cX5_digest 184 = .ok (.lmul, 1) := by decide +kernel
theorem dX5_digest_185 : decode cX5_digest 185 = .ok (.aload_n 0, 1) := by decide +kernel
theorem dX5_digest_186 : decode cX5_digest 186 = .ok (.iload_n 3, 1) := by decide +kernel
theorem dX5_digest_187 : decode cX5_digest 187 = .ok (.invokevirtual 158, 3) := by decide +kernel
theorem dX5_digest_190 : decode cX5_digest 190 = .ok (.i2l, 1) := by decide +kernel
theorem dX5_digest_191 : decode cX5_digest 191 = .ok (.ladd, 1) := by decide +kernel
theorem dX5_digest_192 : decode cX5_digest 192 = .ok (.lstore_n 1, 1) := by decide +kernel
theorem dX5_digest_193 : decode cX5_digest 193 = .ok (.iinc 3 1, 3) := by decide +kernel
theorem dX5_digest_196 : decode cX5_digest 196 = .ok (.goto (-21), 3) := by decide +kernel
theorem dX5_digest_199 : decode cX5_digest 199 = .ok (.lload_n 1, 1) := by decide +kernel
theorem dX5_digest_200 : decode cX5_digest 200 = .ok (.ldc2_w 172, 3) := by decide +kernel
theorem dX5_digest_203 : decode cX5_digest 203 = .ok (.lmul, 1) := by decide +kernel
theorem dX5_digest_204 : decode cX5_digest 204 = .ok (.aload_n 0, 1) := by decide +kernel
theorem dX5_digest_205 : decode cX5_digest 205 = .ok (.invokevirtual 161, 3) := by decide +kernel
theorem dX5_digest_208 : decode cX5_digest 208 = .ok (.i2l, 1) := by decide +kernel
theorem dX5_digest_209 : decode cX5_digest 209 = .ok (.ladd, 1) := by decide +kernel
theorem dX5_digest_210 : decode cX5_digest 210 = .ok (.lreturn, 1) := by decide +kernel
theorem dJ6_numberOfTrailingZeros_0f7a4_0 : decode cJ6_numberOfTrailingZeros_0f7a4 0 = .ok (.iload_n 0, 1) := by decide +kernel
theorem dJ6_numberOfTrailingZeros_0f7a4_1 : decode cJ6_numberOfTrailingZeros_0f7a4 1 = .ok (.iconst (-1), 1) := by decide +kernel
theorem dJ6_numberOfTrailingZeros_0f7a4_2 : decode cJ6_numberOfTrailingZeros_0f7a4 2 = .ok (.ixor, 1) := by decide +kernel
theorem dJ6_numberOfTrailingZeros_0f7a4_3 : decode cJ6_numberOfTrailingZeros_0f7a4 3 = .ok (.iload_n 0, 1) := by decide +kernel
theorem dJ6_numberOfTrailingZeros_0f7a4_4 : decode cJ6_numberOfTrailingZeros_0f7a4 4 = .ok (.iconst 1, 1) := by decide +kernel
theorem dJ6_numberOfTrailingZeros_0f7a4_5 : decode cJ6_numberOfTrailingZeros_0f7a4 5 = .ok (.isub, 1) := by decide +kernel
theorem dJ6_numberOfTrailingZeros_0f7a4_6 : decode cJ6_numberOfTrailingZeros_0f7a4 6 = .ok (.iand, 1) := by decide +kernel
theorem dJ6_numberOfTrailingZeros_0f7a4_7 : decode cJ6_numberOfTrailingZeros_0f7a4 7 = .ok (.istore_n 0, 1) := by decide +kernel
theorem dJ6_numberOfTrailingZeros_0f7a4_8 : decode cJ6_numberOfTrailingZeros_0f7a4 8 = .ok (.iload_n 0, 1) := by decide +kernel
theorem dJ6_numberOfTrailingZeros_0f7a4_9 : decode cJ6_numberOfTrailingZeros_0f7a4 9 = .ok (.ifCond .gt 8, 3) := by decide +kernel
theorem dJ6_numberOfTrailingZeros_0f7a4_12 : decode cJ6_numberOfTrailingZeros_0f7a4 12 = .ok (.iload_n 0, 1) := by decide +kernel
theorem dJ6_numberOfTrailingZeros_0f7a4_13 : decode cJ6_numberOfTrailingZeros_0f7a4 13 = .ok (.bipush 32, 2) := by decide +kernel
theorem dJ6_numberOfTrailingZeros_0f7a4_15 : decode cJ6_numberOfTrailingZeros_0f7a4 15 = .ok (.iand, 1) := by decide +kernel
theorem dJ6_numberOfTrailingZeros_0f7a4_16 : decode cJ6_numberOfTrailingZeros_0f7a4 16 = .ok (.ireturn, 1) := by decide +kernel
theorem dJ6_numberOfTrailingZeros_0f7a4_17 : decode cJ6_numberOfTrailingZeros_0f7a4 17 = .ok (.iconst 1, 1) := by decide +kernel
theorem dJ6_numberOfTrailingZeros_0f7a4_18 : decode cJ6_numberOfTrailingZeros_0f7a4 18 = .ok (.istore_n 1, 1) := by decide +kernel
theorem dJ6_numberOfTrailingZeros_0f7a4_19 : decode cJ6_numberOfTrailingZeros_0f7a4 19 = .ok (.iload_n 0, 1) := by decide +kernel
theorem dJ6_numberOfTrailingZeros_0f7a4_20 : decode cJ6_numberOfTrailingZeros_0f7a4 20 = .ok (.ldc_w 264, 3) := by decide +kernel
theorem dJ6_numberOfTrailingZeros_0f7a4_23 : decode cJ6_numberOfTrailingZeros_0f7a4 23 = .ok (.if_icmp .le 11, 3) := by decide +kernel
theorem dJ6_numberOfTrailingZeros_0f7a4_26 : decode cJ6_numberOfTrailingZeros_0f7a4 26 = .ok (.iinc 1 16, 3) := by decide +kernel
theorem dJ6_numberOfTrailingZeros_0f7a4_29 : decode cJ6_numberOfTrailingZeros_0f7a4 29 = .ok (.iload_n 0, 1) := by decide +kernel
theorem dJ6_numberOfTrailingZeros_0f7a4_30 : decode cJ6_numberOfTrailingZeros_0f7a4 30 = .ok (.bipush 16, 2) := by decide +kernel
theorem dJ6_numberOfTrailingZeros_0f7a4_32 : decode cJ6_numberOfTrailingZeros_0f7a4 32 = .ok (.iushr, 1) := by decide +kernel
theorem dJ6_numberOfTrailingZeros_0f7a4_33 : decode cJ6_numberOfTrailingZeros_0f7a4 33 = .ok (.istore_n 0, 1) := by decide +kernel
theorem dJ6_numberOfTrailingZeros_0f7a4_34 : decode cJ6_numberOfTrailingZeros_0f7a4 34 = .ok (.iload_n 0, 1) := by decide +kernel
theorem dJ6_numberOfTrailingZeros_0f7a4_35 : decode cJ6_numberOfTrailingZeros_0f7a4 35 = .ok (.sipush 256, 3) := by decide +kernel
theorem dJ6_numberOfTrailingZeros_0f7a4_38 : decode cJ6_numberOfTrailingZeros_0f7a4 38 = .ok (.if_icmp .le 11, 3) := by decide +kernel
theorem dJ6_numberOfTrailingZeros_0f7a4_41 : decode cJ6_numberOfTrailingZeros_0f7a4 41 = .ok (.iinc 1 8, 3) := by decide +kernel
theorem dJ6_numberOfTrailingZeros_0f7a4_44 : decode cJ6_numberOfTrailingZeros_0f7a4 44 = .ok (.iload_n 0, 1) := by decide +kernel
theorem dJ6_numberOfTrailingZeros_0f7a4_45 : decode cJ6_numberOfTrailingZeros_0f7a4 45 = .ok (.bipush 8, 2) := by decide +kernel
theorem dJ6_numberOfTrailingZeros_0f7a4_47 : decode cJ6_numberOfTrailingZeros_0f7a4 47 = .ok (.iushr, 1) := by decide +kernel
theorem dJ6_numberOfTrailingZeros_0f7a4_48 : decode cJ6_numberOfTrailingZeros_0f7a4 48 = .ok (.istore_n 0, 1) := by decide +kernel
theorem dJ6_numberOfTrailingZeros_0f7a4_49 : decode cJ6_numberOfTrailingZeros_0f7a4 49 = .ok (.iload_n 0, 1) := by decide +kernel
theorem dJ6_numberOfTrailingZeros_0f7a4_50 : decode cJ6_numberOfTrailingZeros_0f7a4 50 = .ok (.bipush 16, 2) := by decide +kernel
theorem dJ6_numberOfTrailingZeros_0f7a4_52 : decode cJ6_numberOfTrailingZeros_0f7a4 52 = .ok (.if_icmp .le 10, 3) := by decide +kernel
theorem dJ6_numberOfTrailingZeros_0f7a4_55 : decode cJ6_numberOfTrailingZeros_0f7a4 55 = .ok (.iinc 1 4, 3) := by decide +kernel
theorem dJ6_numberOfTrailingZeros_0f7a4_58 : decode cJ6_numberOfTrailingZeros_0f7a4 58 = .ok (.iload_n 0, 1) := by decide +kernel
theorem dJ6_numberOfTrailingZeros_0f7a4_59 : decode cJ6_numberOfTrailingZeros_0f7a4 59 = .ok (.iconst 4, 1) := by decide +kernel
theorem dJ6_numberOfTrailingZeros_0f7a4_60 : decode cJ6_numberOfTrailingZeros_0f7a4 60 = .ok (.iushr, 1) := by decide +kernel
theorem dJ6_numberOfTrailingZeros_0f7a4_61 : decode cJ6_numberOfTrailingZeros_0f7a4 61 = .ok (.istore_n 0, 1) := by decide +kernel
theorem dJ6_numberOfTrailingZeros_0f7a4_62 : decode cJ6_numberOfTrailingZeros_0f7a4 62 = .ok (.iload_n 0, 1) := by decide +kernel
theorem dJ6_numberOfTrailingZeros_0f7a4_63 : decode cJ6_numberOfTrailingZeros_0f7a4 63 = .ok (.iconst 4, 1) := by decide +kernel
theorem dJ6_numberOfTrailingZeros_0f7a4_64 : decode cJ6_numberOfTrailingZeros_0f7a4 64 = .ok (.if_icmp .le 10, 3) := by decide +kernel
theorem dJ6_numberOfTrailingZeros_0f7a4_67 : decode cJ6_numberOfTrailingZeros_0f7a4 67 = .ok (.iinc 1 2, 3) := by decide +kernel
theorem dJ6_numberOfTrailingZeros_0f7a4_70 : decode cJ6_numberOfTrailingZeros_0f7a4 70 = .ok (.iload_n 0, 1) := by decide +kernel
theorem dJ6_numberOfTrailingZeros_0f7a4_71 : decode cJ6_numberOfTrailingZeros_0f7a4 71 = .ok (.iconst 2, 1) := by decide +kernel
theorem dJ6_numberOfTrailingZeros_0f7a4_72 : decode cJ6_numberOfTrailingZeros_0f7a4 72 = .ok (.iushr, 1) := by decide +kernel
theorem dJ6_numberOfTrailingZeros_0f7a4_73 : decode cJ6_numberOfTrailingZeros_0f7a4 73 = .ok (.istore_n 0, 1) := by decide +kernel
theorem dJ6_numberOfTrailingZeros_0f7a4_74 : decode cJ6_numberOfTrailingZeros_0f7a4 74 = .ok (.iload_n 1, 1) := by decide +kernel
theorem dJ6_numberOfTrailingZeros_0f7a4_75 : decode cJ6_numberOfTrailingZeros_0f7a4 75 = .ok (.iload_n 0, 1) := by decide +kernel
theorem dJ6_numberOfTrailingZeros_0f7a4_76 : decode cJ6_numberOfTrailingZeros_0f7a4 76 = .ok (.iconst 1, 1) := by decide +kernel
theorem dJ6_numberOfTrailingZeros_0f7a4_77 : decode cJ6_numberOfTrailingZeros_0f7a4 77 = .ok (.iushr, 1) := by decide +kernel
theorem dJ6_numberOfTrailingZeros_0f7a4_78 : decode cJ6_numberOfTrailingZeros_0f7a4 78 = .ok (.iadd, 1) := by decide +kernel
theorem dJ6_numberOfTrailingZeros_0f7a4_79 : decode cJ6_numberOfTrailingZeros_0f7a4 79 = .ok (.ireturn, 1) := by decide +kernel
theorem dJ6_bitCount_0f7a4_0 : decode cJ6_bitCount_0f7a4 0 = .ok (.iload_n 0, 1) := by decide +kernel
theorem dJ6_bitCount_0f7a4_1 : decode cJ6_bitCount_0f7a4 1 = .ok (.iload_n 0, 1) := by decide +kernel
theorem dJ6_bitCount_0f7a4_2 : decode cJ6_bitCount_0f7a4 2 = .ok (.iconst 1, 1) := by decide +kernel
theorem dJ6_bitCount_0f7a4_3 : decode cJ6_bitCount_0f7a4 3 = .ok (.iushr, 1) := by decide +kernel
theorem dJ6_bitCount_0f7a4_4 : decode cJ6_bitCount_0f7a4 4 = .ok (.ldc_w 265, 3) := by decide +kernel
theorem dJ6_bitCount_0f7a4_7 : decode cJ6_bitCount_0f7a4 7 = .ok (.iand, 1) := by decide +kernel
theorem dJ6_bitCount_0f7a4_8 : decode cJ6_bitCount_0f7a4 8 = .ok (.isub, 1) := by decide +kernel
theorem dJ6_bitCount_0f7a4_9 : decode cJ6_bitCount_0f7a4 9 = .ok (.istore_n 0, 1) := by decide +kernel
theorem dJ6_bitCount_0f7a4_10 : decode cJ6_bitCount_0f7a4 10 = .ok (.iload_n 0, 1) := by decide +kernel
theorem dJ6_bitCount_0f7a4_11 : decode cJ6_bitCount_0f7a4 11 = .ok (.ldc_w 266, 3) := by decide +kernel
theorem dJ6_bitCount_0f7a4_14 : decode cJ6_bitCount_0f7a4 14 = .ok (.iand, 1) := by decide +kernel
theorem dJ6_bitCount_0f7a4_15 : decode cJ6_bitCount_0f7a4 15 = .ok (.iload_n 0, 1) := by decide +kernel
theorem dJ6_bitCount_0f7a4_16 : decode cJ6_bitCount_0f7a4 16 = .ok (.iconst 2, 1) := by decide +kernel
theorem dJ6_bitCount_0f7a4_17 : decode cJ6_bitCount_0f7a4 17 = .ok (.iushr, 1) := by decide +kernel
theorem dJ6_bitCount_0f7a4_18 : decode cJ6_bitCount_0f7a4 18 = .ok (.ldc_w 266, 3) := by decide +kernel
theorem dJ6_bitCount_0f7a4_21 : decode cJ6_bitCount_0f7a4 21 = .ok (.iand, 1) := by decide +kernel
theorem dJ6_bitCount_0f7a4_22 : decode cJ6_bitCount_0f7a4 22 = .ok (.iadd, 1) := by decide +kernel
theorem dJ6_bitCount_0f7a4_23 : decode cJ6_bitCount_0f7a4 23 = .ok (.istore_n 0, 1) := by decide +kernel
theorem dJ6_bitCount_0f7a4_24 : decode cJ6_bitCount_0f7a4 24 = .ok (.iload_n 0, 1) := by decide +kernel
theorem dJ6_bitCount_0f7a4_25 : decode cJ6_bitCount_0f7a4 25 = .ok (.iload_n 0, 1) := by decide +kernel
theorem dJ6_bitCount_0f7a4_26 : decode cJ6_bitCount_0f7a4 26 = .ok (.iconst 4, 1) := by decide +kernel
theorem dJ6_bitCount_0f7a4_27 : decode cJ6_bitCount_0f7a4 27 = .ok (.iushr, 1) := by decide +kernel
theorem dJ6_bitCount_0f7a4_28 : decode cJ6_bitCount_0f7a4 28 = .ok (.iadd, 1) := by decide +kernel
theorem dJ6_bitCount_0f7a4_29 : decode cJ6_bitCount_0f7a4 29 = .ok (.ldc_w 267, 3) := by decide +kernel
theorem dJ6_bitCount_0f7a4_32 : decode cJ6_bitCount_0f7a4 32 = .ok (.iand, 1) := by decide +kernel
theorem dJ6_bitCount_0f7a4_33 : decode cJ6_bitCount_0f7a4 33 = .ok (.istore_n 0, 1) := by decide +kernel
theorem dJ6_bitCount_0f7a4_34 : decode cJ6_bitCount_0f7a4 34 = .ok (.iload_n 0, 1) := by decide +kernel
theorem dJ6_bitCount_0f7a4_35 : decode cJ6_bitCount_0f7a4 35 = .ok (.iload_n 0, 1) := by decide +kernel
theorem dJ6_bitCount_0f7a4_36 : decode cJ6_bitCount_0f7a4 36 = .ok (.bipush 8, 2) := by decide +kernel
theorem dJ6_bitCount_0f7a4_38 : decode cJ6_bitCount_0f7a4 38 = .ok (.iushr, 1) := by decide +kernel
theorem dJ6_bitCount_0f7a4_39 : decode cJ6_bitCount_0f7a4 39 = .ok (.iadd, 1) := by decide +kernel
theorem dJ6_bitCount_0f7a4_40 : decode cJ6_bitCount_0f7a4 40 = .ok (.istore_n 0, 1) := by decide +kernel
theorem dJ6_bitCount_0f7a4_41 : decode cJ6_bitCount_0f7a4 41 = .ok (.iload_n 0, 1) := by decide +kernel
theorem dJ6_bitCount_0f7a4_42 : decode cJ6_bitCount_0f7a4 42 = .ok (.iload_n 0, 1) := by decide +kernel
theorem dJ6_bitCount_0f7a4_43 : decode cJ6_bitCount_0f7a4 43 = .ok (.bipush 16, 2) := by decide +kernel
theorem dJ6_bitCount_0f7a4_45 : decode cJ6_bitCount_0f7a4 45 = .ok (.iushr, 1) := by decide +kernel
theorem dJ6_bitCount_0f7a4_46 : decode cJ6_bitCount_0f7a4 46 = .ok (.iadd, 1) := by decide +kernel
theorem dJ6_bitCount_0f7a4_47 : decode cJ6_bitCount_0f7a4 47 = .ok (.istore_n 0, 1) := by decide +kernel
theorem dJ6_bitCount_0f7a4_48 : decode cJ6_bitCount_0f7a4 48 = .ok (.iload_n 0, 1) := by decide +kernel
theorem dJ6_bitCount_0f7a4_49 : decode cJ6_bitCount_0f7a4 49 = .ok (.bipush 63, 2) := by decide +kernel
theorem dJ6_bitCount_0f7a4_51 : decode cJ6_bitCount_0f7a4 51 = .ok (.iand, 1) := by decide +kernel
theorem dJ6_bitCount_0f7a4_52 : decode cJ6_bitCount_0f7a4 52 = .ok (.ireturn, 1) := by decide +kernel
theorem dJ9_max_7cf53_0 : decode cJ9_max_7cf53 0 = .ok (.iload_n 0, 1) := by decide +kernel
theorem dJ9_max_7cf53_1 : decode cJ9_max_7cf53 1 = .ok (.iload_n 1, 1) := by decide +kernel
theorem dJ9_max_7cf53_2 : decode cJ9_max_7cf53 2 = .ok (.if_icmp .lt 7, 3) := by decide +kernel
theorem dJ9_max_7cf53_5 : decode cJ9_max_7cf53 5 = .ok (.iload_n 0, 1) := by decide +kernel
theorem dJ9_max_7cf53_6 : decode cJ9_max_7cf53 6 = .ok (.goto 4, 3) := by decide +kernel
theorem dJ9_max_7cf53_9 : decode cJ9_max_7cf53 9 = .ok (.iload_n 1, 1) := by decide +kernel
theorem dJ9_max_7cf53_10 : decode cJ9_max_7cf53 10 = .ok (.ireturn, 1) := by decide +kernel
theorem dJ9_min_7cf53_0 : decode cJ9_min_7cf53 0 = .ok (.iload_n 0, 1) := by decide +kernel
theorem dJ9_min_7cf53_1 : decode cJ9_min_7cf53 1 = .ok (.iload_n 1, 1) := by decide +kernel
theorem dJ9_min_7cf53_2 : decode cJ9_min_7cf53 2 = .ok (.if_icmp .gt 7, 3) := by decide +kernel
theorem dJ9_min_7cf53_5 : decode cJ9_min_7cf53 5 = .ok (.iload_n 0, 1) := by decide +kernel
theorem dJ9_min_7cf53_6 : decode cJ9_min_7cf53 6 = .ok (.goto 4, 3) := by decide +kernel
theorem dJ9_min_7cf53_9 : decode cJ9_min_7cf53 9 = .ok (.iload_n 1, 1) := by decide +kernel
theorem dJ9_min_7cf53_10 : decode cJ9_min_7cf53 10 = .ok (.ireturn, 1) := by decide +kernel
set_option maxRecDepth 20000 in
theorem ggL_add_X4_add : GoodIn wsL_add wsX4_add := goodIn_ca (goodIn_ca (goodIn_r _ [7, 8, 9, 10, 11, 12, 13, 14, 6, 15, 16, 17, 18, 19, 20, 21, 22, 23, 24, 25, 26, 27, 28, 29, 30, 31, 32, 33, 34, 35, 36, 37, 38, 39, 40] (by decide +kernel) (by decide +kernel)) (goodIn_sub (fun _ h => List.mem_cons_of_mem _ (List.mem_append_left _ (List.mem_append_right _ h))) (by decide +kernel))) (goodIn_sub (fun _ h => List.mem_cons_of_mem _ (List.mem_append_right _ h)) (by decide +kernel))
set_option maxRecDepth 20000 in
theorem gL_add_X4_add : GoodIn wsL_add (wsV RL 7 RX4 yX4_add wsX4_add) := goodIn_app (goodIn_of _ (by decide +kernel)) ggL_add_X4_add
theorem dL_add_0 : decode cL_add 0 = .ok (.aload_n 2, 1) := by decide +kernel
theorem dL_add_1 : decode cL_add 1 = .ok (.iconst 0, 1) := by decide +kernel
theorem dL_add_2 : decode cL_add 2 = .ok (.aload_n 0, 1) := by decide +kernel
theorem dL_add_3 : decode cL_add 3 = .ok (.iload_n 1, 1) := by decide +kernel
theorem dL_add_4 : decode cL_add 4 = .ok (.invokevirtual 7, 3) := by decide +kernel
theorem dL_add_7 : decode cL_add 7 = .ok (.i2l, 1) := by decide +kernel
theorem dL_add_8 : decode cL_add 8 = .ok (.lastore, 1) := by decide +kernel
theorem dL_add_9 : decode cL_add 9 = .ok (.goto 9, 3) := by decide +kernel
theorem dL_add_12 : decode cL_add 12 = .ok (.astore_n 3, 1) := by decide +kernel
theorem dL_add_13 : decode cL_add 13 = .ok (.iconst 1, 1) := by decide +kernel
theorem dL_add_14 : decode cL_add 14 = .ok (.ireturn, 1) := by decide +kernel
theorem dL_add_15 : decode cL_add 15 = .ok (.astore_n 3, 1) := by decide +kernel
theorem dL_add_16 : decode cL_add 16 = .ok (.iconst 2, 1) := by decide +kernel
theorem dL_add_17 : decode cL_add 17 = .ok (.ireturn, 1) := by decide +kernel
theorem dL_add_18 : decode cL_add 18 = .ok (.iconst 0, 1) := by decide +kernel
theorem dL_add_19 : decode cL_add 19 = .ok (.ireturn, 1) := by decide +kernel
set_option maxRecDepth 20000 in
theorem ggL_drop_X4_drop : GoodIn wsL_drop wsX4_drop := goodIn_ca (goodIn_r _ [6, 7, 8, 9, 10, 11, 12, 13, 14, 15, 16, 17, 18, 19, 20, 21, 22, 23, 24, 25, 26, 27, 28, 29, 30, 31, 32, 33, 34] (by decide +kernel) (by decide +kernel)) (goodIn_sub (fun _ h => List.mem_cons_of_mem _ (List.mem_append_right _ h)) (by decide +kernel))
set_option maxRecDepth 20000 in
theorem gL_drop_X4_drop : GoodIn wsL_drop (wsV RL 17 RX4 yX4_drop wsX4_drop) := goodIn_app (goodIn_of _ (by decide +kernel)) ggL_drop_X4_drop
theorem dL_drop_0 : decode cL_drop 0 = .ok (.aload_n 2, 1) := by decide +kernel
theorem dL_drop_1 : decode cL_drop 1 = .ok (.iconst 0, 1) := by decide +kernel
theorem dL_drop_2 : decode cL_drop 2 = .ok (.aload_n 0, 1) := by decide +kernel
theorem dL_drop_3 : decode cL_drop 3 = .ok (.iload_n 1, 1) := by decide +kernel
theorem dL_drop_4 : decode cL_drop 4 = .ok (.invokevirtual 17, 3) := by decide +kernel
theorem dL_drop_7 : decode cL_drop 7 = .ok (.i2l, 1) := by decide +kernel
theorem dL_drop_8 : decode cL_drop 8 = .ok (.lastore, 1) := by decide +kernel
theorem dL_drop_9 : decode cL_drop 9 = .ok (.goto 6, 3) := by decide +kernel
theorem dL_drop_12 : decode cL_drop 12 = .ok (.astore_n 3, 1) := by decide +kernel
theorem dL_drop_13 : decode cL_drop 13 = .ok (.iconst 1, 1) := by decide +kernel
theorem dL_drop_14 : decode cL_drop 14 = .ok (.ireturn, 1) := by decide +kernel
theorem dL_drop_15 : decode cL_drop 15 = .ok (.iconst 0, 1) := by decide +kernel
theorem dL_drop_16 : decode cL_drop 16 = .ok (.ireturn, 1) := by decide +kernel
set_option maxRecDepth 20000 in
theorem ggL_kind_X4_kind : GoodIn wsL_kind wsX4_kind := goodIn_ca (goodIn_r _ [6, 7, 8, 9, 10, 11, 12, 13, 14, 15, 16, 17, 18, 19, 20, 21, 22, 23, 24, 25, 26, 27, 28, 29, 30] (by decide +kernel) (by decide +kernel)) (goodIn_sub (fun _ h => List.mem_cons_of_mem _ (List.mem_append_right _ h)) (by decide +kernel))
set_option maxRecDepth 20000 in
theorem gL_kind_X4_kind : GoodIn wsL_kind (wsV RL 20 RX4 yX4_kind wsX4_kind) := goodIn_app (goodIn_of _ (by decide +kernel)) ggL_kind_X4_kind
theorem dL_kind_0 : decode cL_kind 0 = .ok (.aload_n 2, 1) := by decide +kernel
theorem dL_kind_1 : decode cL_kind 1 = .ok (.iconst 0, 1) := by decide +kernel
theorem dL_kind_2 : decode cL_kind 2 = .ok (.aload_n 0, 1) := by decide +kernel
theorem dL_kind_3 : decode cL_kind 3 = .ok (.iload_n 1, 1) := by decide +kernel
theorem dL_kind_4 : decode cL_kind 4 = .ok (.invokevirtual 20, 3) := by decide +kernel
theorem dL_kind_7 : decode cL_kind 7 = .ok (.i2l, 1) := by decide +kernel
theorem dL_kind_8 : decode cL_kind 8 = .ok (.lastore, 1) := by decide +kernel
theorem dL_kind_9 : decode cL_kind 9 = .ok (.goto 6, 3) := by decide +kernel
theorem dL_kind_12 : decode cL_kind 12 = .ok (.astore_n 3, 1) := by decide +kernel
theorem dL_kind_13 : decode cL_kind 13 = .ok (.iconst 1, 1) := by decide +kernel
theorem dL_kind_14 : decode cL_kind 14 = .ok (.ireturn, 1) := by decide +kernel
theorem dL_kind_15 : decode cL_kind 15 = .ok (.iconst 0, 1) := by decide +kernel
theorem dL_kind_16 : decode cL_kind 16 = .ok (.ireturn, 1) := by decide +kernel
set_option maxRecDepth 20000 in
theorem ggL_rule_X4_rule : GoodIn wsL_rule wsX4_rule := goodIn_ca (goodIn_r _ [6, 7, 8, 9, 10, 11, 12, 13, 14, 15, 16, 17, 18, 19, 20, 21, 22, 23, 24, 25, 26, 27, 28, 29, 30, 31, 32, 33, 34] (by decide +kernel) (by decide +kernel)) (goodIn_sub (fun _ h => List.mem_cons_of_mem _ (List.mem_append_right _ h)) (by decide +kernel))
set_option maxRecDepth 20000 in
theorem gL_rule_X4_rule : GoodIn wsL_rule (wsV RL 23 RX4 yX4_rule wsX4_rule) := goodIn_app (goodIn_of _ (by decide +kernel)) ggL_rule_X4_rule
theorem dL_rule_0 : decode cL_rule 0 = .ok (.aload_n 1, 1) := by decide +kernel
theorem dL_rule_1 : decode cL_rule 1 = .ok (.iconst 0, 1) := by decide +kernel
theorem dL_rule_2 : decode cL_rule 2 = .ok (.aload_n 0, 1) := by decide +kernel
theorem dL_rule_3 : decode cL_rule 3 = .ok (.invokevirtual 23, 3) := by decide +kernel
theorem dL_rule_6 : decode cL_rule 6 = .ok (.i2l, 1) := by decide +kernel
theorem dL_rule_7 : decode cL_rule 7 = .ok (.lastore, 1) := by decide +kernel
theorem dL_rule_8 : decode cL_rule 8 = .ok (.goto 6, 3) := by decide +kernel
theorem dL_rule_11 : decode cL_rule 11 = .ok (.astore_n 2, 1) := by decide +kernel
theorem dL_rule_12 : decode cL_rule 12 = .ok (.iconst 1, 1) := by decide +kernel
theorem dL_rule_13 : decode cL_rule 13 = .ok (.ireturn, 1) := by decide +kernel
theorem dL_rule_14 : decode cL_rule 14 = .ok (.iconst 0, 1) := by decide +kernel
theorem dL_rule_15 : decode cL_rule 15 = .ok (.ireturn, 1) := by decide +kernel
set_option maxRecDepth 20000 in
theorem ggL_setNeeds_X4_setNeeds : GoodIn wsL_setNeeds wsX4_setNeeds := goodIn_ca (goodIn_ca (goodIn_r _ [7, 8, 9, 10, 11, 12, 13, 14, 15, 16, 17, 18, 19, 20, 6, 21, 22, 23, 24, 25, 26, 27, 28, 29, 30, 31, 32, 33, 34, 35, 36, 37, 38, 39, 40, 41, 42, 43, 44, 45, 46, 47, 48, 49, 50, 51, 52] (by decide +kernel) (by decide +kernel)) (goodIn_sub (fun _ h => List.mem_cons_of_mem _ (List.mem_append_left _ (List.mem_append_right _ h))) (by decide +kernel))) (goodIn_sub (fun _ h => List.mem_cons_of_mem _ (List.mem_append_right _ h)) (by decide +kernel))
set_option maxRecDepth 20000 in
theorem gL_setNeeds_X4_setNeeds : GoodIn wsL_setNeeds (wsV RL 27 RX4 yX4_setNeeds wsX4_setNeeds) := goodIn_app (goodIn_of _ (by decide +kernel)) ggL_setNeeds_X4_setNeeds
theorem dL_setNeeds_0 : decode cL_setNeeds 0 = .ok (.aload 4, 2) := by decide +kernel
theorem dL_setNeeds_2 : decode cL_setNeeds 2 = .ok (.iconst 0, 1) := by decide +kernel
theorem dL_setNeeds_3 : decode cL_setNeeds 3 = .ok (.aload_n 0, 1) := by decide +kernel
theorem dL_setNeeds_4 : decode cL_setNeeds 4 = .ok (.iload_n 1, 1) := by decide +kernel
theorem dL_setNeeds_5 : decode cL_setNeeds 5 = .ok (.iload_n 2, 1) := by decide +kernel
theorem dL_setNeeds_6 : decode cL_setNeeds 6 = .ok (.iload_n 3, 1) := by decide +kernel
theorem dL_setNeeds_7 : decode cL_setNeeds 7 = .ok (.invokevirtual 27, 3) := by decide +kernel
theorem dL_setNeeds_10 : decode cL_setNeeds 10 = .ok (.ifCond .eq 7, 3) := by decide +kernel
theorem dL_setNeeds_13 : decode cL_setNeeds 13 = .ok (.lconst 1, 1) := by decide +kernel
theorem dL_setNeeds_14 : decode cL_setNeeds 14 = .ok (.goto 4, 3) := by decide +kernel
theorem dL_setNeeds_17 : decode cL_setNeeds 17 = .ok (.lconst 0, 1) := by decide +kernel
theorem dL_setNeeds_18 : decode cL_setNeeds 18 = .ok (.lastore, 1) := by decide +kernel
theorem dL_setNeeds_19 : decode cL_setNeeds 19 = .ok (.goto 11, 3) := by decide +kernel
theorem dL_setNeeds_22 : decode cL_setNeeds 22 = .ok (.astore 5, 2) := by decide +kernel
theorem dL_setNeeds_24 : decode cL_setNeeds 24 = .ok (.iconst 1, 1) := by decide +kernel
theorem dL_setNeeds_25 : decode cL_setNeeds 25 = .ok (.ireturn, 1) := by decide +kernel
theorem dL_setNeeds_26 : decode cL_setNeeds 26 = .ok (.astore 5, 2) := by decide +kernel
theorem dL_setNeeds_28 : decode cL_setNeeds 28 = .ok (.iconst 2, 1) := by decide +kernel
theorem dL_setNeeds_29 : decode cL_setNeeds 29 = .ok (.ireturn, 1) := by decide +kernel
theorem dL_setNeeds_30 : decode cL_setNeeds 30 = .ok (.iconst 0, 1) := by decide +kernel
theorem dL_setNeeds_31 : decode cL_setNeeds 31 = .ok (.ireturn, 1) := by decide +kernel
set_option maxRecDepth 20000 in
theorem ggL_setSpares_X4_setSpares : GoodIn wsL_setSpares wsX4_setSpares := goodIn_ca (goodIn_ca (goodIn_r _ [7, 8, 9, 10, 11, 12, 13, 14, 15, 16, 17, 18, 19, 20, 6, 21, 22, 23, 24, 25, 26, 27, 28, 29, 30, 31, 32, 33, 34, 35, 36, 37, 38, 39, 40, 41, 42, 43, 44, 45, 46, 47, 48, 49, 50, 51, 52] (by decide +kernel) (by decide +kernel)) (goodIn_sub (fun _ h => List.mem_cons_of_mem _ (List.mem_append_left _ (List.mem_append_right _ h))) (by decide +kernel))) (goodIn_sub (fun _ h => List.mem_cons_of_mem _ (List.mem_append_right _ h)) (by decide +kernel))
set_option maxRecDepth 20000 in
theorem gL_setSpares_X4_setSpares : GoodIn wsL_setSpares (wsV RL 31 RX4 yX4_setSpares wsX4_setSpares) := goodIn_app (goodIn_of _ (by decide +kernel)) ggL_setSpares_X4_setSpares
theorem dL_setSpares_0 : decode cL_setSpares 0 = .ok (.aload 4, 2) := by decide +kernel
theorem dL_setSpares_2 : decode cL_setSpares 2 = .ok (.iconst 0, 1) := by decide +kernel
theorem dL_setSpares_3 : decode cL_setSpares 3 = .ok (.aload_n 0, 1) := by decide +kernel
theorem dL_setSpares_4 : decode cL_setSpares 4 = .ok (.iload_n 1, 1) := by decide +kernel
theorem dL_setSpares_5 : decode cL_setSpares 5 = .ok (.iload_n 2, 1) := by decide +kernel
theorem dL_setSpares_6 : decode cL_setSpares 6 = .ok (.iload_n 3, 1) := by decide +kernel
theorem dL_setSpares_7 : decode cL_setSpares 7 = .ok (.invokevirtual 31, 3) := by decide +kernel
theorem dL_setSpares_10 : decode cL_setSpares 10 = .ok (.ifCond .eq 7, 3) := by decide +kernel
theorem dL_setSpares_13 : decode cL_setSpares 13 = .ok (.lconst 1, 1) := by decide +kernel
theorem dL_setSpares_14 : decode cL_setSpares 14 = .ok (.goto 4, 3) := by decide +kernel
theorem dL_setSpares_17 : decode cL_setSpares 17 = .ok (.lconst 0, 1) := by decide +kernel
theorem dL_setSpares_18 : decode cL_setSpares 18 = .ok (.lastore, 1) := by decide +kernel
theorem dL_setSpares_19 : decode cL_setSpares 19 = .ok (.goto 11, 3) := by decide +kernel
theorem dL_setSpares_22 : decode cL_setSpares 22 = .ok (.astore 5, 2) := by decide +kernel
theorem dL_setSpares_24 : decode cL_setSpares 24 = .ok (.iconst 1, 1) := by decide +kernel
theorem dL_setSpares_25 : decode cL_setSpares 25 = .ok (.ireturn, 1) := by decide +kernel
theorem dL_setSpares_26 : decode cL_setSpares 26 = .ok (.astore 5, 2) := by decide +kernel
theorem dL_setSpares_28 : decode cL_setSpares 28 = .ok (.iconst 2, 1) := by decide +kernel
theorem dL_setSpares_29 : decode cL_setSpares 29 = .ok (.ireturn, 1) := by decide +kernel
theorem dL_setSpares_30 : decode cL_setSpares 30 = .ok (.iconst 0, 1) := by decide +kernel
theorem dL_setSpares_31 : decode cL_setSpares 31 = .ok (.ireturn, 1) := by decide +kernel
set_option maxRecDepth 20000 in
theorem ggL_told_X4_told : GoodIn wsL_told wsX4_told := goodIn_ca (goodIn_r _ [6, 7, 8, 9, 10, 11, 12, 13, 14, 15, 16, 17, 18, 5, 19, 20, 21, 22, 23, 24, 25, 26, 27, 28, 29, 30, 31, 32, 33, 34, 35, 36, 37, 38, 39, 40, 41, 42, 43, 44, 45, 46, 47, 48, 49, 50, 51, 52, 53, 54, 55, 56, 57, 58, 59, 60, 61, 62, 63, 64, 65, 66] (by decide +kernel) (by decide +kernel)) (goodIn_sub (fun _ h => List.mem_cons_of_mem _ (List.mem_append_right _ h)) (by decide +kernel))
set_option maxRecDepth 20000 in
theorem gL_told_X4_told : GoodIn wsL_told (wsV RL 34 RX4 yX4_told wsX4_told) := goodIn_app (goodIn_of _ (by decide +kernel)) ggL_told_X4_told
theorem dL_told_0 : decode cL_told 0 = .ok (.aload_n 3, 1) := by decide +kernel
theorem dL_told_1 : decode cL_told 1 = .ok (.iconst 0, 1) := by decide +kernel
theorem dL_told_2 : decode cL_told 2 = .ok (.aload_n 0, 1) := by decide +kernel
theorem dL_told_3 : decode cL_told 3 = .ok (.iload_n 1, 1) := by decide +kernel
theorem dL_told_4 : decode cL_told 4 = .ok (.iload_n 2, 1) := by decide +kernel
theorem dL_told_5 : decode cL_told 5 = .ok (.invokevirtual 34, 3) := by decide +kernel
theorem dL_told_8 : decode cL_told 8 = .ok (.i2l, 1) := by decide +kernel
theorem dL_told_9 : decode cL_told 9 = .ok (.lastore, 1) := by decide +kernel
theorem dL_told_10 : decode cL_told 10 = .ok (.goto 7, 3) := by decide +kernel
theorem dL_told_13 : decode cL_told 13 = .ok (.astore 4, 2) := by decide +kernel
theorem dL_told_15 : decode cL_told 15 = .ok (.iconst 1, 1) := by decide +kernel
theorem dL_told_16 : decode cL_told 16 = .ok (.ireturn, 1) := by decide +kernel
theorem dL_told_17 : decode cL_told 17 = .ok (.iconst 0, 1) := by decide +kernel
theorem dL_told_18 : decode cL_told 18 = .ok (.ireturn, 1) := by decide +kernel
set_option maxRecDepth 20000 in
theorem ggL_spoils_X4_spoils : GoodIn wsL_spoils wsX4_spoils := goodIn_ca (goodIn_r _ [6, 7, 8, 9, 10, 11, 12, 13, 14, 15, 16, 17, 18, 5, 19, 20, 21, 22, 23, 24, 25, 26, 27, 28, 29, 30, 31, 32, 33, 34, 35, 36, 37, 38, 39, 40, 41, 42, 43, 44, 45, 46, 47, 48, 49] (by decide +kernel) (by decide +kernel)) (goodIn_sub (fun _ h => List.mem_cons_of_mem _ (List.mem_append_right _ h)) (by decide +kernel))
set_option maxRecDepth 20000 in
theorem gL_spoils_X4_spoils : GoodIn wsL_spoils (wsV RL 38 RX4 yX4_spoils wsX4_spoils) := goodIn_app (goodIn_of _ (by decide +kernel)) ggL_spoils_X4_spoils
theorem dL_spoils_0 : decode cL_spoils 0 = .ok (.aload_n 2, 1) := by decide +kernel
theorem dL_spoils_1 : decode cL_spoils 1 = .ok (.iconst 0, 1) := by decide +kernel
theorem dL_spoils_2 : decode cL_spoils 2 = .ok (.aload_n 0, 1) := by decide +kernel
theorem dL_spoils_3 : decode cL_spoils 3 = .ok (.iload_n 1, 1) := by decide +kernel
theorem dL_spoils_4 : decode cL_spoils 4 = .ok (.invokevirtual 38, 3) := by decide +kernel
theorem dL_spoils_7 : decode cL_spoils 7 = .ok (.ifCond .eq 7, 3) := by decide +kernel
theorem dL_spoils_10 : decode cL_spoils 10 = .ok (.lconst 1, 1) := by decide +kernel
theorem dL_spoils_11 : decode cL_spoils 11 = .ok (.goto 4, 3) := by decide +kernel
theorem dL_spoils_14 : decode cL_spoils 14 = .ok (.lconst 0, 1) := by decide +kernel
theorem dL_spoils_15 : decode cL_spoils 15 = .ok (.lastore, 1) := by decide +kernel
theorem dL_spoils_16 : decode cL_spoils 16 = .ok (.goto 6, 3) := by decide +kernel
theorem dL_spoils_19 : decode cL_spoils 19 = .ok (.astore_n 3, 1) := by decide +kernel
theorem dL_spoils_20 : decode cL_spoils 20 = .ok (.iconst 1, 1) := by decide +kernel
theorem dL_spoils_21 : decode cL_spoils 21 = .ok (.ireturn, 1) := by decide +kernel
theorem dL_spoils_22 : decode cL_spoils 22 = .ok (.iconst 0, 1) := by decide +kernel
theorem dL_spoils_23 : decode cL_spoils 23 = .ok (.ireturn, 1) := by decide +kernel
set_option maxRecDepth 20000 in
theorem ggL_kept_X4_kept : GoodIn wsL_kept wsX4_kept := goodIn_ca (goodIn_r _ [6, 7, 8, 9, 10, 11, 12, 13, 14, 15, 16, 17, 18, 19, 20, 21, 22, 23, 24, 25, 26, 27, 28, 29, 30, 31, 32, 33, 34, 35, 36, 37, 38, 39] (by decide +kernel) (by decide +kernel)) (goodIn_sub (fun _ h => List.mem_cons_of_mem _ (List.mem_append_right _ h)) (by decide +kernel))
set_option maxRecDepth 20000 in
theorem gL_kept_X4_kept : GoodIn wsL_kept (wsV RL 44 RX4 yX4_kept wsX4_kept) := goodIn_app (goodIn_of _ (by decide +kernel)) ggL_kept_X4_kept
theorem dL_kept_0 : decode cL_kept 0 = .ok (.aload_n 2, 1) := by decide +kernel
theorem dL_kept_1 : decode cL_kept 1 = .ok (.iconst 0, 1) := by decide +kernel
theorem dL_kept_2 : decode cL_kept 2 = .ok (.aload_n 0, 1) := by decide +kernel
theorem dL_kept_3 : decode cL_kept 3 = .ok (.iload_n 1, 1) := by decide +kernel
theorem dL_kept_4 : decode cL_kept 4 = .ok (.invokevirtual 44, 3) := by decide +kernel
theorem dL_kept_7 : decode cL_kept 7 = .ok (.i2l, 1) := by decide +kernel
theorem dL_kept_8 : decode cL_kept 8 = .ok (.lastore, 1) := by decide +kernel
theorem dL_kept_9 : decode cL_kept 9 = .ok (.goto 6, 3) := by decide +kernel
theorem dL_kept_12 : decode cL_kept 12 = .ok (.astore_n 3, 1) := by decide +kernel
theorem dL_kept_13 : decode cL_kept 13 = .ok (.iconst 1, 1) := by decide +kernel
theorem dL_kept_14 : decode cL_kept 14 = .ok (.ireturn, 1) := by decide +kernel
theorem dL_kept_15 : decode cL_kept 15 = .ok (.iconst 0, 1) := by decide +kernel
theorem dL_kept_16 : decode cL_kept 16 = .ok (.ireturn, 1) := by decide +kernel
set_option maxRecDepth 20000 in
theorem ggL_step_X4_step : GoodIn wsL_step wsX4_step := goodIn_ca (goodIn_r _ [6, 7, 8, 9, 10, 11, 12, 13, 14, 15, 16, 17, 18, 19, 20, 21, 22, 23, 24, 25, 26, 27, 28, 29, 30, 31, 32, 33] (by decide +kernel) (by decide +kernel)) (goodIn_sub (fun _ h => List.mem_cons_of_mem _ (List.mem_append_right _ h)) (by decide +kernel))
set_option maxRecDepth 20000 in
theorem gL_step_X4_step : GoodIn wsL_step (wsV RL 47 RX4 yX4_step wsX4_step) := goodIn_app (goodIn_of _ (by decide +kernel)) ggL_step_X4_step
theorem dL_step_0 : decode cL_step 0 = .ok (.aload_n 3, 1) := by decide +kernel
theorem dL_step_1 : decode cL_step 1 = .ok (.iconst 0, 1) := by decide +kernel
theorem dL_step_2 : decode cL_step 2 = .ok (.aload_n 0, 1) := by decide +kernel
theorem dL_step_3 : decode cL_step 3 = .ok (.iload_n 1, 1) := by decide +kernel
theorem dL_step_4 : decode cL_step 4 = .ok (.iload_n 2, 1) := by decide +kernel
theorem dL_step_5 : decode cL_step 5 = .ok (.invokevirtual 47, 3) := by decide +kernel
theorem dL_step_8 : decode cL_step 8 = .ok (.i2l, 1) := by decide +kernel
theorem dL_step_9 : decode cL_step 9 = .ok (.lastore, 1) := by decide +kernel
theorem dL_step_10 : decode cL_step 10 = .ok (.goto 7, 3) := by decide +kernel
theorem dL_step_13 : decode cL_step 13 = .ok (.astore 4, 2) := by decide +kernel
theorem dL_step_15 : decode cL_step 15 = .ok (.iconst 1, 1) := by decide +kernel
theorem dL_step_16 : decode cL_step 16 = .ok (.ireturn, 1) := by decide +kernel
theorem dL_step_17 : decode cL_step 17 = .ok (.iconst 0, 1) := by decide +kernel
theorem dL_step_18 : decode cL_step 18 = .ok (.ireturn, 1) := by decide +kernel
set_option maxRecDepth 20000 in
theorem ggL_count_X4_count : GoodIn wsL_count wsX4_count := goodIn_ca (goodIn_r _ [6, 7, 8, 9, 10, 11, 5, 12, 13, 14, 15, 16, 17, 18, 19, 20, 21, 22, 23, 24, 25, 26, 27, 28, 29, 30, 31, 32, 33, 34, 35, 36, 37, 38, 39, 40, 41, 42, 43, 44, 45, 46, 47, 48, 49, 50, 51, 52, 53, 54, 55, 56, 57, 58, 59, 60, 61, 62, 63, 64, 65, 66, 67, 68, 69, 70, 71, 72, 73, 74, 75, 76, 77, 78, 79, 80, 81, 82, 83, 84, 85, 86, 87, 88] (by decide +kernel) (by decide +kernel)) (goodIn_sub (fun _ h => List.mem_cons_of_mem _ (List.mem_append_right _ h)) (by decide +kernel))
set_option maxRecDepth 20000 in
theorem gL_count_X4_count : GoodIn wsL_count (wsV RL 50 RX4 yX4_count wsX4_count) := goodIn_app (goodIn_of _ (by decide +kernel)) ggL_count_X4_count
theorem dL_count_0 : decode cL_count 0 = .ok (.aload_n 2, 1) := by decide +kernel
theorem dL_count_1 : decode cL_count 1 = .ok (.iconst 0, 1) := by decide +kernel
theorem dL_count_2 : decode cL_count 2 = .ok (.aload_n 0, 1) := by decide +kernel
theorem dL_count_3 : decode cL_count 3 = .ok (.iload_n 1, 1) := by decide +kernel
theorem dL_count_4 : decode cL_count 4 = .ok (.invokevirtual 50, 3) := by decide +kernel
theorem dL_count_7 : decode cL_count 7 = .ok (.i2l, 1) := by decide +kernel
theorem dL_count_8 : decode cL_count 8 = .ok (.lastore, 1) := by decide +kernel
theorem dL_count_9 : decode cL_count 9 = .ok (.goto 6, 3) := by decide +kernel
theorem dL_count_12 : decode cL_count 12 = .ok (.astore_n 3, 1) := by decide +kernel
theorem dL_count_13 : decode cL_count 13 = .ok (.iconst 1, 1) := by decide +kernel
theorem dL_count_14 : decode cL_count 14 = .ok (.ireturn, 1) := by decide +kernel
theorem dL_count_15 : decode cL_count 15 = .ok (.iconst 0, 1) := by decide +kernel
theorem dL_count_16 : decode cL_count 16 = .ok (.ireturn, 1) := by decide +kernel
set_option maxRecDepth 20000 in
theorem ggL_would_X4_would : GoodIn wsL_would wsX4_would := goodIn_ca (goodIn_r _ [6, 7, 8, 9, 10, 11, 12, 13, 14, 15, 16, 17, 18, 19, 20, 21, 22, 23, 24, 25, 26, 27, 28, 29, 30, 31, 32, 33, 34, 35, 36, 37, 38, 39, 40, 41, 42, 43, 44, 45, 46, 47, 48, 49, 50, 51, 52, 53, 54, 55, 56, 57, 58, 59, 60, 61, 62, 63, 64, 65, 66, 67, 68, 69, 70, 71, 72, 73, 74, 75, 76, 77, 78, 79, 80, 81, 82, 83, 84, 85, 86, 87, 88, 89, 90, 91, 92, 93, 94, 95, 96, 97, 98, 99, 100, 101, 102, 103, 104, 105, 106, 107, 108, 109, 110, 111, 112, 113, 114, 115, 116, 117, 118, 119, 120, 121, 122, 123, 124, 125, 126, 127, 128, 129, 130, 131, 132, 133, 134, 135, 136, 137, 138, 139, 140, 141, 142, 143, 144, 145, 146, 147, 148, 149] (by decide +kernel) (by decide +kernel)) (goodIn_sub (fun _ h => List.mem_cons_of_mem _ (List.mem_append_right _ h)) (by decide +kernel))
set_option maxRecDepth 20000 in
theorem gL_would_X4_would : GoodIn wsL_would (wsV RL 53 RX4 yX4_would wsX4_would) := goodIn_app (goodIn_of _ (by decide +kernel)) ggL_would_X4_would
theorem dL_would_0 : decode cL_would 0 = .ok (.aload_n 2, 1) := by decide +kernel
theorem dL_would_1 : decode cL_would 1 = .ok (.iconst 0, 1) := by decide +kernel
theorem dL_would_2 : decode cL_would 2 = .ok (.aload_n 0, 1) := by decide +kernel
theorem dL_would_3 : decode cL_would 3 = .ok (.iload_n 1, 1) := by decide +kernel
theorem dL_would_4 : decode cL_would 4 = .ok (.invokevirtual 53, 3) := by decide +kernel
theorem dL_would_7 : decode cL_would 7 = .ok (.i2l, 1) := by decide +kernel
theorem dL_would_8 : decode cL_would 8 = .ok (.lastore, 1) := by decide +kernel
theorem dL_would_9 : decode cL_would 9 = .ok (.goto 6, 3) := by decide +kernel
theorem dL_would_12 : decode cL_would 12 = .ok (.astore_n 3, 1) := by decide +kernel
theorem dL_would_13 : decode cL_would 13 = .ok (.iconst 1, 1) := by decide +kernel
theorem dL_would_14 : decode cL_would 14 = .ok (.ireturn, 1) := by decide +kernel
theorem dL_would_15 : decode cL_would 15 = .ok (.iconst 0, 1) := by decide +kernel
theorem dL_would_16 : decode cL_would 16 = .ok (.ireturn, 1) := by decide +kernel
set_option maxRecDepth 20000 in
theorem ggL_isTight_X4_isTight : GoodIn wsL_isTight wsX4_isTight := goodIn_ca (goodIn_r _ [6, 7, 8, 9, 10, 11, 12, 13, 14, 15, 16, 17, 18, 5, 19, 20, 21, 22, 23, 24, 25, 26, 27, 28, 29, 30, 31, 32, 33, 34, 35, 36, 37, 38, 39, 40, 41, 42, 43, 44, 45, 46, 47, 48, 49, 50, 51, 52, 53, 54, 55] (by decide +kernel) (by decide +kernel)) (goodIn_sub (fun _ h => List.mem_cons_of_mem _ (List.mem_append_right _ h)) (by decide +kernel))
set_option maxRecDepth 20000 in
theorem gL_isTight_X4_isTight : GoodIn wsL_isTight (wsV RL 56 RX4 yX4_isTight wsX4_isTight) := goodIn_app (goodIn_of _ (by decide +kernel)) ggL_isTight_X4_isTight
theorem dL_isTight_0 : decode cL_isTight 0 = .ok (.aload_n 2, 1) := by decide +kernel
theorem dL_isTight_1 : decode cL_isTight 1 = .ok (.iconst 0, 1) := by decide +kernel
theorem dL_isTight_2 : decode cL_isTight 2 = .ok (.aload_n 0, 1) := by decide +kernel
theorem dL_isTight_3 : decode cL_isTight 3 = .ok (.iload_n 1, 1) := by decide +kernel
theorem dL_isTight_4 : decode cL_isTight 4 = .ok (.invokevirtual 56, 3) := by decide +kernel
theorem dL_isTight_7 : decode cL_isTight 7 = .ok (.ifCond .eq 7, 3) := by decide +kernel
theorem dL_isTight_10 : decode cL_isTight 10 = .ok (.lconst 1, 1) := by decide +kernel
theorem dL_isTight_11 : decode cL_isTight 11 = .ok (.goto 4, 3) := by decide +kernel
theorem dL_isTight_14 : decode cL_isTight 14 = .ok (.lconst 0, 1) := by decide +kernel
theorem dL_isTight_15 : decode cL_isTight 15 = .ok (.lastore, 1) := by decide +kernel
theorem dL_isTight_16 : decode cL_isTight 16 = .ok (.goto 6, 3) := by decide +kernel
theorem dL_isTight_19 : decode cL_isTight 19 = .ok (.astore_n 3, 1) := by decide +kernel
theorem dL_isTight_20 : decode cL_isTight 20 = .ok (.iconst 1, 1) := by decide +kernel
theorem dL_isTight_21 : decode cL_isTight 21 = .ok (.ireturn, 1) := by decide +kernel
theorem dL_isTight_22 : decode cL_isTight 22 = .ok (.iconst 0, 1) := by decide +kernel
theorem dL_isTight_23 : decode cL_isTight 23 = .ok (.ireturn, 1) := by decide +kernel
set_option maxRecDepth 20000 in
theorem ggL_law_X4_init : GoodIn wsL_law wsX4_init := goodIn_r _ [9, 10, 11, 12, 13, 14, 15, 16, 17, 18, 19, 20, 21, 22, 23, 24, 25, 26, 27, 28, 29, 30, 31, 32, 33, 34, 35, 36, 37, 38, 39, 40, 41, 42, 43, 6, 44, 45, 46, 47, 48, 49, 50, 51, 631, 632, 607, 608, 609, 610, 611, 612, 613, 633, 634, 635, 636, 637, 638, 639, 640, 641, 642, 643, 644, 645, 646] (by decide +kernel) (by decide +kernel)
set_option maxRecDepth 20000 in
theorem gL_law_X4_init : GoodIn wsL_law (wsX4_init) := ggL_law_X4_init
set_option maxRecDepth 20000 in
theorem ggL_law_X5_init : GoodIn wsL_law wsX5_init := goodIn_r _ [54, 55, 11, 12, 33, 56, 57, 58, 59, 60, 61, 614, 615, 616, 617, 618, 619, 620, 621, 622, 623, 624, 625, 626, 627, 628, 629, 630] (by decide +kernel) (by decide +kernel)
set_option maxRecDepth 20000 in
theorem gL_law_X5_init : GoodIn wsL_law (wsX5_init) := ggL_law_X5_init
set_option maxRecDepth 20000 in
theorem ggL_law_L_add : GoodIn wsL_law wsL_add := goodIn_ca (goodIn_ca (goodIn_r _ [65, 66, 67, 68, 69, 70, 2, 71, 72, 73, 74, 75, 16, 76, 77, 78, 79, 80, 81, 15, 82, 83, 34, 84, 85, 86, 87, 88, 89, 90, 91, 92, 607, 608, 609, 610, 611, 612, 613, 631, 632] (by decide +kernel) (by decide +kernel)) (goodIn_sub (fun _ h => List.mem_append_left _ (List.mem_append_left _ (List.mem_append_right _ h))) (by decide +kernel))) (goodIn_sub (fun _ h => List.mem_append_left _ (List.mem_append_right _ h)) (by decide +kernel))
set_option maxRecDepth 20000 in
theorem gL_law_L_add : GoodIn wsL_law (va_wsS RL 63 yL_add wsL_add) := goodIn_app (goodIn_of _ (by decide +kernel)) ggL_law_L_add
set_option maxRecDepth 20000 in
theorem ggL_law_X5_add : GoodIn wsL_law wsX5_add := goodIn_r _ [96, 97, 98, 56, 99, 100, 5, 101, 102, 103, 104, 105, 614, 615, 616, 617, 618, 619, 620, 621, 622, 623, 624, 625, 626, 627, 628, 629, 630] (by decide +kernel) (by decide +kernel)
set_option maxRecDepth 20000 in
theorem gL_law_X5_add : GoodIn wsL_law (wsV RL 68 RX5 yX5_add wsX5_add) := goodIn_app (goodIn_of _ (by decide +kernel)) ggL_law_X5_add
set_option maxRecDepth 20000 in
theorem ggL_law_X5_thrown : GoodIn wsL_law wsX5_thrown := goodIn_r _ [109, 97, 614, 615, 616, 617, 618, 619, 620, 621, 622, 623, 624, 625, 626, 627, 628, 629, 630] (by decide +kernel) (by decide +kernel)
set_option maxRecDepth 20000 in
theorem gL_law_X5_thrown : GoodIn wsL_law (wsV RL 69 RX5 yX5_thrown wsX5_thrown) := goodIn_app (goodIn_of _ (by decide +kernel)) ggL_law_X5_thrown
set_option maxRecDepth 20000 in
theorem ggL_law_L_drop : GoodIn wsL_law wsL_drop := goodIn_ca (goodIn_r _ [112, 66, 113, 114, 115, 2, 116, 72, 73, 16, 117, 118, 119, 15, 120, 83, 121, 122, 123, 124, 34, 125, 126, 127, 128, 129, 607, 608, 609, 610, 611, 612, 613, 631, 632] (by decide +kernel) (by decide +kernel)) (goodIn_sub (fun _ h => List.mem_append_left _ (List.mem_append_left _ (List.mem_append_right _ h))) (by decide +kernel))
set_option maxRecDepth 20000 in
theorem gL_law_L_drop : GoodIn wsL_law (va_wsS RL 72 yL_drop wsL_drop) := goodIn_app (goodIn_of _ (by decide +kernel)) ggL_law_L_drop
set_option maxRecDepth 20000 in
theorem ggL_law_X5_drop : GoodIn wsL_law wsX5_drop := goodIn_r _ [133, 97, 134, 135, 136, 5, 137, 98, 99, 100, 101, 138, 139, 140, 141, 56, 102, 103, 104, 105, 614, 615, 616, 617, 618, 619, 620, 621, 622, 623, 624, 625, 626, 627, 628, 629, 630] (by decide +kernel) (by decide +kernel)
set_option maxRecDepth 20000 in
theorem gL_law_X5_drop : GoodIn wsL_law (wsV RL 74 RX5 yX5_drop wsX5_drop) := goodIn_app (goodIn_of _ (by decide +kernel)) ggL_law_X5_drop
set_option maxRecDepth 20000 in
theorem ggL_law_L_kind : GoodIn wsL_law wsL_kind := goodIn_ca (goodIn_r _ [144, 66, 145, 146, 147, 2, 148, 72, 73, 16, 117, 118, 119, 15, 120, 83, 121, 122, 123, 124, 34, 125, 607, 608, 609, 610, 611, 612, 613, 631, 632] (by decide +kernel) (by decide +kernel)) (goodIn_sub (fun _ h => List.mem_append_left _ (List.mem_append_left _ (List.mem_append_right _ h))) (by decide +kernel))
set_option maxRecDepth 20000 in
theorem gL_law_L_kind : GoodIn wsL_law (va_wsS RL 75 yL_kind wsL_kind) := goodIn_app (goodIn_of _ (by decide +kernel)) ggL_law_L_kind
set_option maxRecDepth 20000 in
theorem ggL_law_X5_kind : GoodIn wsL_law wsX5_kind := goodIn_r _ [152, 97, 56, 134, 135, 136, 5, 137, 98, 99, 100, 101, 102, 103, 104, 105, 614, 615, 616, 617, 618, 619, 620, 621, 622, 623, 624, 625, 626, 627, 628, 629, 630] (by decide +kernel) (by decide +kernel)
set_option maxRecDepth 20000 in
theorem gL_law_X5_kind : GoodIn wsL_law (wsV RL 77 RX5 yX5_kind wsX5_kind) := goodIn_app (goodIn_of _ (by decide +kernel)) ggL_law_X5_kind
set_option maxRecDepth 20000 in
theorem ggL_law_L_rule : GoodIn wsL_law wsL_rule := goodIn_ca (goodIn_r _ [155, 67, 156, 157, 158, 2, 159, 74, 75, 20, 160, 161, 162, 19, 163, 164, 165, 166, 167, 168, 169, 170, 171, 172, 173, 607, 608, 609, 610, 611, 612, 613, 633, 634, 635] (by decide +kernel) (by decide +kernel)) (goodIn_sub (fun _ h => List.mem_append_left _ (List.mem_append_right _ h)) (by decide +kernel))
set_option maxRecDepth 20000 in
theorem gL_law_L_rule : GoodIn wsL_law (va_wsS RL 78 yL_rule wsL_rule) := goodIn_app (goodIn_of _ (by decide +kernel)) ggL_law_L_rule
set_option maxRecDepth 20000 in
theorem ggL_law_X5_rule : GoodIn wsL_law wsX5_rule := goodIn_r _ [177, 97, 178, 102, 103, 104, 5, 105, 614, 615, 616, 617, 618, 619, 620, 621, 622, 623, 624, 625, 626, 627, 628, 629, 630] (by decide +kernel) (by decide +kernel)
set_option maxRecDepth 20000 in
theorem gL_law_X5_rule : GoodIn wsL_law (wsV RL 81 RX5 yX5_rule wsX5_rule) := goodIn_app (goodIn_of _ (by decide +kernel)) ggL_law_X5_rule
set_option maxRecDepth 20000 in
theorem ggL_law_L_setNeeds : GoodIn wsL_law wsL_setNeeds := goodIn_ca (goodIn_ca (goodIn_r _ [181, 66, 67, 182, 183, 184, 2, 185, 72, 73, 74, 75, 20, 186, 187, 188, 19, 189, 164, 76, 77, 78, 190, 191, 192, 193, 39, 194, 195, 196, 197, 198, 199, 200, 201, 38, 202, 203, 204, 205, 206, 207, 208, 607, 608, 609, 610, 611, 612, 613, 633, 634, 635] (by decide +kernel) (by decide +kernel)) (goodIn_sub (fun _ h => List.mem_append_left _ (List.mem_append_left _ (List.mem_append_right _ h))) (by decide +kernel))) (goodIn_sub (fun _ h => List.mem_append_left _ (List.mem_append_right _ h)) (by decide +kernel))
set_option maxRecDepth 20000 in
theorem gL_law_L_setNeeds : GoodIn wsL_law (va_wsS RL 82 yL_setNeeds wsL_setNeeds) := goodIn_app (goodIn_of _ (by decide +kernel)) ggL_law_L_setNeeds
set_option maxRecDepth 20000 in
theorem ggL_law_X5_setNeeds : GoodIn wsL_law wsX5_setNeeds := goodIn_r _ [212, 57, 58, 213, 214, 215, 5, 216, 97, 217, 218, 219, 220, 178, 99, 100, 101, 614, 615, 616, 617, 618, 619, 620, 621, 622, 623, 624, 625, 626, 627, 628, 629, 630] (by decide +kernel) (by decide +kernel)
set_option maxRecDepth 20000 in
theorem gL_law_X5_setNeeds : GoodIn wsL_law (wsV RL 85 RX5 yX5_setNeeds wsX5_setNeeds) := goodIn_app (goodIn_of _ (by decide +kernel)) ggL_law_X5_setNeeds
set_option maxRecDepth 20000 in
theorem ggL_law_L_setSpares : GoodIn wsL_law wsL_setSpares := goodIn_ca (goodIn_ca (goodIn_r _ [223, 66, 67, 224, 225, 226, 2, 227, 72, 73, 74, 75, 20, 186, 187, 188, 19, 189, 164, 76, 77, 78, 198, 199, 200, 201, 38, 194, 195, 196, 197, 190, 191, 192, 193, 39, 202, 203, 204, 228, 229, 230, 231, 607, 608, 609, 610, 611, 612, 613, 633, 634, 635] (by decide +kernel) (by decide +kernel)) (goodIn_sub (fun _ h => List.mem_append_left _ (List.mem_append_left _ (List.mem_append_right _ h))) (by decide +kernel))) (goodIn_sub (fun _ h => List.mem_append_left _ (List.mem_append_right _ h)) (by decide +kernel))
set_option maxRecDepth 20000 in
theorem gL_law_L_setSpares : GoodIn wsL_law (va_wsS RL 86 yL_setSpares wsL_setSpares) := goodIn_app (goodIn_of _ (by decide +kernel)) ggL_law_L_setSpares
set_option maxRecDepth 20000 in
theorem ggL_law_X5_setSpares : GoodIn wsL_law wsX5_setSpares := goodIn_r _ [235, 58, 57, 213, 214, 215, 5, 216, 97, 217, 218, 219, 220, 178, 99, 100, 101, 614, 615, 616, 617, 618, 619, 620, 621, 622, 623, 624, 625, 626, 627, 628, 629, 630] (by decide +kernel) (by decide +kernel)
set_option maxRecDepth 20000 in
theorem gL_law_X5_setSpares : GoodIn wsL_law (wsV RL 88 RX5 yX5_setSpares wsX5_setSpares) := goodIn_app (goodIn_of _ (by decide +kernel)) ggL_law_X5_setSpares
set_option maxRecDepth 20000 in
theorem ggL_law_L_told : GoodIn wsL_law wsL_told := goodIn_ca (goodIn_r _ [238, 66, 239, 240, 241, 2, 242, 72, 73, 20, 186, 187, 188, 19, 189, 164, 243, 244, 245, 246, 16, 247, 198, 199, 200, 201, 38, 194, 190, 191, 192, 193, 39, 248, 249, 250, 251, 252, 253, 254, 255, 256, 257, 15, 258, 83, 259, 260, 261, 262, 34, 263, 264, 265, 266, 607, 608, 609, 610, 611, 612, 613, 633, 634, 635, 631, 632] (by decide +kernel) (by decide +kernel)) (goodIn_sub (fun _ h => List.mem_append_left _ (List.mem_append_left _ (List.mem_append_right _ h))) (by decide +kernel))
set_option maxRecDepth 20000 in
theorem gL_law_L_told : GoodIn wsL_law (va_wsS RL 89 yL_told wsL_told) := goodIn_app (goodIn_of _ (by decide +kernel)) ggL_law_L_told
set_option maxRecDepth 20000 in
theorem ggL_law_X5_told : GoodIn wsL_law wsX5_told := goodIn_r _ [270, 97, 217, 218, 219, 5, 220, 178, 99, 100, 101, 271, 272, 273, 274, 57, 58, 275, 276, 277, 249, 250, 251, 252, 253, 254, 278, 279, 280, 281, 98, 282, 283, 284, 285, 56, 286, 287, 288, 289, 102, 103, 104, 105, 614, 615, 616, 617, 618, 619, 620, 621, 622, 623, 624, 625, 626, 627, 628, 629, 630] (by decide +kernel) (by decide +kernel)
set_option maxRecDepth 20000 in
theorem gL_law_X5_told : GoodIn wsL_law (wsV RL 92 RX5 yX5_told wsX5_told) := goodIn_app (goodIn_of _ (by decide +kernel)) ggL_law_X5_told
set_option maxRecDepth 20000 in
theorem ggL_law_L_spoils : GoodIn wsL_law wsL_spoils := goodIn_ca (goodIn_r _ [292, 293, 294, 295, 296, 2, 297, 298, 299, 16, 300, 301, 302, 15, 303, 83, 304, 305, 306, 307, 20, 259, 260, 261, 262, 34, 308, 309, 310, 19, 311, 164, 312, 264, 265, 266, 38, 39, 607, 608, 609, 610, 611, 612, 613, 631, 632, 633, 634, 635] (by decide +kernel) (by decide +kernel)) (goodIn_sub (fun _ h => List.mem_append_right _ h) (by decide +kernel))
set_option maxRecDepth 20000 in
theorem gL_law_L_spoils : GoodIn wsL_law (va_wsS RL 93 yL_spoils wsL_spoils) := goodIn_app (goodIn_of _ (by decide +kernel)) ggL_law_L_spoils
set_option maxRecDepth 20000 in
theorem ggL_law_X5_spoils : GoodIn wsL_law wsX5_spoils := goodIn_r _ [316, 97, 278, 279, 280, 5, 281, 98, 99, 100, 101, 317, 318, 319, 320, 178, 282, 283, 284, 285, 56, 286, 287, 288, 289, 57, 58, 614, 615, 616, 617, 618, 619, 620, 621, 622, 623, 624, 625, 626, 627, 628, 629, 630] (by decide +kernel) (by decide +kernel)
set_option maxRecDepth 20000 in
theorem gL_law_X5_spoils : GoodIn wsL_law (wsV RL 95 RX5 yX5_spoils wsX5_spoils) := goodIn_app (goodIn_of _ (by decide +kernel)) ggL_law_X5_spoils
set_option maxRecDepth 20000 in
theorem ggL_law_X4_shrink : GoodIn wsL_law wsX4_shrink := goodIn_r _ [324, 28, 24, 16, 247, 325, 255, 256, 257, 15, 258, 83, 326, 327, 328, 27, 329, 330, 331, 332, 333, 334, 335, 336, 337, 338, 339, 340, 23, 341, 342, 343, 344, 345, 346, 347, 46, 45, 348, 349, 350, 351, 352, 44, 353, 260, 261, 262, 34, 354, 309, 310, 19, 311, 164, 312, 264, 265, 266, 38, 39, 355, 356, 357, 358, 359, 360, 361, 362, 363, 364, 365, 366, 249, 250, 251, 252, 253, 254, 367, 368, 369, 370, 51, 371, 372, 373, 374, 375, 376, 377, 378, 379, 380, 381, 382, 50, 383, 384, 385, 386, 387, 388, 389, 390, 391, 392, 393, 394, 259, 395, 396, 397, 398, 607, 608, 609, 610, 611, 612, 613, 631, 632, 641, 642, 643, 644, 645, 646, 636, 637, 638, 639, 640, 633, 634, 635] (by decide +kernel) (by decide +kernel)
set_option maxRecDepth 20000 in
theorem gL_law_X4_shrink : GoodIn wsL_law (wsV RL 96 RX4 yX4_shrink wsX4_shrink) := goodIn_app (goodIn_of _ (by decide +kernel)) ggL_law_X4_shrink
set_option maxRecDepth 20000 in
theorem ggL_law_X5_shrink : GoodIn wsL_law wsX5_shrink := goodIn_r _ [402, 97, 403, 275, 276, 404, 405, 406, 407, 60, 61, 408, 409, 410, 411, 412, 413, 414, 415, 5, 416, 417, 364, 361, 365, 278, 279, 280, 281, 98, 418, 419, 420, 421, 59, 317, 318, 319, 320, 178, 282, 283, 284, 285, 56, 286, 287, 288, 289, 57, 58, 277, 249, 250, 251, 252, 253, 254, 422, 423, 424, 425, 426, 427, 428, 429, 430, 431, 432, 433, 434, 435, 614, 615, 616, 617, 618, 619, 620, 621, 622, 623, 624, 625, 626, 627, 628, 629, 630] (by decide +kernel) (by decide +kernel)
set_option maxRecDepth 20000 in
theorem gL_law_X5_shrink : GoodIn wsL_law (wsV RL 99 RX5 yX5_shrink wsX5_shrink) := goodIn_app (goodIn_of _ (by decide +kernel)) ggL_law_X5_shrink
set_option maxRecDepth 20000 in
theorem ggL_law_L_kept : GoodIn wsL_law wsL_kept := goodIn_ca (goodIn_r _ [438, 66, 439, 440, 441, 2, 442, 72, 73, 28, 443, 444, 445, 27, 446, 335, 366, 249, 250, 251, 252, 253, 254, 447, 448, 449, 450, 607, 608, 609, 610, 611, 612, 613, 641, 642, 643, 644, 645, 646] (by decide +kernel) (by decide +kernel)) (goodIn_sub (fun _ h => List.mem_append_left _ (List.mem_append_left _ (List.mem_append_right _ h))) (by decide +kernel))
set_option maxRecDepth 20000 in
theorem gL_law_L_kept : GoodIn wsL_law (va_wsS RL 100 yL_kept wsL_kept) := goodIn_app (goodIn_of _ (by decide +kernel)) ggL_law_L_kept
set_option maxRecDepth 20000 in
theorem ggL_law_X5_kept : GoodIn wsL_law wsX5_kept := goodIn_r _ [454, 97, 455, 456, 457, 5, 458, 403, 277, 249, 250, 251, 252, 253, 254, 99, 100, 101, 459, 460, 461, 462, 429, 430, 431, 463, 464, 465, 466, 102, 103, 104, 105, 614, 615, 616, 617, 618, 619, 620, 621, 622, 623, 624, 625, 626, 627, 628, 629, 630] (by decide +kernel) (by decide +kernel)
set_option maxRecDepth 20000 in
theorem gL_law_X5_kept : GoodIn wsL_law (wsV RL 102 RX5 yX5_kept wsX5_kept) := goodIn_app (goodIn_of _ (by decide +kernel)) ggL_law_X5_kept
set_option maxRecDepth 20000 in
theorem ggL_law_L_step : GoodIn wsL_law wsL_step := goodIn_ca (goodIn_r _ [469, 66, 470, 471, 472, 2, 473, 72, 73, 28, 474, 475, 476, 27, 477, 337, 478, 479, 480, 481, 50, 607, 608, 609, 610, 611, 612, 613, 641, 642, 643, 644, 645, 646] (by decide +kernel) (by decide +kernel)) (goodIn_sub (fun _ h => List.mem_append_left _ (List.mem_append_left _ (List.mem_append_right _ h))) (by decide +kernel))
set_option maxRecDepth 20000 in
theorem gL_law_L_step : GoodIn wsL_law (va_wsS RL 103 yL_step wsL_step) := goodIn_app (goodIn_of _ (by decide +kernel)) ggL_law_L_step
set_option maxRecDepth 20000 in
theorem ggL_law_X5_step : GoodIn wsL_law wsX5_step := goodIn_r _ [485, 97, 407, 61, 99, 100, 5, 101, 102, 103, 104, 105, 614, 615, 616, 617, 618, 619, 620, 621, 622, 623, 624, 625, 626, 627, 628, 629, 630] (by decide +kernel) (by decide +kernel)
set_option maxRecDepth 20000 in
theorem gL_law_X5_step : GoodIn wsL_law (wsV RL 105 RX5 yX5_step wsX5_step) := goodIn_app (goodIn_of _ (by decide +kernel)) ggL_law_X5_step
set_option maxRecDepth 20000 in
theorem ggL_law_L_count : GoodIn wsL_law wsL_count := goodIn_ca (goodIn_r _ [488, 66, 489, 490, 491, 2, 492, 72, 73, 493, 494, 495, 496, 16, 20, 28, 325, 89, 90, 91, 15, 92, 83, 170, 171, 172, 19, 173, 164, 255, 256, 257, 258, 259, 260, 261, 262, 34, 308, 309, 310, 311, 312, 264, 265, 266, 38, 39, 443, 444, 445, 27, 446, 335, 366, 249, 250, 251, 252, 253, 254, 474, 475, 476, 477, 337, 395, 396, 397, 398, 330, 607, 608, 609, 610, 611, 612, 613, 631, 632, 633, 634, 635, 641, 642, 643, 644, 645, 646] (by decide +kernel) (by decide +kernel)) (goodIn_sub (fun _ h => List.mem_append_left _ (List.mem_append_left _ (List.mem_append_right _ h))) (by decide +kernel))
set_option maxRecDepth 20000 in
theorem gL_law_L_count : GoodIn wsL_law (va_wsS RL 106 yL_count wsL_count) := goodIn_app (goodIn_of _ (by decide +kernel)) ggL_law_L_count
set_option maxRecDepth 20000 in
theorem ggL_law_X5_count : GoodIn wsL_law wsX5_count := goodIn_r _ [500, 97, 99, 100, 5, 101, 501, 502, 503, 504, 98, 178, 407, 405, 412, 505, 506, 507, 508, 278, 279, 280, 281, 282, 283, 284, 285, 56, 286, 287, 288, 289, 57, 58, 455, 456, 457, 458, 403, 277, 249, 250, 251, 252, 253, 254, 102, 103, 104, 105, 614, 615, 616, 617, 618, 619, 620, 621, 622, 623, 624, 625, 626, 627, 628, 629, 630] (by decide +kernel) (by decide +kernel)
set_option maxRecDepth 20000 in
theorem gL_law_X5_count : GoodIn wsL_law (wsV RL 108 RX5 yX5_count wsX5_count) := goodIn_app (goodIn_of _ (by decide +kernel)) ggL_law_X5_count
set_option maxRecDepth 20000 in
theorem ggL_law_L_would : GoodIn wsL_law wsL_would := goodIn_ca (goodIn_r _ [511, 66, 512, 513, 514, 2, 515, 72, 73, 29, 24, 16, 255, 256, 257, 15, 258, 83, 326, 327, 328, 27, 329, 330, 331, 332, 333, 334, 335, 336, 337, 338, 339, 340, 23, 341, 342, 343, 344, 345, 346, 347, 46, 45, 348, 349, 350, 351, 352, 44, 353, 260, 261, 262, 34, 354, 309, 310, 19, 311, 164, 312, 264, 265, 266, 38, 39, 355, 356, 357, 358, 359, 360, 361, 362, 363, 364, 365, 366, 249, 250, 251, 252, 253, 254, 367, 368, 369, 370, 51, 371, 372, 373, 374, 375, 376, 377, 378, 379, 380, 381, 382, 50, 383, 384, 385, 386, 387, 388, 389, 390, 516, 517, 518, 519, 391, 392, 393, 394, 474, 475, 476, 477, 395, 396, 397, 398, 607, 608, 609, 610, 611, 612, 613, 631, 632, 641, 642, 643, 644, 645, 646, 636, 637, 638, 639, 640, 633, 634, 635] (by decide +kernel) (by decide +kernel)) (goodIn_sub (fun _ h => List.mem_append_left _ (List.mem_append_left _ (List.mem_append_right _ h))) (by decide +kernel))
set_option maxRecDepth 20000 in
theorem gL_law_L_would : GoodIn wsL_law (va_wsS RL 109 yL_would wsL_would) := goodIn_app (goodIn_of _ (by decide +kernel)) ggL_law_L_would
set_option maxRecDepth 20000 in
theorem ggL_law_X5_would : GoodIn wsL_law wsX5_would := goodIn_r _ [523, 97, 99, 100, 5, 101, 524, 525, 526, 527, 406, 404, 413, 414, 415, 416, 417, 364, 361, 365, 278, 279, 280, 281, 98, 418, 419, 420, 421, 59, 317, 318, 319, 320, 178, 282, 283, 284, 285, 56, 286, 287, 288, 289, 57, 58, 277, 249, 250, 251, 252, 253, 254, 422, 423, 424, 425, 426, 427, 428, 429, 430, 431, 432, 433, 434, 435, 60, 528, 529, 530, 531, 102, 103, 104, 105, 614, 615, 616, 617, 618, 619, 620, 621, 622, 623, 624, 625, 626, 627, 628, 629, 630] (by decide +kernel) (by decide +kernel)
set_option maxRecDepth 20000 in
theorem gL_law_X5_would : GoodIn wsL_law (wsV RL 111 RX5 yX5_would wsX5_would) := goodIn_app (goodIn_of _ (by decide +kernel)) ggL_law_X5_would
set_option maxRecDepth 20000 in
theorem ggL_law_X4_least : GoodIn wsL_law wsX4_least := goodIn_r _ [535, 20, 16, 255, 256, 257, 15, 258, 83, 259, 260, 261, 262, 34, 536, 537, 538, 19, 539, 164, 38, 540, 249, 250, 251, 252, 253, 254, 607, 608, 609, 610, 611, 612, 613, 631, 632, 633, 634, 635] (by decide +kernel) (by decide +kernel)
set_option maxRecDepth 20000 in
theorem gL_law_X4_least : GoodIn wsL_law (wsV RL 112 RX4 yX4_least wsX4_least) := goodIn_app (goodIn_of _ (by decide +kernel)) ggL_law_X4_least
set_option maxRecDepth 20000 in
theorem ggL_law_X5_least : GoodIn wsL_law wsX5_least := goodIn_r _ [544, 97, 545, 546, 547, 5, 548, 178, 57, 278, 279, 280, 281, 98, 282, 283, 284, 285, 56, 277, 249, 250, 251, 252, 253, 254, 614, 615, 616, 617, 618, 619, 620, 621, 622, 623, 624, 625, 626, 627, 628, 629, 630] (by decide +kernel) (by decide +kernel)
set_option maxRecDepth 20000 in
theorem gL_law_X5_least : GoodIn wsL_law (wsV RL 115 RX5 yX5_least wsX5_least) := goodIn_app (goodIn_of _ (by decide +kernel)) ggL_law_X5_least
set_option maxRecDepth 20000 in
theorem ggL_law_L_isTight : GoodIn wsL_law wsL_isTight := goodIn_ca (goodIn_r _ [551, 293, 552, 553, 554, 2, 555, 298, 299, 16, 300, 301, 302, 15, 303, 83, 304, 305, 306, 307, 20, 259, 260, 261, 262, 34, 308, 309, 310, 19, 311, 164, 312, 264, 265, 266, 38, 39, 195, 196, 197, 202, 203, 204, 607, 608, 609, 610, 611, 612, 613, 631, 632, 633, 634, 635] (by decide +kernel) (by decide +kernel)) (goodIn_sub (fun _ h => List.mem_append_right _ h) (by decide +kernel))
set_option maxRecDepth 20000 in
theorem gL_law_L_isTight : GoodIn wsL_law (va_wsS RL 116 yL_isTight wsL_isTight) := goodIn_app (goodIn_of _ (by decide +kernel)) ggL_law_L_isTight
set_option maxRecDepth 20000 in
theorem ggL_law_X5_isTight : GoodIn wsL_law wsX5_isTight := goodIn_r _ [559, 97, 278, 279, 280, 5, 281, 98, 99, 100, 101, 560, 561, 562, 563, 317, 318, 319, 320, 178, 282, 283, 284, 285, 56, 286, 287, 288, 289, 57, 58, 614, 615, 616, 617, 618, 619, 620, 621, 622, 623, 624, 625, 626, 627, 628, 629, 630] (by decide +kernel) (by decide +kernel)
set_option maxRecDepth 20000 in
theorem gL_law_X5_isTight : GoodIn wsL_law (wsV RL 118 RX5 yX5_isTight wsX5_isTight) := goodIn_app (goodIn_of _ (by decide +kernel)) ggL_law_X5_isTight
set_option maxRecDepth 20000 in
theorem ggL_law_X4_advise : GoodIn wsL_law wsX4_advise := goodIn_r _ [567, 16, 29, 24, 89, 90, 91, 15, 92, 83, 255, 256, 257, 258, 202, 203, 2, 204, 326, 327, 328, 27, 329, 330, 331, 332, 333, 334, 335, 336, 337, 338, 339, 340, 23, 341, 342, 343, 344, 345, 346, 347, 46, 45, 348, 349, 350, 351, 352, 44, 353, 260, 261, 262, 34, 354, 309, 310, 19, 311, 164, 312, 264, 265, 266, 38, 39, 355, 356, 357, 358, 359, 360, 361, 362, 363, 364, 365, 366, 249, 250, 251, 252, 253, 254, 367, 368, 369, 370, 51, 371, 372, 373, 374, 375, 376, 377, 378, 379, 380, 381, 382, 50, 383, 384, 385, 386, 387, 388, 389, 390, 395, 396, 397, 398, 607, 608, 609, 610, 611, 612, 613, 631, 632, 641, 642, 643, 644, 645, 646, 636, 637, 638, 639, 640, 633, 634, 635] (by decide +kernel) (by decide +kernel)
set_option maxRecDepth 20000 in
theorem gL_law_X4_advise : GoodIn wsL_law (wsV RL 119 RX4 yX4_advise wsX4_advise) := goodIn_app (goodIn_of _ (by decide +kernel)) ggL_law_X4_advise
set_option maxRecDepth 20000 in
theorem ggL_law_X5_advise : GoodIn wsL_law wsX5_advise := goodIn_r _ [571, 97, 98, 572, 573, 574, 5, 575, 56, 404, 138, 139, 140, 141, 413, 414, 415, 416, 406, 417, 364, 361, 365, 278, 279, 280, 281, 418, 419, 420, 421, 59, 317, 318, 319, 320, 178, 282, 283, 284, 285, 286, 287, 288, 289, 57, 58, 277, 249, 250, 251, 252, 253, 254, 422, 423, 424, 425, 426, 427, 428, 429, 430, 431, 432, 433, 434, 435, 60, 614, 615, 616, 617, 618, 619, 620, 621, 622, 623, 624, 625, 626, 627, 628, 629, 630] (by decide +kernel) (by decide +kernel)
set_option maxRecDepth 20000 in
theorem gL_law_X5_advise : GoodIn wsL_law (wsV RL 122 RX5 yX5_advise wsX5_advise) := goodIn_app (goodIn_of _ (by decide +kernel)) ggL_law_X5_advise
set_option maxRecDepth 20000 in
theorem ggL_law_X4_mean : GoodIn wsL_law wsX4_mean := goodIn_r _ [579, 20, 170, 171, 172, 19, 173, 164, 198, 199, 200, 201, 38, 194, 187, 188, 189, 248, 249, 250, 251, 252, 253, 254, 607, 608, 609, 610, 611, 612, 613, 633, 634, 635] (by decide +kernel) (by decide +kernel)
set_option maxRecDepth 20000 in
theorem gL_law_X4_mean : GoodIn wsL_law (wsV RL 123 RX4 yX4_mean wsX4_mean) := goodIn_app (goodIn_of _ (by decide +kernel)) ggL_law_X4_mean
set_option maxRecDepth 20000 in
theorem ggL_law_X5_mean : GoodIn wsL_law wsX5_mean := goodIn_r _ [583, 97, 178, 57, 277, 249, 250, 251, 252, 253, 254, 614, 615, 616, 617, 618, 619, 620, 621, 622, 623, 624, 625, 626, 627, 628, 629, 630] (by decide +kernel) (by decide +kernel)
set_option maxRecDepth 20000 in
theorem gL_law_X5_mean : GoodIn wsL_law (wsV RL 127 RX5 yX5_mean wsX5_mean) := goodIn_app (goodIn_of _ (by decide +kernel)) ggL_law_X5_mean
set_option maxRecDepth 20000 in
theorem ggL_law_X4_digest : GoodIn wsL_law wsX4_digest := goodIn_r _ [587, 588, 29, 24, 16, 20, 589, 590, 591, 2, 592, 493, 494, 495, 496, 28, 325, 89, 90, 91, 15, 92, 83, 170, 171, 172, 19, 173, 164, 255, 256, 257, 258, 259, 260, 261, 262, 34, 308, 309, 310, 311, 312, 264, 265, 266, 38, 39, 443, 444, 445, 27, 446, 335, 366, 249, 250, 251, 252, 253, 254, 474, 475, 476, 477, 337, 395, 396, 397, 398, 330, 593, 594, 595, 596, 121, 122, 123, 124, 125, 118, 119, 120, 243, 244, 245, 246, 247, 198, 199, 200, 201, 194, 187, 188, 189, 190, 191, 192, 193, 248, 263, 597, 598, 599, 600, 447, 448, 449, 450, 478, 479, 480, 481, 50, 326, 327, 328, 329, 331, 332, 333, 334, 336, 338, 339, 340, 23, 341, 342, 343, 344, 345, 346, 347, 46, 45, 348, 349, 350, 351, 352, 44, 353, 354, 355, 356, 357, 358, 359, 360, 361, 362, 363, 364, 365, 367, 368, 369, 370, 51, 371, 372, 373, 374, 375, 376, 377, 378, 379, 380, 381, 382, 383, 384, 385, 386, 387, 388, 389, 390, 391, 392, 393, 394, 516, 517, 518, 519, 536, 537, 538, 539, 540, 607, 608, 609, 610, 611, 612, 613, 631, 632, 633, 634, 635, 641, 642, 643, 644, 645, 646, 636, 637, 638, 639, 640] (by decide +kernel) (by decide +kernel)
set_option maxRecDepth 20000 in
theorem gL_law_X4_digest : GoodIn wsL_law (wsV RL 128 RX4 yX4_digest wsX4_digest) := goodIn_app (goodIn_of _ (by decide +kernel)) ggL_law_X4_digest
set_option maxRecDepth 20000 in
theorem ggL_law_X5_digest : GoodIn wsL_law wsX5_digest := goodIn_r _ [604, 97, 605, 606, 98, 56, 178, 407, 61, 501, 502, 503, 5, 504, 405, 412, 505, 506, 507, 508, 278, 279, 280, 281, 282, 283, 284, 285, 286, 287, 288, 289, 57, 58, 455, 456, 457, 458, 403, 277, 249, 250, 251, 252, 253, 254, 271, 272, 273, 274, 275, 276, 459, 460, 461, 462, 429, 430, 431, 463, 464, 465, 466, 524, 525, 526, 527, 406, 404, 413, 414, 415, 416, 417, 364, 361, 365, 418, 419, 420, 421, 59, 317, 318, 319, 320, 422, 423, 424, 425, 426, 427, 428, 432, 433, 434, 435, 60, 528, 529, 530, 531, 545, 546, 547, 548, 614, 615, 616, 617, 618, 619, 620, 621, 622, 623, 624, 625, 626, 627, 628, 629, 630] (by decide +kernel) (by decide +kernel)
set_option maxRecDepth 20000 in
theorem gL_law_X5_digest : GoodIn wsL_law (wsV RL 132 RX5 yX5_digest wsX5_digest) := goodIn_app (goodIn_of _ (by decide +kernel)) ggL_law_X5_digest
theorem dL_law_0 : decode cL_law 0 = .ok (.new 8, 3) := by decide +kernel
theorem dL_law_3 : decode cL_law 3 = .ok (.dup, 1) := by decide +kernel
theorem dL_law_4 : decode cL_law 4 = .ok (.invokespecial 59, 3) := by decide +kernel
theorem dL_law_7 : decode cL_law 7 = .ok (.astore_n 1, 1) := by decide +kernel
theorem dL_law_8 : decode cL_law 8 = .ok (.new 60, 3) := by decide +kernel
theorem dL_law_11 : decode cL_law 11 = .ok (.dup, 1) := by decide +kernel
theorem dL_law_12 : decode cL_law 12 = .ok (.invokespecial 62, 3) := by decide +kernel
theorem dL_law_15 : decode cL_law 15 = .ok (.astore_n 2, 1) := by decide +kernel
theorem dL_law_16 : decode cL_law 16 = .ok (.iconst 1, 1) := by decide +kernel
theorem dL_law_17 : decode cL_law 17 = .ok (.newarray .long, 2) := by decide +kernel
theorem dL_law_19 : decode cL_law 19 = .ok (.astore_n 3, 1) := by decide +kernel
theorem dL_law_20 : decode cL_law 20 = .ok (.iconst 0, 1) := by decide +kernel
theorem dL_law_21 : decode cL_law 21 = .ok (.istore 4, 2) := by decide +kernel
theorem dL_law_23 : decode cL_law 23 = .ok (.iload 4, 2) := by decide +kernel
theorem dL_law_25 : decode cL_law 25 = .ok (.aload_n 0, 1) := by decide +kernel
theorem dL_law_26 : decode cL_law 26 = .ok (.arraylength, 1) := by decide +kernel
theorem dL_law_27 : decode cL_law 27 = .ok (.iconst 4, 1) := by decide +kernel
theorem dL_law_28 : decode cL_law 28 = .ok (.isub, 1) := by decide +kernel
theorem dL_law_29 : decode cL_law 29 = .ok (.if_icmp .gt 1043, 3) := by decide +kernel
theorem dL_law_32 : decode cL_law 32 = .ok (.aload_n 0, 1) := by decide +kernel
theorem dL_law_33 : decode cL_law 33 = .ok (.iload 4, 2) := by decide +kernel
theorem dL_law_35 : decode cL_law 35 = .ok (.iaload, 1) := by decide +kernel
theorem dL_law_36 : decode cL_law 36 = .ok (.bipush 31, 2) := by decide +kernel
theorem dL_law_38 : decode cL_law 38 = .ok (.iand, 1) := by decide +kernel
theorem dL_law_39 : decode cL_law 39 = .ok (.tableswitch 1027 0 17 #[85, 141, 197, 253, 297, 400, 503, 571, 634, 647, 703, 771, 827, 883, 896, 959, 972, 1013], 85) := by decide +kernel
theorem dL_law_124 : decode cL_law 124 = .ok (.aload_n 1, 1) := by decide +kernel
theorem dL_law_125 : decode cL_law 125 = .ok (.aload_n 0, 1) := by decide +kernel
theorem dL_law_126 : decode cL_law 126 = .ok (.iload 4, 2) := by decide +kernel
theorem dL_law_128 : decode cL_law 128 = .ok (.iconst 1, 1) := by decide +kernel
theorem dL_law_129 : decode cL_law 129 = .ok (.iadd, 1) := by decide +kernel
theorem dL_law_130 : decode cL_law 130 = .ok (.iaload, 1) := by decide +kernel
theorem dL_law_131 : decode cL_law 131 = .ok (.aload_n 3, 1) := by decide +kernel
theorem dL_law_132 : decode cL_law 132 = .ok (.invokestatic 63, 3) := by decide +kernel
theorem dL_law_135 : decode cL_law 135 = .ok (.istore 5, 2) := by decide +kernel
theorem dL_law_137 : decode cL_law 137 = .ok (.aload_n 2, 1) := by decide +kernel
theorem dL_law_138 : decode cL_law 138 = .ok (.aload_n 0, 1) := by decide +kernel
theorem dL_law_139 : decode cL_law 139 = .ok (.iload 4, 2) := by decide +kernel
theorem dL_law_141 : decode cL_law 141 = .ok (.iconst 1, 1) := by decide +kernel
theorem dL_law_142 : decode cL_law 142 = .ok (.iadd, 1) := by decide +kernel
theorem dL_law_143 : decode cL_law 143 = .ok (.iaload, 1) := by decide +kernel
theorem dL_law_144 : decode cL_law 144 = .ok (.invokevirtual 68, 3) := by decide +kernel
theorem dL_law_147 : decode cL_law 147 = .ok (.istore 6, 2) := by decide +kernel
theorem dL_law_149 : decode cL_law 149 = .ok (.aload_n 2, 1) := by decide +kernel
theorem dL_law_150 : decode cL_law 150 = .ok (.invokevirtual 69, 3) := by decide +kernel
theorem dL_law_153 : decode cL_law 153 = .ok (.iload 5, 2) := by decide +kernel
theorem dL_law_155 : decode cL_law 155 = .ok (.if_icmp .eq 5, 3) := by decide +kernel
theorem dL_law_158 : decode cL_law 158 = .ok (.iconst 0, 1) := by decide +kernel
theorem dL_law_159 : decode cL_law 159 = .ok (.ireturn, 1) := by decide +kernel
theorem dL_law_160 : decode cL_law 160 = .ok (.iload 5, 2) := by decide +kernel
theorem dL_law_162 : decode cL_law 162 = .ok (.ifCond .ne 15, 3) := by decide +kernel
theorem dL_law_165 : decode cL_law 165 = .ok (.aload_n 3, 1) := by decide +kernel
theorem dL_law_166 : decode cL_law 166 = .ok (.iconst 0, 1) := by decide +kernel
theorem dL_law_167 : decode cL_law 167 = .ok (.laload, 1) := by decide +kernel
theorem dL_law_168 : decode cL_law 168 = .ok (.iload 6, 2) := by decide +kernel
theorem dL_law_170 : decode cL_law 170 = .ok (.i2l, 1) := by decide +kernel
theorem dL_law_171 : decode cL_law 171 = .ok (.lcmp, 1) := by decide +kernel
theorem dL_law_172 : decode cL_law 172 = .ok (.ifCond .eq 5, 3) := by decide +kernel
theorem dL_law_175 : decode cL_law 175 = .ok (.iconst 0, 1) := by decide +kernel
theorem dL_law_176 : decode cL_law 176 = .ok (.ireturn, 1) := by decide +kernel
theorem dL_law_177 : decode cL_law 177 = .ok (.goto 889, 3) := by decide +kernel
theorem dL_law_180 : decode cL_law 180 = .ok (.aload_n 1, 1) := by decide +kernel
theorem dL_law_181 : decode cL_law 181 = .ok (.aload_n 0, 1) := by decide +kernel
theorem dL_law_182 : decode cL_law 182 = .ok (.iload 4, 2) := by decide +kernel
theorem dL_law_184 : decode cL_law 184 = .ok (.iconst 1, 1) := by decide +kernel
theorem dL_law_185 : decode cL_law 185 = .ok (.iadd, 1) := by decide +kernel
theorem dL_law_186 : decode cL_law 186 = .ok (.iaload, 1) := by decide +kernel
theorem dL_law_187 : decode cL_law 187 = .ok (.aload_n 3, 1) := by decide +kernel
theorem dL_law_188 : decode cL_law 188 = .ok (.invokestatic 72, 3) := by decide +kernel
theorem dL_law_191 : decode cL_law 191 = .ok (.istore 5, 2) := by decide +kernel
theorem dL_law_193 : decode cL_law 193 = .ok (.aload_n 2, 1) := by decide +kernel
theorem dL_law_194 : decode cL_law 194 = .ok (.aload_n 0, 1) := by decide +kernel
theorem dL_law_195 : decode cL_law 195 = .ok (.iload 4, 2) := by decide +kernel
theorem dL_law_197 : decode cL_law 197 = .ok (.iconst 1, 1) := by decide +kernel
theorem dL_law_198 : decode cL_law 198 = .ok (.iadd, 1) := by decide +kernel
theorem dL_law_199 : decode cL_law 199 = .ok (.iaload, 1) := by decide +kernel
theorem dL_law_200 : decode cL_law 200 = .ok (.invokevirtual 74, 3) := by decide +kernel
theorem dL_law_203 : decode cL_law 203 = .ok (.istore 6, 2) := by decide +kernel
theorem dL_law_205 : decode cL_law 205 = .ok (.aload_n 2, 1) := by decide +kernel
theorem dL_law_206 : decode cL_law 206 = .ok (.invokevirtual 69, 3) := by decide +kernel
theorem dL_law_209 : decode cL_law 209 = .ok (.iload 5, 2) := by decide +kernel
theorem dL_law_211 : decode cL_law 211 = .ok (.if_icmp .eq 5, 3) := by decide +kernel
theorem dL_law_214 : decode cL_law 214 = .ok (.iconst 0, 1) := by decide +kernel
theorem dL_law_215 : decode cL_law 215 = .ok (.ireturn, 1) := by decide +kernel
theorem dL_law_216 : decode cL_law 216 = .ok (.iload 5, 2) := by decide +kernel
theorem dL_law_218 : decode cL_law 218 = .ok (.ifCond .ne 15, 3) := by decide +kernel
theorem dL_law_221 : decode cL_law 221 = .ok (.aload_n 3, 1) := by decide +kernel
theorem dL_law_222 : decode cL_law 222 = .ok (.iconst 0, 1) := by decide +kernel
theorem dL_law_223 : decode cL_law 223 = .ok (.laload, 1) := by decide +kernel
theorem dL_law_224 : decode cL_law 224 = .ok (.iload 6, 2) := by decide +kernel
theorem dL_law_226 : decode cL_law 226 = .ok (.i2l, 1) := by decide +kernel
theorem dL_law_227 : decode cL_law 227 = .ok (.lcmp, 1) := by decide +kernel
theorem dL_law_228 : decode cL_law 228 = .ok (.ifCond .eq 5, 3) := by decide +kernel
theorem dL_law_231 : decode cL_law 231 = .ok (.iconst 0, 1) := by decide +kernel
theorem dL_law_232 : decode cL_law 232 = .ok (.ireturn, 1) := by decide +kernel
theorem dL_law_233 : decode cL_law 233 = .ok (.goto 833, 3) := by decide +kernel
theorem dL_law_236 : decode cL_law 236 = .ok (.aload_n 1, 1) := by decide +kernel
theorem dL_law_237 : decode cL_law 237 = .ok (.aload_n 0, 1) := by decide +kernel
theorem dL_law_238 : decode cL_law 238 = .ok (.iload 4, 2) := by decide +kernel
theorem dL_law_240 : decode cL_law 240 = .ok (.iconst 1, 1) := by decide +kernel
theorem dL_law_241 : decode cL_law 241 = .ok (.iadd, 1) := by decide +kernel
theorem dL_law_242 : decode cL_law 242 = .ok (.iaload, 1) := by decide +kernel
theorem dL_law_243 : decode cL_law 243 = .ok (.aload_n 3, 1) := by decide +kernel
theorem dL_law_244 : decode cL_law 244 = .ok (.invokestatic 75, 3) := by decide +kernel
theorem dL_law_247 : decode cL_law 247 = .ok (.istore 5, 2) := by decide +kernel
theorem dL_law_249 : decode cL_law 249 = .ok (.aload_n 2, 1) := by decide +kernel
theorem dL_law_250 : decode cL_law 250 = .ok (.aload_n 0, 1) := by decide +kernel
theorem dL_law_251 : decode cL_law 251 = .ok (.iload 4, 2) := by decide +kernel
theorem dL_law_253 : decode cL_law 253 = .ok (.iconst 1, 1) := by decide +kernel
theorem dL_law_254 : decode cL_law 254 = .ok (.iadd, 1) := by decide +kernel
theorem dL_law_255 : decode cL_law 255 = .ok (.iaload, 1) := by decide +kernel
theorem dL_law_256 : decode cL_law 256 = .ok (.invokevirtual 77, 3) := by decide +kernel
theorem dL_law_259 : decode cL_law 259 = .ok (.istore 6, 2) := by decide +kernel
theorem dL_law_261 : decode cL_law 261 = .ok (.aload_n 2, 1) := by decide +kernel
theorem dL_law_262 : decode cL_law 262 = .ok (.invokevirtual 69, 3) := by decide +kernel
theorem dL_law_265 : decode cL_law 265 = .ok (.iload 5, 2) := by decide +kernel
theorem dL_law_267 : decode cL_law 267 = .ok (.if_icmp .eq 5, 3) := by decide +kernel
theorem dL_law_270 : decode cL_law 270 = .ok (.iconst 0, 1) := by decide +kernel
theorem dL_law_271 : decode cL_law 271 = .ok (.ireturn, 1) := by decide +kernel
theorem dL_law_272 : decode cL_law 272 = .ok (.iload 5, 2) := by decide +kernel
theorem dL_law_274 : decode cL_law 274 = .ok (.ifCond .ne 15, 3) := by decide +kernel
theorem dL_law_277 : decode cL_law 277 = .ok (.aload_n 3, 1) := by decide +kernel
theorem dL_law_278 : decode cL_law 278 = .ok (.iconst 0, 1) := by decide +kernel
theorem dL_law_279 : decode cL_law 279 = .ok (.laload, 1) := by decide +kernel
theorem dL_law_280 : decode cL_law 280 = .ok (.iload 6, 2) := by decide +kernel
theorem dL_law_282 : decode cL_law 282 = .ok (.i2l, 1) := by decide +kernel
theorem dL_law_283 : decode cL_law 283 = .ok (.lcmp, 1) := by decide +kernel
theorem dL_law_284 : decode cL_law 284 = .ok (.ifCond .eq 5, 3) := by decide +kernel
theorem dL_law_287 : decode cL_law 287 = .ok (.iconst 0, 1) := by decide +kernel
theorem dL_law_288 : decode cL_law 288 = .ok (.ireturn, 1) := by decide +kernel
theorem dL_law_289 : decode cL_law 289 = .ok (.goto 777, 3) := by decide +kernel
theorem dL_law_292 : decode cL_law 292 = .ok (.aload_n 1, 1) := by decide +kernel
theorem dL_law_293 : decode cL_law 293 = .ok (.aload_n 3, 1) := by decide +kernel
theorem dL_law_294 : decode cL_law 294 = .ok (.invokestatic 78, 3) := by decide +kernel
theorem dL_law_297 : decode cL_law 297 = .ok (.istore 5, 2) := by decide +kernel
theorem dL_law_299 : decode cL_law 299 = .ok (.aload_n 2, 1) := by decide +kernel
theorem dL_law_300 : decode cL_law 300 = .ok (.invokevirtual 81, 3) := by decide +kernel
theorem dL_law_303 : decode cL_law 303 = .ok (.istore 6, 2) := by decide +kernel
theorem dL_law_305 : decode cL_law 305 = .ok (.aload_n 2, 1) := by decide +kernel
theorem dL_law_306 : decode cL_law 306 = .ok (.invokevirtual 69, 3) := by decide +kernel
theorem dL_law_309 : decode cL_law 309 = .ok (.iload 5, 2) := by decide +kernel
theorem dL_law_311 : decode cL_law 311 = .ok (.if_icmp .eq 5, 3) := by decide +kernel
theorem dL_law_314 : decode cL_law 314 = .ok (.iconst 0, 1) := by decide +kernel
theorem dL_law_315 : decode cL_law 315 = .ok (.ireturn, 1) := by decide +kernel
theorem dL_law_316 : decode cL_law 316 = .ok (.iload 5, 2) := by decide +kernel
theorem dL_law_318 : decode cL_law 318 = .ok (.ifCond .ne 15, 3) := by decide +kernel
theorem dL_law_321 : decode cL_law 321 = .ok (.aload_n 3, 1) := by decide +kernel
theorem dL_law_322 : decode cL_law 322 = .ok (.iconst 0, 1) := by decide +kernel
theorem dL_law_323 : decode cL_law 323 = .ok (.laload, 1) := by decide +kernel
theorem dL_law_324 : decode cL_law 324 = .ok (.iload 6, 2) := by decide +kernel
theorem dL_law_326 : decode cL_law 326 = .ok (.i2l, 1) := by decide +kernel
theorem dL_law_327 : decode cL_law 327 = .ok (.lcmp, 1) := by decide +kernel
theorem dL_law_328 : decode cL_law 328 = .ok (.ifCond .eq 5, 3) := by decide +kernel
theorem dL_law_331 : decode cL_law 331 = .ok (.iconst 0, 1) := by decide +kernel
theorem dL_law_332 : decode cL_law 332 = .ok (.ireturn, 1) := by decide +kernel
theorem dL_law_333 : decode cL_law 333 = .ok (.goto 733, 3) := by decide +kernel
theorem dL_law_336 : decode cL_law 336 = .ok (.aload_n 1, 1) := by decide +kernel
theorem dL_law_337 : decode cL_law 337 = .ok (.aload_n 0, 1) := by decide +kernel
theorem dL_law_338 : decode cL_law 338 = .ok (.iload 4, 2) := by decide +kernel
theorem dL_law_340 : decode cL_law 340 = .ok (.iconst 1, 1) := by decide +kernel
theorem dL_law_341 : decode cL_law 341 = .ok (.iadd, 1) := by decide +kernel
theorem dL_law_342 : decode cL_law 342 = .ok (.iaload, 1) := by decide +kernel
theorem dL_law_343 : decode cL_law 343 = .ok (.aload_n 0, 1) := by decide +kernel
theorem dL_law_344 : decode cL_law 344 = .ok (.iload 4, 2) := by decide +kernel
theorem dL_law_346 : decode cL_law 346 = .ok (.iconst 2, 1) := by decide +kernel
theorem dL_law_347 : decode cL_law 347 = .ok (.iadd, 1) := by decide +kernel
theorem dL_law_348 : decode cL_law 348 = .ok (.iaload, 1) := by decide +kernel
theorem dL_law_349 : decode cL_law 349 = .ok (.aload_n 0, 1) := by decide +kernel
theorem dL_law_350 : decode cL_law 350 = .ok (.iload 4, 2) := by decide +kernel
theorem dL_law_352 : decode cL_law 352 = .ok (.iconst 3, 1) := by decide +kernel
theorem dL_law_353 : decode cL_law 353 = .ok (.iadd, 1) := by decide +kernel
theorem dL_law_354 : decode cL_law 354 = .ok (.iaload, 1) := by decide +kernel
theorem dL_law_355 : decode cL_law 355 = .ok (.ifCond .eq 7, 3) := by decide +kernel
theorem dL_law_358 : decode cL_law 358 = .ok (.iconst 1, 1) := by decide +kernel
theorem dL_law_359 : decode cL_law 359 = .ok (.goto 4, 3) := by decide +kernel
theorem dL_law_362 : decode cL_law 362 = .ok (.iconst 0, 1) := by decide +kernel
theorem dL_law_363 : decode cL_law 363 = .ok (.aload_n 3, 1) := by decide +kernel
theorem dL_law_364 : decode cL_law 364 = .ok (.invokestatic 82, 3) := by decide +kernel
theorem dL_law_367 : decode cL_law 367 = .ok (.istore 5, 2) := by decide +kernel
theorem dL_law_369 : decode cL_law 369 = .ok (.aload_n 2, 1) := by decide +kernel
theorem dL_law_370 : decode cL_law 370 = .ok (.aload_n 0, 1) := by decide +kernel
theorem dL_law_371 : decode cL_law 371 = .ok (.iload 4, 2) := by decide +kernel
theorem dL_law_373 : decode cL_law 373 = .ok (.iconst 1, 1) := by decide +kernel
theorem dL_law_374 : decode cL_law 374 = .ok (.iadd, 1) := by decide +kernel
theorem dL_law_375 : decode cL_law 375 = .ok (.iaload, 1) := by decide +kernel
theorem dL_law_376 : decode cL_law 376 = .ok (.aload_n 0, 1) := by decide +kernel
theorem dL_law_377 : decode cL_law 377 = .ok (.iload 4, 2) := by decide +kernel
theorem dL_law_379 : decode cL_law 379 = .ok (.iconst 2, 1) := by decide +kernel
theorem dL_law_380 : decode cL_law 380 = .ok (.iadd, 1) := by decide +kernel
theorem dL_law_381 : decode cL_law 381 = .ok (.iaload, 1) := by decide +kernel
theorem dL_law_382 : decode cL_law 382 = .ok (.aload_n 0, 1) := by decide +kernel
theorem dL_law_383 : decode cL_law 383 = .ok (.iload 4, 2) := by decide +kernel
theorem dL_law_385 : decode cL_law 385 = .ok (.iconst 3, 1) := by decide +kernel
theorem dL_law_386 : decode cL_law 386 = .ok (.iadd, 1) := by decide +kernel
theorem dL_law_387 : decode cL_law 387 = .ok (.iaload, 1) := by decide +kernel
theorem dL_law_388 : decode cL_law 388 = .ok (.ifCond .eq 7, 3) := by decide +kernel
theorem dL_law_391 : decode cL_law 391 = .ok (.iconst 1, 1) := by decide +kernel
theorem dL_law_392 : decode cL_law 392 = .ok (.goto 4, 3) := by decide +kernel
theorem dL_law_395 : decode cL_law 395 = .ok (.iconst 0, 1) := by decide +kernel
theorem dL_law_396 : decode cL_law 396 = .ok (.invokevirtual 85, 3) := by decide +kernel
theorem dL_law_399 : decode cL_law 399 = .ok (.istore 6, 2) := by decide +kernel
theorem dL_law_401 : decode cL_law 401 = .ok (.aload_n 2, 1) := by decide +kernel
theorem dL_law_402 : decode cL_law 402 = .ok (.invokevirtual 69, 3) := by decide +kernel
theorem dL_law_405 : decode cL_law 405 = .ok (.iload 5, 2) := by decide +kernel
theorem dL_law_407 : decode cL_law 407 = .ok (.if_icmp .eq 5, 3) := by decide +kernel
theorem dL_law_410 : decode cL_law 410 = .ok (.iconst 0, 1) := by decide +kernel
theorem dL_law_411 : decode cL_law 411 = .ok (.ireturn, 1) := by decide +kernel
theorem dL_law_412 : decode cL_law 412 = .ok (.iload 5, 2) := by decide +kernel
theorem dL_law_414 : decode cL_law 414 = .ok (.ifCond .ne 22, 3) := by decide +kernel
theorem dL_law_417 : decode cL_law 417 = .ok (.aload_n 3, 1) := by decide +kernel
theorem dL_law_418 : decode cL_law 418 = .ok (.iconst 0, 1) := by decide +kernel
theorem dL_law_419 : decode cL_law 419 = .ok (.laload, 1) := by decide +kernel
theorem dL_law_420 : decode cL_law 420 = .ok (.iload 6, 2) := by decide +kernel
theorem dL_law_422 : decode cL_law 422 = .ok (.ifCond .eq 7, 3) := by decide +kernel
theorem dL_law_425 : decode cL_law 425 = .ok (.lconst 1, 1) := by decide +kernel
theorem dL_law_426 : decode cL_law 426 = .ok (.goto 4, 3) := by decide +kernel
theorem dL_law_429 : decode cL_law 429 = .ok (.lconst 0, 1) := by decide +kernel
theorem dL_law_430 : decode cL_law 430 = .ok (.lcmp, 1) := by decide +kernel
theorem dL_law_431 : decode cL_law 431 = .ok (.ifCond .eq 5, 3) := by decide +kernel
theorem dL_law_434 : decode cL_law 434 = .ok (.iconst 0, 1) := by decide +kernel
theorem dL_law_435 : decode cL_law 435 = .ok (.ireturn, 1) := by decide +kernel
theorem dL_law_436 : decode cL_law 436 = .ok (.goto 630, 3) := by decide +kernel
theorem dL_law_439 : decode cL_law 439 = .ok (.aload_n 1, 1) := by decide +kernel
theorem dL_law_440 : decode cL_law 440 = .ok (.aload_n 0, 1) := by decide +kernel
theorem dL_law_441 : decode cL_law 441 = .ok (.iload 4, 2) := by decide +kernel
theorem dL_law_443 : decode cL_law 443 = .ok (.iconst 1, 1) := by decide +kernel
theorem dL_law_444 : decode cL_law 444 = .ok (.iadd, 1) := by decide +kernel
theorem dL_law_445 : decode cL_law 445 = .ok (.iaload, 1) := by decide +kernel
theorem dL_law_446 : decode cL_law 446 = .ok (.aload_n 0, 1) := by decide +kernel
theorem dL_law_447 : decode cL_law 447 = .ok (.iload 4, 2) := by decide +kernel
theorem dL_law_449 : decode cL_law 449 = .ok (.iconst 2, 1) := by decide +kernel
theorem dL_law_450 : decode cL_law 450 = .ok (.iadd, 1) := by decide +kernel
theorem dL_law_451 : decode cL_law 451 = .ok (.iaload, 1) := by decide +kernel
theorem dL_law_452 : decode cL_law 452 = .ok (.aload_n 0, 1) := by decide +kernel
theorem dL_law_453 : decode cL_law 453 = .ok (.iload 4, 2) := by decide +kernel
theorem dL_law_455 : decode cL_law 455 = .ok (.iconst 3, 1) := by decide +kernel
theorem dL_law_456 : decode cL_law 456 = .ok (.iadd, 1) := by decide +kernel
theorem dL_law_457 : decode cL_law 457 = .ok (.iaload, 1) := by decide +kernel
theorem dL_law_458 : decode cL_law 458 = .ok (.ifCond .eq 7, 3) := by decide +kernel
theorem dL_law_461 : decode cL_law 461 = .ok (.iconst 1, 1) := by decide +kernel
theorem dL_law_462 : decode cL_law 462 = .ok (.goto 4, 3) := by decide +kernel
theorem dL_law_465 : decode cL_law 465 = .ok (.iconst 0, 1) := by decide +kernel
theorem dL_law_466 : decode cL_law 466 = .ok (.aload_n 3, 1) := by decide +kernel
theorem dL_law_467 : decode cL_law 467 = .ok (.invokestatic 86, 3) := by decide +kernel
theorem dL_law_470 : decode cL_law 470 = .ok (.istore 5, 2) := by decide +kernel
theorem dL_law_472 : decode cL_law 472 = .ok (.aload_n 2, 1) := by decide +kernel
theorem dL_law_473 : decode cL_law 473 = .ok (.aload_n 0, 1) := by decide +kernel
theorem dL_law_474 : decode cL_law 474 = .ok (.iload 4, 2) := by decide +kernel
theorem dL_law_476 : decode cL_law 476 = .ok (.iconst 1, 1) := by decide +kernel
theorem dL_law_477 : decode cL_law 477 = .ok (.iadd, 1) := by decide +kernel
theorem dL_law_478 : decode cL_law 478 = .ok (.iaload, 1) := by decide +kernel
theorem dL_law_479 : decode cL_law 479 = .ok (.aload_n 0, 1) := by decide +kernel
theorem dL_law_480 : decode cL_law 480 = .ok (.iload 4, 2) := by decide +kernel
theorem dL_law_482 : decode cL_law 482 = .ok (.iconst 2, 1) := by decide +kernel
theorem dL_law_483 : decode cL_law 483 = .ok (.iadd, 1) := by decide +kernel
theorem dL_law_484 : decode cL_law 484 = .ok (.iaload, 1) := by decide +kernel
theorem dL_law_485 : decode cL_law 485 = .ok (.aload_n 0, 1) := by decide +kernel
theorem dL_law_486 : decode cL_law 486 = .ok (.iload 4, 2) := by decide +kernel
theorem dL_law_488 : decode cL_law 488 = .ok (.iconst 3, 1) := by decide +kernel
theorem dL_law_489 : decode cL_law 489 = .ok (.iadd, 1) := by decide +kernel
theorem dL_law_490 : decode cL_law 490 = .ok (.iaload, 1) := by decide +kernel
theorem dL_law_491 : decode cL_law 491 = .ok (.ifCond .eq 7, 3) := by decide +kernel
theorem dL_law_494 : decode cL_law 494 = .ok (.iconst 1, 1) := by decide +kernel
theorem dL_law_495 : decode cL_law 495 = .ok (.goto 4, 3) := by decide +kernel
theorem dL_law_498 : decode cL_law 498 = .ok (.iconst 0, 1) := by decide +kernel
theorem dL_law_499 : decode cL_law 499 = .ok (.invokevirtual 88, 3) := by decide +kernel
theorem dL_law_502 : decode cL_law 502 = .ok (.istore 6, 2) := by decide +kernel
theorem dL_law_504 : decode cL_law 504 = .ok (.aload_n 2, 1) := by decide +kernel
theorem dL_law_505 : decode cL_law 505 = .ok (.invokevirtual 69, 3) := by decide +kernel
theorem dL_law_508 : decode cL_law 508 = .ok (.iload 5, 2) := by decide +kernel
theorem dL_law_510 : decode cL_law 510 = .ok (.if_icmp .eq 5, 3) := by decide +kernel
theorem dL_law_513 : decode cL_law 513 = .ok (.iconst 0, 1) := by decide +kernel
theorem dL_law_514 : decode cL_law 514 = .ok (.ireturn, 1) := by decide +kernel
theorem dL_law_515 : decode cL_law 515 = .ok (.iload 5, 2) := by decide +kernel
theorem dL_law_517 : decode cL_law 517 = .ok (.ifCond .ne 22, 3) := by decide +kernel
theorem dL_law_520 : decode cL_law 520 = .ok (.aload_n 3, 1) := by decide +kernel
theorem dL_law_521 : decode cL_law 521 = .ok (.iconst 0, 1) := by decide +kernel
theorem dL_law_522 : decode cL_law 522 = .ok (.laload, 1) := by decide +kernel
theorem dL_law_523 : decode cL_law 523 = .ok (.iload 6, 2) := by decide +kernel
theorem dL_law_525 : decode cL_law 525 = .ok (.ifCond .eq 7, 3) := by decide +kernel
theorem dL_law_528 : decode cL_law 528 = .ok (.lconst 1, 1) := by decide +kernel
theorem dL_law_529 : decode cL_law 529 = .ok (.goto 4, 3) := by decide +kernel
theorem dL_law_532 : decode cL_law 532 = .ok (.lconst 0, 1) := by decide +kernel
theorem dL_law_533 : decode cL_law 533 = .ok (.lcmp, 1) := by decide +kernel
theorem dL_law_534 : decode cL_law 534 = .ok (.ifCond .eq 5, 3) := by decide +kernel
theorem dL_law_537 : decode cL_law 537 = .ok (.iconst 0, 1) := by decide +kernel
theorem dL_law_538 : decode cL_law 538 = .ok (.ireturn, 1) := by decide +kernel
theorem dL_law_539 : decode cL_law 539 = .ok (.goto 527, 3) := by decide +kernel
theorem dL_law_542 : decode cL_law 542 = .ok (.aload_n 1, 1) := by decide +kernel
theorem dL_law_543 : decode cL_law 543 = .ok (.aload_n 0, 1) := by decide +kernel
theorem dL_law_544 : decode cL_law 544 = .ok (.iload 4, 2) := by decide +kernel
theorem dL_law_546 : decode cL_law 546 = .ok (.iconst 1, 1) := by decide +kernel
theorem dL_law_547 : decode cL_law 547 = .ok (.iadd, 1) := by decide +kernel
theorem dL_law_548 : decode cL_law 548 = .ok (.iaload, 1) := by decide +kernel
theorem dL_law_549 : decode cL_law 549 = .ok (.aload_n 0, 1) := by decide +kernel
theorem dL_law_550 : decode cL_law 550 = .ok (.iload 4, 2) := by decide +kernel
theorem dL_law_552 : decode cL_law 552 = .ok (.iconst 2, 1) := by decide +kernel
theorem dL_law_553 : decode cL_law 553 = .ok (.iadd, 1) := by decide +kernel
theorem dL_law_554 : decode cL_law 554 = .ok (.iaload, 1) := by decide +kernel
theorem dL_law_555 : decode cL_law 555 = .ok (.aload_n 3, 1) := by decide +kernel
theorem dL_law_556 : decode cL_law 556 = .ok (.invokestatic 89, 3) := by decide +kernel
theorem dL_law_559 : decode cL_law 559 = .ok (.istore 5, 2) := by decide +kernel
theorem dL_law_561 : decode cL_law 561 = .ok (.aload_n 2, 1) := by decide +kernel
theorem dL_law_562 : decode cL_law 562 = .ok (.aload_n 0, 1) := by decide +kernel
theorem dL_law_563 : decode cL_law 563 = .ok (.iload 4, 2) := by decide +kernel
theorem dL_law_565 : decode cL_law 565 = .ok (.iconst 1, 1) := by decide +kernel
theorem dL_law_566 : decode cL_law 566 = .ok (.iadd, 1) := by decide +kernel
theorem dL_law_567 : decode cL_law 567 = .ok (.iaload, 1) := by decide +kernel
theorem dL_law_568 : decode cL_law 568 = .ok (.aload_n 0, 1) := by decide +kernel
theorem dL_law_569 : decode cL_law 569 = .ok (.iload 4, 2) := by decide +kernel
theorem dL_law_571 : decode cL_law 571 = .ok (.iconst 2, 1) := by decide +kernel
theorem dL_law_572 : decode cL_law 572 = .ok (.iadd, 1) := by decide +kernel
theorem dL_law_573 : decode cL_law 573 = .ok (.iaload, 1) := by decide +kernel
theorem dL_law_574 : decode cL_law 574 = .ok (.invokevirtual 92, 3) := by decide +kernel
theorem dL_law_577 : decode cL_law 577 = .ok (.istore 6, 2) := by decide +kernel
theorem dL_law_579 : decode cL_law 579 = .ok (.aload_n 2, 1) := by decide +kernel
theorem dL_law_580 : decode cL_law 580 = .ok (.invokevirtual 69, 3) := by decide +kernel
theorem dL_law_583 : decode cL_law 583 = .ok (.iload 5, 2) := by decide +kernel
theorem dL_law_585 : decode cL_law 585 = .ok (.if_icmp .eq 5, 3) := by decide +kernel
theorem dL_law_588 : decode cL_law 588 = .ok (.iconst 0, 1) := by decide +kernel
theorem dL_law_589 : decode cL_law 589 = .ok (.ireturn, 1) := by decide +kernel
theorem dL_law_590 : decode cL_law 590 = .ok (.iload 5, 2) := by decide +kernel
theorem dL_law_592 : decode cL_law 592 = .ok (.ifCond .ne 15, 3) := by decide +kernel
theorem dL_law_595 : decode cL_law 595 = .ok (.aload_n 3, 1) := by decide +kernel
theorem dL_law_596 : decode cL_law 596 = .ok (.iconst 0, 1) := by decide +kernel
theorem dL_law_597 : decode cL_law 597 = .ok (.laload, 1) := by decide +kernel
theorem dL_law_598 : decode cL_law 598 = .ok (.iload 6, 2) := by decide +kernel
theorem dL_law_600 : decode cL_law 600 = .ok (.i2l, 1) := by decide +kernel
theorem dL_law_601 : decode cL_law 601 = .ok (.lcmp, 1) := by decide +kernel
theorem dL_law_602 : decode cL_law 602 = .ok (.ifCond .eq 5, 3) := by decide +kernel
theorem dL_law_605 : decode cL_law 605 = .ok (.iconst 0, 1) := by decide +kernel
theorem dL_law_606 : decode cL_law 606 = .ok (.ireturn, 1) := by decide +kernel
theorem dL_law_607 : decode cL_law 607 = .ok (.goto 459, 3) := by decide +kernel
theorem dL_law_610 : decode cL_law 610 = .ok (.aload_n 1, 1) := by decide +kernel
theorem dL_law_611 : decode cL_law 611 = .ok (.aload_n 0, 1) := by decide +kernel
theorem dL_law_612 : decode cL_law 612 = .ok (.iload 4, 2) := by decide +kernel
theorem dL_law_614 : decode cL_law 614 = .ok (.iconst 1, 1) := by decide +kernel
theorem dL_law_615 : decode cL_law 615 = .ok (.iadd, 1) := by decide +kernel
theorem dL_law_616 : decode cL_law 616 = .ok (.iaload, 1) := by decide +kernel
theorem dL_law_617 : decode cL_law 617 = .ok (.aload_n 3, 1) := by decide +kernel
theorem dL_law_618 : decode cL_law 618 = .ok (.invokestatic 93, 3) := by decide +kernel
theorem dL_law_621 : decode cL_law 621 = .ok (.istore 5, 2) := by decide +kernel
theorem dL_law_623 : decode cL_law 623 = .ok (.aload_n 2, 1) := by decide +kernel
theorem dL_law_624 : decode cL_law 624 = .ok (.aload_n 0, 1) := by decide +kernel
theorem dL_law_625 : decode cL_law 625 = .ok (.iload 4, 2) := by decide +kernel
theorem dL_law_627 : decode cL_law 627 = .ok (.iconst 1, 1) := by decide +kernel
theorem dL_law_628 : decode cL_law 628 = .ok (.iadd, 1) := by decide +kernel
theorem dL_law_629 : decode cL_law 629 = .ok (.iaload, 1) := by decide +kernel
theorem dL_law_630 : decode cL_law 630 = .ok (.invokevirtual 95, 3) := by decide +kernel
theorem dL_law_633 : decode cL_law 633 = .ok (.istore 6, 2) := by decide +kernel
theorem dL_law_635 : decode cL_law 635 = .ok (.aload_n 2, 1) := by decide +kernel
theorem dL_law_636 : decode cL_law 636 = .ok (.invokevirtual 69, 3) := by decide +kernel
theorem dL_law_639 : decode cL_law 639 = .ok (.iload 5, 2) := by decide +kernel
theorem dL_law_641 : decode cL_law 641 = .ok (.if_icmp .eq 5, 3) := by decide +kernel
theorem dL_law_644 : decode cL_law 644 = .ok (.iconst 0, 1) := by decide +kernel
theorem dL_law_645 : decode cL_law 645 = .ok (.ireturn, 1) := by decide +kernel
theorem dL_law_646 : decode cL_law 646 = .ok (.iload 5, 2) := by decide +kernel
theorem dL_law_648 : decode cL_law 648 = .ok (.ifCond .ne 22, 3) := by decide +kernel
theorem dL_law_651 : decode cL_law 651 = .ok (.aload_n 3, 1) := by decide +kernel
theorem dL_law_652 : decode cL_law 652 = .ok (.iconst 0, 1) := by decide +kernel
theorem dL_law_653 : decode cL_law 653 = .ok (.laload, 1) := by decide +kernel
theorem dL_law_654 : decode cL_law 654 = .ok (.iload 6, 2) := by decide +kernel
theorem dL_law_656 : decode cL_law 656 = .ok (.ifCond .eq 7, 3) := by decide +kernel
theorem dL_law_659 : decode cL_law 659 = .ok (.lconst 1, 1) := by decide +kernel
theorem dL_law_660 : decode cL_law 660 = .ok (.goto 4, 3) := by decide +kernel
theorem dL_law_663 : decode cL_law 663 = .ok (.lconst 0, 1) := by decide +kernel
theorem dL_law_664 : decode cL_law 664 = .ok (.lcmp, 1) := by decide +kernel
theorem dL_law_665 : decode cL_law 665 = .ok (.ifCond .eq 5, 3) := by decide +kernel
theorem dL_law_668 : decode cL_law 668 = .ok (.iconst 0, 1) := by decide +kernel
theorem dL_law_669 : decode cL_law 669 = .ok (.ireturn, 1) := by decide +kernel
theorem dL_law_670 : decode cL_law 670 = .ok (.goto 396, 3) := by decide +kernel
theorem dL_law_673 : decode cL_law 673 = .ok (.aload_n 1, 1) := by decide +kernel
theorem dL_law_674 : decode cL_law 674 = .ok (.invokevirtual 96, 3) := by decide +kernel
theorem dL_law_677 : decode cL_law 677 = .ok (.aload_n 2, 1) := by decide +kernel
theorem dL_law_678 : decode cL_law 678 = .ok (.invokevirtual 99, 3) := by decide +kernel
theorem dL_law_681 : decode cL_law 681 = .ok (.if_icmp .eq 385, 3) := by decide +kernel
theorem dL_law_684 : decode cL_law 684 = .ok (.iconst 0, 1) := by decide +kernel
theorem dL_law_685 : decode cL_law 685 = .ok (.ireturn, 1) := by decide +kernel
theorem dL_law_686 : decode cL_law 686 = .ok (.aload_n 1, 1) := by decide +kernel
theorem dL_law_687 : decode cL_law 687 = .ok (.aload_n 0, 1) := by decide +kernel
theorem dL_law_688 : decode cL_law 688 = .ok (.iload 4, 2) := by decide +kernel
theorem dL_law_690 : decode cL_law 690 = .ok (.iconst 1, 1) := by decide +kernel
theorem dL_law_691 : decode cL_law 691 = .ok (.iadd, 1) := by decide +kernel
theorem dL_law_692 : decode cL_law 692 = .ok (.iaload, 1) := by decide +kernel
theorem dL_law_693 : decode cL_law 693 = .ok (.aload_n 3, 1) := by decide +kernel
theorem dL_law_694 : decode cL_law 694 = .ok (.invokestatic 100, 3) := by decide +kernel
theorem dL_law_697 : decode cL_law 697 = .ok (.istore 5, 2) := by decide +kernel
theorem dL_law_699 : decode cL_law 699 = .ok (.aload_n 2, 1) := by decide +kernel
theorem dL_law_700 : decode cL_law 700 = .ok (.aload_n 0, 1) := by decide +kernel
theorem dL_law_701 : decode cL_law 701 = .ok (.iload 4, 2) := by decide +kernel
theorem dL_law_703 : decode cL_law 703 = .ok (.iconst 1, 1) := by decide +kernel
theorem dL_law_704 : decode cL_law 704 = .ok (.iadd, 1) := by decide +kernel
theorem dL_law_705 : decode cL_law 705 = .ok (.iaload, 1) := by decide +kernel
theorem dL_law_706 : decode cL_law 706 = .ok (.invokevirtual 102, 3) := by decide +kernel
theorem dL_law_709 : decode cL_law 709 = .ok (.istore 6, 2) := by decide +kernel
theorem dL_law_711 : decode cL_law 711 = .ok (.aload_n 2, 1) := by decide +kernel
theorem dL_law_712 : decode cL_law 712 = .ok (.invokevirtual 69, 3) := by decide +kernel
theorem dL_law_715 : decode cL_law 715 = .ok (.iload 5, 2) := by decide +kernel
theorem dL_law_717 : decode cL_law 717 = .ok (.if_icmp .eq 5, 3) := by decide +kernel
theorem dL_law_720 : decode cL_law 720 = .ok (.iconst 0, 1) := by decide +kernel
theorem dL_law_721 : decode cL_law 721 = .ok (.ireturn, 1) := by decide +kernel
theorem dL_law_722 : decode cL_law 722 = .ok (.iload 5, 2) := by decide +kernel
theorem dL_law_724 : decode cL_law 724 = .ok (.ifCond .ne 15, 3) := by decide +kernel
theorem dL_law_727 : decode cL_law 727 = .ok (.aload_n 3, 1) := by decide +kernel
theorem dL_law_728 : decode cL_law 728 = .ok (.iconst 0, 1) := by decide +kernel
theorem dL_law_729 : decode cL_law 729 = .ok (.laload, 1) := by decide +kernel
theorem dL_law_730 : decode cL_law 730 = .ok (.iload 6, 2) := by decide +kernel
theorem dL_law_732 : decode cL_law 732 = .ok (.i2l, 1) := by decide +kernel
theorem dL_law_733 : decode cL_law 733 = .ok (.lcmp, 1) := by decide +kernel
theorem dL_law_734 : decode cL_law 734 = .ok (.ifCond .eq 5, 3) := by decide +kernel
theorem dL_law_737 : decode cL_law 737 = .ok (.iconst 0, 1) := by decide +kernel
theorem dL_law_738 : decode cL_law 738 = .ok (.ireturn, 1) := by decide +kernel
theorem dL_law_739 : decode cL_law 739 = .ok (.goto 327, 3) := by decide +kernel
theorem dL_law_742 : decode cL_law 742 = .ok (.aload_n 1, 1) := by decide +kernel
theorem dL_law_743 : decode cL_law 743 = .ok (.aload_n 0, 1) := by decide +kernel
theorem dL_law_744 : decode cL_law 744 = .ok (.iload 4, 2) := by decide +kernel
theorem dL_law_746 : decode cL_law 746 = .ok (.iconst 1, 1) := by decide +kernel
theorem dL_law_747 : decode cL_law 747 = .ok (.iadd, 1) := by decide +kernel
theorem dL_law_748 : decode cL_law 748 = .ok (.iaload, 1) := by decide +kernel
theorem dL_law_749 : decode cL_law 749 = .ok (.aload_n 0, 1) := by decide +kernel
theorem dL_law_750 : decode cL_law 750 = .ok (.iload 4, 2) := by decide +kernel
theorem dL_law_752 : decode cL_law 752 = .ok (.iconst 2, 1) := by decide +kernel
theorem dL_law_753 : decode cL_law 753 = .ok (.iadd, 1) := by decide +kernel
theorem dL_law_754 : decode cL_law 754 = .ok (.iaload, 1) := by decide +kernel
theorem dL_law_755 : decode cL_law 755 = .ok (.aload_n 3, 1) := by decide +kernel
theorem dL_law_756 : decode cL_law 756 = .ok (.invokestatic 103, 3) := by decide +kernel
theorem dL_law_759 : decode cL_law 759 = .ok (.istore 5, 2) := by decide +kernel
theorem dL_law_761 : decode cL_law 761 = .ok (.aload_n 2, 1) := by decide +kernel
theorem dL_law_762 : decode cL_law 762 = .ok (.aload_n 0, 1) := by decide +kernel
theorem dL_law_763 : decode cL_law 763 = .ok (.iload 4, 2) := by decide +kernel
theorem dL_law_765 : decode cL_law 765 = .ok (.iconst 1, 1) := by decide +kernel
theorem dL_law_766 : decode cL_law 766 = .ok (.iadd, 1) := by decide +kernel
theorem dL_law_767 : decode cL_law 767 = .ok (.iaload, 1) := by decide +kernel
theorem dL_law_768 : decode cL_law 768 = .ok (.aload_n 0, 1) := by decide +kernel
theorem dL_law_769 : decode cL_law 769 = .ok (.iload 4, 2) := by decide +kernel
theorem dL_law_771 : decode cL_law 771 = .ok (.iconst 2, 1) := by decide +kernel
theorem dL_law_772 : decode cL_law 772 = .ok (.iadd, 1) := by decide +kernel
theorem dL_law_773 : decode cL_law 773 = .ok (.iaload, 1) := by decide +kernel
theorem dL_law_774 : decode cL_law 774 = .ok (.invokevirtual 105, 3) := by decide +kernel
theorem dL_law_777 : decode cL_law 777 = .ok (.istore 6, 2) := by decide +kernel
theorem dL_law_779 : decode cL_law 779 = .ok (.aload_n 2, 1) := by decide +kernel
theorem dL_law_780 : decode cL_law 780 = .ok (.invokevirtual 69, 3) := by decide +kernel
theorem dL_law_783 : decode cL_law 783 = .ok (.iload 5, 2) := by decide +kernel
theorem dL_law_785 : decode cL_law 785 = .ok (.if_icmp .eq 5, 3) := by decide +kernel
theorem dL_law_788 : decode cL_law 788 = .ok (.iconst 0, 1) := by decide +kernel
theorem dL_law_789 : decode cL_law 789 = .ok (.ireturn, 1) := by decide +kernel
theorem dL_law_790 : decode cL_law 790 = .ok (.iload 5, 2) := by decide +kernel
theorem dL_law_792 : decode cL_law 792 = .ok (.ifCond .ne 15, 3) := by decide +kernel
theorem dL_law_795 : decode cL_law 795 = .ok (.aload_n 3, 1) := by decide +kernel
theorem dL_law_796 : decode cL_law 796 = .ok (.iconst 0, 1) := by decide +kernel
theorem dL_law_797 : decode cL_law 797 = .ok (.laload, 1) := by decide +kernel
theorem dL_law_798 : decode cL_law 798 = .ok (.iload 6, 2) := by decide +kernel
theorem dL_law_800 : decode cL_law 800 = .ok (.i2l, 1) := by decide +kernel
theorem dL_law_801 : decode cL_law 801 = .ok (.lcmp, 1) := by decide +kernel
theorem dL_law_802 : decode cL_law 802 = .ok (.ifCond .eq 5, 3) := by decide +kernel
theorem dL_law_805 : decode cL_law 805 = .ok (.iconst 0, 1) := by decide +kernel
theorem dL_law_806 : decode cL_law 806 = .ok (.ireturn, 1) := by decide +kernel
theorem dL_law_807 : decode cL_law 807 = .ok (.goto 259, 3) := by decide +kernel
theorem dL_law_810 : decode cL_law 810 = .ok (.aload_n 1, 1) := by decide +kernel
theorem dL_law_811 : decode cL_law 811 = .ok (.aload_n 0, 1) := by decide +kernel
theorem dL_law_812 : decode cL_law 812 = .ok (.iload 4, 2) := by decide +kernel
theorem dL_law_814 : decode cL_law 814 = .ok (.iconst 1, 1) := by decide +kernel
theorem dL_law_815 : decode cL_law 815 = .ok (.iadd, 1) := by decide +kernel
theorem dL_law_816 : decode cL_law 816 = .ok (.iaload, 1) := by decide +kernel
theorem dL_law_817 : decode cL_law 817 = .ok (.aload_n 3, 1) := by decide +kernel
theorem dL_law_818 : decode cL_law 818 = .ok (.invokestatic 106, 3) := by decide +kernel
theorem dL_law_821 : decode cL_law 821 = .ok (.istore 5, 2) := by decide +kernel
theorem dL_law_823 : decode cL_law 823 = .ok (.aload_n 2, 1) := by decide +kernel
theorem dL_law_824 : decode cL_law 824 = .ok (.aload_n 0, 1) := by decide +kernel
theorem dL_law_825 : decode cL_law 825 = .ok (.iload 4, 2) := by decide +kernel
theorem dL_law_827 : decode cL_law 827 = .ok (.iconst 1, 1) := by decide +kernel
theorem dL_law_828 : decode cL_law 828 = .ok (.iadd, 1) := by decide +kernel
theorem dL_law_829 : decode cL_law 829 = .ok (.iaload, 1) := by decide +kernel
theorem dL_law_830 : decode cL_law 830 = .ok (.invokevirtual 108, 3) := by decide +kernel
theorem dL_law_833 : decode cL_law 833 = .ok (.istore 6, 2) := by decide +kernel
theorem dL_law_835 : decode cL_law 835 = .ok (.aload_n 2, 1) := by decide +kernel
theorem dL_law_836 : decode cL_law 836 = .ok (.invokevirtual 69, 3) := by decide +kernel
theorem dL_law_839 : decode cL_law 839 = .ok (.iload 5, 2) := by decide +kernel
theorem dL_law_841 : decode cL_law 841 = .ok (.if_icmp .eq 5, 3) := by decide +kernel
theorem dL_law_844 : decode cL_law 844 = .ok (.iconst 0, 1) := by decide +kernel
theorem dL_law_845 : decode cL_law 845 = .ok (.ireturn, 1) := by decide +kernel
theorem dL_law_846 : decode cL_law 846 = .ok (.iload 5, 2) := by decide +kernel
theorem dL_law_848 : decode cL_law 848 = .ok (.ifCond .ne 15, 3) := by decide +kernel
theorem dL_law_851 : decode cL_law 851 = .ok (.aload_n 3, 1) := by decide +kernel
theorem dL_law_852 : decode cL_law 852 = .ok (.iconst 0, 1) := by decide +kernel
theorem dL_law_853 : decode cL_law 853 = .ok (.laload, 1) := by decide +kernel
theorem dL_law_854 : decode cL_law 854 = .ok (.iload 6, 2) := by decide +kernel
theorem dL_law_856 : decode cL_law 856 = .ok (.i2l, 1) := by decide +kernel
theorem dL_law_857 : decode cL_law 857 = .ok (.lcmp, 1) := by decide +kernel
theorem dL_law_858 : decode cL_law 858 = .ok (.ifCond .eq 5, 3) := by decide +kernel
theorem dL_law_861 : decode cL_law 861 = .ok (.iconst 0, 1) := by decide +kernel
theorem dL_law_862 : decode cL_law 862 = .ok (.ireturn, 1) := by decide +kernel
theorem dL_law_863 : decode cL_law 863 = .ok (.goto 203, 3) := by decide +kernel
theorem dL_law_866 : decode cL_law 866 = .ok (.aload_n 1, 1) := by decide +kernel
theorem dL_law_867 : decode cL_law 867 = .ok (.aload_n 0, 1) := by decide +kernel
theorem dL_law_868 : decode cL_law 868 = .ok (.iload 4, 2) := by decide +kernel
theorem dL_law_870 : decode cL_law 870 = .ok (.iconst 1, 1) := by decide +kernel
theorem dL_law_871 : decode cL_law 871 = .ok (.iadd, 1) := by decide +kernel
theorem dL_law_872 : decode cL_law 872 = .ok (.iaload, 1) := by decide +kernel
theorem dL_law_873 : decode cL_law 873 = .ok (.aload_n 3, 1) := by decide +kernel
theorem dL_law_874 : decode cL_law 874 = .ok (.invokestatic 109, 3) := by decide +kernel
theorem dL_law_877 : decode cL_law 877 = .ok (.istore 5, 2) := by decide +kernel
theorem dL_law_879 : decode cL_law 879 = .ok (.aload_n 2, 1) := by decide +kernel
theorem dL_law_880 : decode cL_law 880 = .ok (.aload_n 0, 1) := by decide +kernel
theorem dL_law_881 : decode cL_law 881 = .ok (.iload 4, 2) := by decide +kernel
theorem dL_law_883 : decode cL_law 883 = .ok (.iconst 1, 1) := by decide +kernel
theorem dL_law_884 : decode cL_law 884 = .ok (.iadd, 1) := by decide +kernel
theorem dL_law_885 : decode cL_law 885 = .ok (.iaload, 1) := by decide +kernel
theorem dL_law_886 : decode cL_law 886 = .ok (.invokevirtual 111, 3) := by decide +kernel
theorem dL_law_889 : decode cL_law 889 = .ok (.istore 6, 2) := by decide +kernel
theorem dL_law_891 : decode cL_law 891 = .ok (.aload_n 2, 1) := by decide +kernel
theorem dL_law_892 : decode cL_law 892 = .ok (.invokevirtual 69, 3) := by decide +kernel
theorem dL_law_895 : decode cL_law 895 = .ok (.iload 5, 2) := by decide +kernel
theorem dL_law_897 : decode cL_law 897 = .ok (.if_icmp .eq 5, 3) := by decide +kernel
theorem dL_law_900 : decode cL_law 900 = .ok (.iconst 0, 1) := by decide +kernel
theorem dL_law_901 : decode cL_law 901 = .ok (.ireturn, 1) := by decide +kernel
theorem dL_law_902 : decode cL_law 902 = .ok (.iload 5, 2) := by decide +kernel
theorem dL_law_904 : decode cL_law 904 = .ok (.ifCond .ne 15, 3) := by decide +kernel
theorem dL_law_907 : decode cL_law 907 = .ok (.aload_n 3, 1) := by decide +kernel
theorem dL_law_908 : decode cL_law 908 = .ok (.iconst 0, 1) := by decide +kernel
theorem dL_law_909 : decode cL_law 909 = .ok (.laload, 1) := by decide +kernel
theorem dL_law_910 : decode cL_law 910 = .ok (.iload 6, 2) := by decide +kernel
theorem dL_law_912 : decode cL_law 912 = .ok (.i2l, 1) := by decide +kernel
theorem dL_law_913 : decode cL_law 913 = .ok (.lcmp, 1) := by decide +kernel
theorem dL_law_914 : decode cL_law 914 = .ok (.ifCond .eq 5, 3) := by decide +kernel
theorem dL_law_917 : decode cL_law 917 = .ok (.iconst 0, 1) := by decide +kernel
theorem dL_law_918 : decode cL_law 918 = .ok (.ireturn, 1) := by decide +kernel
theorem dL_law_919 : decode cL_law 919 = .ok (.goto 147, 3) := by decide +kernel
theorem dL_law_922 : decode cL_law 922 = .ok (.aload_n 1, 1) := by decide +kernel
theorem dL_law_923 : decode cL_law 923 = .ok (.invokevirtual 112, 3) := by decide +kernel
theorem dL_law_926 : decode cL_law 926 = .ok (.aload_n 2, 1) := by decide +kernel
theorem dL_law_927 : decode cL_law 927 = .ok (.invokevirtual 115, 3) := by decide +kernel
theorem dL_law_930 : decode cL_law 930 = .ok (.if_icmp .eq 136, 3) := by decide +kernel
theorem dL_law_933 : decode cL_law 933 = .ok (.iconst 0, 1) := by decide +kernel
theorem dL_law_934 : decode cL_law 934 = .ok (.ireturn, 1) := by decide +kernel
theorem dL_law_935 : decode cL_law 935 = .ok (.aload_n 1, 1) := by decide +kernel
theorem dL_law_936 : decode cL_law 936 = .ok (.aload_n 0, 1) := by decide +kernel
theorem dL_law_937 : decode cL_law 937 = .ok (.iload 4, 2) := by decide +kernel
theorem dL_law_939 : decode cL_law 939 = .ok (.iconst 1, 1) := by decide +kernel
theorem dL_law_940 : decode cL_law 940 = .ok (.iadd, 1) := by decide +kernel
theorem dL_law_941 : decode cL_law 941 = .ok (.iaload, 1) := by decide +kernel
theorem dL_law_942 : decode cL_law 942 = .ok (.aload_n 3, 1) := by decide +kernel
theorem dL_law_943 : decode cL_law 943 = .ok (.invokestatic 116, 3) := by decide +kernel
theorem dL_law_946 : decode cL_law 946 = .ok (.istore 5, 2) := by decide +kernel
theorem dL_law_948 : decode cL_law 948 = .ok (.aload_n 2, 1) := by decide +kernel
theorem dL_law_949 : decode cL_law 949 = .ok (.aload_n 0, 1) := by decide +kernel
theorem dL_law_950 : decode cL_law 950 = .ok (.iload 4, 2) := by decide +kernel
theorem dL_law_952 : decode cL_law 952 = .ok (.iconst 1, 1) := by decide +kernel
theorem dL_law_953 : decode cL_law 953 = .ok (.iadd, 1) := by decide +kernel
theorem dL_law_954 : decode cL_law 954 = .ok (.iaload, 1) := by decide +kernel
theorem dL_law_955 : decode cL_law 955 = .ok (.invokevirtual 118, 3) := by decide +kernel
theorem dL_law_958 : decode cL_law 958 = .ok (.istore 6, 2) := by decide +kernel
theorem dL_law_960 : decode cL_law 960 = .ok (.aload_n 2, 1) := by decide +kernel
theorem dL_law_961 : decode cL_law 961 = .ok (.invokevirtual 69, 3) := by decide +kernel
theorem dL_law_964 : decode cL_law 964 = .ok (.iload 5, 2) := by decide +kernel
theorem dL_law_966 : decode cL_law 966 = .ok (.if_icmp .eq 5, 3) := by decide +kernel
theorem dL_law_969 : decode cL_law 969 = .ok (.iconst 0, 1) := by decide +kernel
theorem dL_law_970 : decode cL_law 970 = .ok (.ireturn, 1) := by decide +kernel
theorem dL_law_971 : decode cL_law 971 = .ok (.iload 5, 2) := by decide +kernel
theorem dL_law_973 : decode cL_law 973 = .ok (.ifCond .ne 22, 3) := by decide +kernel
theorem dL_law_976 : decode cL_law 976 = .ok (.aload_n 3, 1) := by decide +kernel
theorem dL_law_977 : decode cL_law 977 = .ok (.iconst 0, 1) := by decide +kernel
theorem dL_law_978 : decode cL_law 978 = .ok (.laload, 1) := by decide +kernel
theorem dL_law_979 : decode cL_law 979 = .ok (.iload 6, 2) := by decide +kernel
theorem dL_law_981 : decode cL_law 981 = .ok (.ifCond .eq 7, 3) := by decide +kernel
theorem dL_law_984 : decode cL_law 984 = .ok (.lconst 1, 1) := by decide +kernel
theorem dL_law_985 : decode cL_law 985 = .ok (.goto 4, 3) := by decide +kernel
theorem dL_law_988 : decode cL_law 988 = .ok (.lconst 0, 1) := by decide +kernel
theorem dL_law_989 : decode cL_law 989 = .ok (.lcmp, 1) := by decide +kernel
theorem dL_law_990 : decode cL_law 990 = .ok (.ifCond .eq 5, 3) := by decide +kernel
theorem dL_law_993 : decode cL_law 993 = .ok (.iconst 0, 1) := by decide +kernel
theorem dL_law_994 : decode cL_law 994 = .ok (.ireturn, 1) := by decide +kernel
theorem dL_law_995 : decode cL_law 995 = .ok (.goto 71, 3) := by decide +kernel
theorem dL_law_998 : decode cL_law 998 = .ok (.aload_n 1, 1) := by decide +kernel
theorem dL_law_999 : decode cL_law 999 = .ok (.invokevirtual 119, 3) := by decide +kernel
theorem dL_law_1002 : decode cL_law 1002 = .ok (.aload_n 2, 1) := by decide +kernel
theorem dL_law_1003 : decode cL_law 1003 = .ok (.invokevirtual 122, 3) := by decide +kernel
theorem dL_law_1006 : decode cL_law 1006 = .ok (.if_icmp .eq 60, 3) := by decide +kernel
theorem dL_law_1009 : decode cL_law 1009 = .ok (.iconst 0, 1) := by decide +kernel
theorem dL_law_1010 : decode cL_law 1010 = .ok (.ireturn, 1) := by decide +kernel
theorem dL_law_1011 : decode cL_law 1011 = .ok (.aload_n 1, 1) := by decide +kernel
theorem dL_law_1012 : decode cL_law 1012 = .ok (.invokevirtual 123, 3) := by decide +kernel
theorem dL_law_1015 : decode cL_law 1015 = .ok (.dstore 5, 2) := by decide +kernel
theorem dL_law_1017 : decode cL_law 1017 = .ok (.aload_n 2, 1) := by decide +kernel
theorem dL_law_1018 : decode cL_law 1018 = .ok (.invokevirtual 127, 3) := by decide +kernel
theorem dL_law_1021 : decode cL_law 1021 = .ok (.dstore 7, 2) := by decide +kernel
theorem dL_law_1023 : decode cL_law 1023 = .ok (.dload 5, 2) := by decide +kernel
theorem dL_law_1025 : decode cL_law 1025 = .ok (.dload 7, 2) := by decide +kernel
theorem dL_law_1027 : decode cL_law 1027 = .ok (.dcmp .l, 1) := by decide +kernel
theorem dL_law_1028 : decode cL_law 1028 = .ok (.ifCond .eq 21, 3) := by decide +kernel
theorem dL_law_1031 : decode cL_law 1031 = .ok (.dload 5, 2) := by decide +kernel
theorem dL_law_1033 : decode cL_law 1033 = .ok (.dload 5, 2) := by decide +kernel
theorem dL_law_1035 : decode cL_law 1035 = .ok (.dcmp .l, 1) := by decide +kernel
theorem dL_law_1036 : decode cL_law 1036 = .ok (.ifCond .eq 11, 3) := by decide +kernel
theorem dL_law_1039 : decode cL_law 1039 = .ok (.dload 7, 2) := by decide +kernel
theorem dL_law_1041 : decode cL_law 1041 = .ok (.dload 7, 2) := by decide +kernel
theorem dL_law_1043 : decode cL_law 1043 = .ok (.dcmp .l, 1) := by decide +kernel
theorem dL_law_1044 : decode cL_law 1044 = .ok (.ifCond .ne 5, 3) := by decide +kernel
theorem dL_law_1047 : decode cL_law 1047 = .ok (.iconst 0, 1) := by decide +kernel
theorem dL_law_1048 : decode cL_law 1048 = .ok (.ireturn, 1) := by decide +kernel
theorem dL_law_1049 : decode cL_law 1049 = .ok (.goto 17, 3) := by decide +kernel
theorem dL_law_1052 : decode cL_law 1052 = .ok (.aload_n 1, 1) := by decide +kernel
theorem dL_law_1053 : decode cL_law 1053 = .ok (.invokevirtual 128, 3) := by decide +kernel
theorem dL_law_1056 : decode cL_law 1056 = .ok (.aload_n 2, 1) := by decide +kernel
theorem dL_law_1057 : decode cL_law 1057 = .ok (.invokevirtual 132, 3) := by decide +kernel
theorem dL_law_1060 : decode cL_law 1060 = .ok (.lcmp, 1) := by decide +kernel
theorem dL_law_1061 : decode cL_law 1061 = .ok (.ifCond .eq 5, 3) := by decide +kernel
theorem dL_law_1064 : decode cL_law 1064 = .ok (.iconst 0, 1) := by decide +kernel
theorem dL_law_1065 : decode cL_law 1065 = .ok (.ireturn, 1) := by decide +kernel
theorem dL_law_1066 : decode cL_law 1066 = .ok (.iinc 4 4, 3) := by decide +kernel
theorem dL_law_1069 : decode cL_law 1069 = .ok (.goto (-1046), 3) := by decide +kernel
theorem dL_law_1072 : decode cL_law 1072 = .ok (.iconst 1, 1) := by decide +kernel
theorem dL_law_1073 : decode cL_law 1073 = .ok (.ireturn, 1) := by decide +kernel
abbrev vwCl : List vw_C := [(RX0, TX0, 2), (RX1, TX1, 3), (RX2, TX2, 6), (RX3, TX3, 5), (RX4, TX4, 7), (RX5, TX5, 17)]
