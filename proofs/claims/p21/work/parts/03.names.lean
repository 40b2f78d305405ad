theorem dX4_isSpoiled_0 : decode cX4_isSpoiled 0 = .ok (.aload_n 0, 1) := by decide +kernel
theorem dX4_isSpoiled_1 : decode cX4_isSpoiled 1 = .ok (.getfield 19, 3) := by decide +kernel
theorem dX4_isSpoiled_4 : decode cX4_isSpoiled 4 = .ok (.aload_n 0, 1) := by decide +kernel
theorem dX4_isSpoiled_5 : decode cX4_isSpoiled 5 = .ok (.getfield 10, 3) := by decide +kernel
theorem dX4_isSpoiled_8 : decode cX4_isSpoiled 8 = .ok (.iload_n 1, 1) := by decide +kernel
theorem dX4_isSpoiled_9 : decode cX4_isSpoiled 9 = .ok (.invokevirtual 145, 3) := by decide +kernel
theorem dX4_isSpoiled_12 : decode cX4_isSpoiled 12 = .ok (.invokevirtual 208, 3) := by decide +kernel
theorem dX4_isSpoiled_15 : decode cX4_isSpoiled 15 = .ok (.ifCond .le 7, 3) := by decide +kernel
theorem dX4_isSpoiled_18 : decode cX4_isSpoiled 18 = .ok (.iconst 1, 1) := by decide +kernel
theorem dX4_isSpoiled_19 : decode cX4_isSpoiled 19 = .ok (.goto 4, 3) := by decide +kernel
theorem dX4_isSpoiled_22 : decode cX4_isSpoiled 22 = .ok (.iconst 0, 1) := by decide +kernel
theorem dX4_isSpoiled_23 : decode cX4_isSpoiled 23 = .ok (.ireturn, 1) := by decide +kernel
theorem dX4_isKind_0 : decode cX4_isKind 0 = .ok (.iload_n 0, 1) := by decide +kernel
theorem dX4_isKind_1 : decode cX4_isKind 1 = .ok (.ifCond .lt 13, 3) := by decide +kernel
theorem dX4_isKind_4 : decode cX4_isKind 4 = .ok (.iload_n 0, 1) := by decide +kernel
theorem dX4_isKind_5 : decode cX4_isKind 5 = .ok (.bipush 16, 2) := by decide +kernel
theorem dX4_isKind_7 : decode cX4_isKind 7 = .ok (.if_icmp .ge 7, 3) := by decide +kernel
theorem dX4_isKind_10 : decode cX4_isKind 10 = .ok (.iconst 1, 1) := by decide +kernel
theorem dX4_isKind_11 : decode cX4_isKind 11 = .ok (.goto 4, 3) := by decide +kernel
theorem dX4_isKind_14 : decode cX4_isKind 14 = .ok (.iconst 0, 1) := by decide +kernel
theorem dX4_isKind_15 : decode cX4_isKind 15 = .ok (.ireturn, 1) := by decide +kernel
theorem dX4_hasBit_0 : decode cX4_hasBit 0 = .ok (.iload_n 0, 1) := by decide +kernel
theorem dX4_hasBit_1 : decode cX4_hasBit 1 = .ok (.iload_n 1, 1) := by decide +kernel
theorem dX4_hasBit_2 : decode cX4_hasBit 2 = .ok (.ishr, 1) := by decide +kernel
theorem dX4_hasBit_3 : decode cX4_hasBit 3 = .ok (.iconst 1, 1) := by decide +kernel
theorem dX4_hasBit_4 : decode cX4_hasBit 4 = .ok (.iand, 1) := by decide +kernel
theorem dX4_hasBit_5 : decode cX4_hasBit 5 = .ok (.ifCond .eq 7, 3) := by decide +kernel
theorem dX4_hasBit_8 : decode cX4_hasBit 8 = .ok (.iconst 1, 1) := by decide +kernel
theorem dX4_hasBit_9 : decode cX4_hasBit 9 = .ok (.goto 4, 3) := by decide +kernel
theorem dX4_hasBit_12 : decode cX4_hasBit 12 = .ok (.iconst 0, 1) := by decide +kernel
theorem dX4_hasBit_13 : decode cX4_hasBit 13 = .ok (.ireturn, 1) := by decide +kernel
theorem dX4_withBit_0 : decode cX4_withBit 0 = .ok (.iload_n 2, 1) := by decide +kernel
theorem dX4_withBit_1 : decode cX4_withBit 1 = .ok (.ifCond .eq 11, 3) := by decide +kernel
theorem dX4_withBit_4 : decode cX4_withBit 4 = .ok (.iload_n 0, 1) := by decide +kernel
theorem dX4_withBit_5 : decode cX4_withBit 5 = .ok (.iconst 1, 1) := by decide +kernel
theorem dX4_withBit_6 : decode cX4_withBit 6 = .ok (.iload_n 1, 1) := by decide +kernel
theorem dX4_withBit_7 : decode cX4_withBit 7 = .ok (.ishl, 1) := by decide +kernel
theorem dX4_withBit_8 : decode cX4_withBit 8 = .ok (.ior, 1) := by decide +kernel
theorem dX4_withBit_9 : decode cX4_withBit 9 = .ok (.goto 10, 3) := by decide +kernel
theorem dX4_withBit_12 : decode cX4_withBit 12 = .ok (.iload_n 0, 1) := by decide +kernel
theorem dX4_withBit_13 : decode cX4_withBit 13 = .ok (.iconst 1, 1) := by decide +kernel
theorem dX4_withBit_14 : decode cX4_withBit 14 = .ok (.iload_n 1, 1) := by decide +kernel
theorem dX4_withBit_15 : decode cX4_withBit 15 = .ok (.ishl, 1) := by decide +kernel
theorem dX4_withBit_16 : decode cX4_withBit 16 = .ok (.iconst (-1), 1) := by decide +kernel
theorem dX4_withBit_17 : decode cX4_withBit 17 = .ok (.ixor, 1) := by decide +kernel
theorem dX4_withBit_18 : decode cX4_withBit 18 = .ok (.iand, 1) := by decide +kernel
theorem dX4_withBit_19 : decode cX4_withBit 19 = .ok (.ireturn, 1) := by decide +kernel
theorem dX4_mixed_0 : decode cX4_mixed 0 = .ok (.lload_n 0, 1) := by decide +kernel
theorem dX4_mixed_1 : decode cX4_mixed 1 = .ok (.ldc2_w 211, 3) := by decide +kernel
theorem dX4_mixed_4 : decode cX4_mixed 4 = .ok (.lmul, 1) := by decide +kernel
theorem dX4_mixed_5 : decode cX4_mixed 5 = .ok (.lload_n 2, 1) := by decide +kernel
theorem dX4_mixed_6 : decode cX4_mixed 6 = .ok (.ladd, 1) := by decide +kernel
theorem dX4_mixed_7 : decode cX4_mixed 7 = .ok (.lreturn, 1) := by decide +kernel
theorem dX5_init_0 : decode cX5_init 0 = .ok (.aload_n 0, 1) := by decide +kernel
theorem dX5_init_1 : decode cX5_init 1 = .ok (.invokespecial 1, 3) := by decide +kernel
theorem dX5_init_4 : decode cX5_init 4 = .ok (.aload_n 0, 1) := by decide +kernel
theorem dX5_init_5 : decode cX5_init 5 = .ok (.iconst 0, 1) := by decide +kernel
theorem dX5_init_6 : decode cX5_init 6 = .ok (.newarray .int, 2) := by decide +kernel
theorem dX5_init_8 : decode cX5_init 8 = .ok (.putfield 7, 3) := by decide +kernel
theorem dX5_init_11 : decode cX5_init 11 = .ok (.aload_n 0, 1) := by decide +kernel
theorem dX5_init_12 : decode cX5_init 12 = .ok (.iconst 0, 1) := by decide +kernel
theorem dX5_init_13 : decode cX5_init 13 = .ok (.anewarray 13, 3) := by decide +kernel
theorem dX5_init_16 : decode cX5_init 16 = .ok (.putfield 14, 3) := by decide +kernel
theorem dX5_init_19 : decode cX5_init 19 = .ok (.aload_n 0, 1) := by decide +kernel
theorem dX5_init_20 : decode cX5_init 20 = .ok (.iconst 0, 1) := by decide +kernel
theorem dX5_init_21 : decode cX5_init 21 = .ok (.newarray .int, 2) := by decide +kernel
theorem dX5_init_23 : decode cX5_init 23 = .ok (.putfield 18, 3) := by decide +kernel
theorem dX5_init_26 : decode cX5_init 26 = .ok (.aload_n 0, 1) := by decide +kernel
theorem dX5_init_27 : decode cX5_init 27 = .ok (.iconst 0, 1) := by decide +kernel
theorem dX5_init_28 : decode cX5_init 28 = .ok (.newarray .int, 2) := by decide +kernel
theorem dX5_init_30 : decode cX5_init 30 = .ok (.putfield 21, 3) := by decide +kernel
theorem dX5_init_33 : decode cX5_init 33 = .ok (.aload_n 0, 1) := by decide +kernel
theorem dX5_init_34 : decode cX5_init 34 = .ok (.iconst 0, 1) := by decide +kernel
theorem dX5_init_35 : decode cX5_init 35 = .ok (.anewarray 13, 3) := by decide +kernel
theorem dX5_init_38 : decode cX5_init 38 = .ok (.putfield 24, 3) := by decide +kernel
theorem dX5_init_41 : decode cX5_init 41 = .ok (.aload_n 0, 1) := by decide +kernel
theorem dX5_init_42 : decode cX5_init 42 = .ok (.iconst 0, 1) := by decide +kernel
theorem dX5_init_43 : decode cX5_init 43 = .ok (.anewarray 13, 3) := by decide +kernel
theorem dX5_init_46 : decode cX5_init 46 = .ok (.putfield 27, 3) := by decide +kernel
theorem dX5_init_49 : decode cX5_init 49 = .ok (.aload_n 0, 1) := by decide +kernel
theorem dX5_init_50 : decode cX5_init 50 = .ok (.iconst 0, 1) := by decide +kernel
theorem dX5_init_51 : decode cX5_init 51 = .ok (.anewarray 13, 3) := by decide +kernel
theorem dX5_init_54 : decode cX5_init 54 = .ok (.putfield 30, 3) := by decide +kernel
theorem dX5_init_57 : decode cX5_init 57 = .ok (.return_, 1) := by decide +kernel
theorem dX5_more_0 : decode cX5_more 0 = .ok (.aload_n 0, 1) := by decide +kernel
theorem dX5_more_1 : decode cX5_more 1 = .ok (.arraylength, 1) := by decide +kernel
theorem dX5_more_2 : decode cX5_more 2 = .ok (.iconst 1, 1) := by decide +kernel
theorem dX5_more_3 : decode cX5_more 3 = .ok (.iadd, 1) := by decide +kernel
theorem dX5_more_4 : decode cX5_more 4 = .ok (.anewarray 13, 3) := by decide +kernel
theorem dX5_more_7 : decode cX5_more 7 = .ok (.astore_n 2, 1) := by decide +kernel
theorem dX5_more_8 : decode cX5_more 8 = .ok (.iconst 0, 1) := by decide +kernel
theorem dX5_more_9 : decode cX5_more 9 = .ok (.istore_n 3, 1) := by decide +kernel
theorem dX5_more_10 : decode cX5_more 10 = .ok (.iload_n 3, 1) := by decide +kernel
theorem dX5_more_11 : decode cX5_more 11 = .ok (.aload_n 0, 1) := by decide +kernel
theorem dX5_more_12 : decode cX5_more 12 = .ok (.arraylength, 1) := by decide +kernel
theorem dX5_more_13 : decode cX5_more 13 = .ok (.if_icmp .ge 15, 3) := by decide +kernel
theorem dX5_more_16 : decode cX5_more 16 = .ok (.aload_n 2, 1) := by decide +kernel
theorem dX5_more_17 : decode cX5_more 17 = .ok (.iload_n 3, 1) := by decide +kernel
theorem dX5_more_18 : decode cX5_more 18 = .ok (.aload_n 0, 1) := by decide +kernel
theorem dX5_more_19 : decode cX5_more 19 = .ok (.iload_n 3, 1) := by decide +kernel
theorem dX5_more_20 : decode cX5_more 20 = .ok (.aaload, 1) := by decide +kernel
theorem dX5_more_21 : decode cX5_more 21 = .ok (.aastore, 1) := by decide +kernel
theorem dX5_more_22 : decode cX5_more 22 = .ok (.iinc 3 1, 3) := by decide +kernel
theorem dX5_more_25 : decode cX5_more 25 = .ok (.goto (-15), 3) := by decide +kernel
theorem dX5_more_28 : decode cX5_more 28 = .ok (.aload_n 2, 1) := by decide +kernel
theorem dX5_more_29 : decode cX5_more 29 = .ok (.aload_n 0, 1) := by decide +kernel
theorem dX5_more_30 : decode cX5_more 30 = .ok (.arraylength, 1) := by decide +kernel
theorem dX5_more_31 : decode cX5_more 31 = .ok (.aload_n 1, 1) := by decide +kernel
theorem dX5_more_32 : decode cX5_more 32 = .ok (.aastore, 1) := by decide +kernel
theorem dX5_more_33 : decode cX5_more 33 = .ok (.aload_n 2, 1) := by decide +kernel
theorem dX5_more_34 : decode cX5_more 34 = .ok (.areturn, 1) := by decide +kernel
theorem dX5_has_0 : decode cX5_has 0 = .ok (.aload_n 0, 1) := by decide +kernel
theorem dX5_has_1 : decode cX5_has 1 = .ok (.astore_n 2, 1) := by decide +kernel
theorem dX5_has_2 : decode cX5_has 2 = .ok (.aload_n 2, 1) := by decide +kernel
theorem dX5_has_3 : decode cX5_has 3 = .ok (.arraylength, 1) := by decide +kernel
theorem dX5_has_4 : decode cX5_has 4 = .ok (.istore_n 3, 1) := by decide +kernel
theorem dX5_has_5 : decode cX5_has 5 = .ok (.iconst 0, 1) := by decide +kernel
theorem dX5_has_6 : decode cX5_has 6 = .ok (.istore 4, 2) := by decide +kernel
theorem dX5_has_8 : decode cX5_has 8 = .ok (.iload 4, 2) := by decide +kernel
theorem dX5_has_10 : decode cX5_has 10 = .ok (.iload_n 3, 1) := by decide +kernel
theorem dX5_has_11 : decode cX5_has 11 = .ok (.if_icmp .ge 23, 3) := by decide +kernel
theorem dX5_has_14 : decode cX5_has 14 = .ok (.aload_n 2, 1) := by decide +kernel
theorem dX5_has_15 : decode cX5_has 15 = .ok (.iload 4, 2) := by decide +kernel
theorem dX5_has_17 : decode cX5_has 17 = .ok (.iaload, 1) := by decide +kernel
theorem dX5_has_18 : decode cX5_has 18 = .ok (.istore 5, 2) := by decide +kernel
theorem dX5_has_20 : decode cX5_has 20 = .ok (.iload 5, 2) := by decide +kernel
theorem dX5_has_22 : decode cX5_has 22 = .ok (.iload_n 1, 1) := by decide +kernel
theorem dX5_has_23 : decode cX5_has 23 = .ok (.if_icmp .ne 5, 3) := by decide +kernel
theorem dX5_has_26 : decode cX5_has 26 = .ok (.iconst 1, 1) := by decide +kernel
theorem dX5_has_27 : decode cX5_has 27 = .ok (.ireturn, 1) := by decide +kernel
theorem dX5_has_28 : decode cX5_has 28 = .ok (.iinc 4 1, 3) := by decide +kernel
theorem dX5_has_31 : decode cX5_has 31 = .ok (.goto (-23), 3) := by decide +kernel
theorem dX5_has_34 : decode cX5_has 34 = .ok (.iconst 0, 1) := by decide +kernel
theorem dX5_has_35 : decode cX5_has 35 = .ok (.ireturn, 1) := by decide +kernel
theorem dX5_isSame_0 : decode cX5_isSame 0 = .ok (.aload_n 0, 1) := by decide +kernel
theorem dX5_isSame_1 : decode cX5_isSame 1 = .ok (.arraylength, 1) := by decide +kernel
theorem dX5_isSame_2 : decode cX5_isSame 2 = .ok (.aload_n 1, 1) := by decide +kernel
theorem dX5_isSame_3 : decode cX5_isSame 3 = .ok (.arraylength, 1) := by decide +kernel
theorem dX5_isSame_4 : decode cX5_isSame 4 = .ok (.if_icmp .eq 5, 3) := by decide +kernel
theorem dX5_isSame_7 : decode cX5_isSame 7 = .ok (.iconst 0, 1) := by decide +kernel
theorem dX5_isSame_8 : decode cX5_isSame 8 = .ok (.ireturn, 1) := by decide +kernel
theorem dX5_isSame_9 : decode cX5_isSame 9 = .ok (.iconst 0, 1) := by decide +kernel
theorem dX5_isSame_10 : decode cX5_isSame 10 = .ok (.istore_n 2, 1) := by decide +kernel
theorem dX5_isSame_11 : decode cX5_isSame 11 = .ok (.iload_n 2, 1) := by decide +kernel
theorem dX5_isSame_12 : decode cX5_isSame 12 = .ok (.aload_n 0, 1) := by decide +kernel
theorem dX5_isSame_13 : decode cX5_isSame 13 = .ok (.arraylength, 1) := by decide +kernel
theorem dX5_isSame_14 : decode cX5_isSame 14 = .ok (.if_icmp .ge 20, 3) := by decide +kernel
theorem dX5_isSame_17 : decode cX5_isSame 17 = .ok (.aload_n 0, 1) := by decide +kernel
theorem dX5_isSame_18 : decode cX5_isSame 18 = .ok (.iload_n 2, 1) := by decide +kernel
theorem dX5_isSame_19 : decode cX5_isSame 19 = .ok (.iaload, 1) := by decide +kernel
theorem dX5_isSame_20 : decode cX5_isSame 20 = .ok (.aload_n 1, 1) := by decide +kernel
theorem dX5_isSame_21 : decode cX5_isSame 21 = .ok (.iload_n 2, 1) := by decide +kernel
theorem dX5_isSame_22 : decode cX5_isSame 22 = .ok (.iaload, 1) := by decide +kernel
theorem dX5_isSame_23 : decode cX5_isSame 23 = .ok (.if_icmp .eq 5, 3) := by decide +kernel
theorem dX5_isSame_26 : decode cX5_isSame 26 = .ok (.iconst 0, 1) := by decide +kernel
theorem dX5_isSame_27 : decode cX5_isSame 27 = .ok (.ireturn, 1) := by decide +kernel
theorem dX5_isSame_28 : decode cX5_isSame 28 = .ok (.iinc 2 1, 3) := by decide +kernel
theorem dX5_isSame_31 : decode cX5_isSame 31 = .ok (.goto (-20), 3) := by decide +kernel
theorem dX5_isSame_34 : decode cX5_isSame 34 = .ok (.iconst 1, 1) := by decide +kernel
theorem dX5_isSame_35 : decode cX5_isSame 35 = .ok (.ireturn, 1) := by decide +kernel
theorem dX5_kindsOf_0 : decode cX5_kindsOf 0 = .ok (.aload_n 1, 1) := by decide +kernel
theorem dX5_kindsOf_1 : decode cX5_kindsOf 1 = .ok (.arraylength, 1) := by decide +kernel
theorem dX5_kindsOf_2 : decode cX5_kindsOf 2 = .ok (.newarray .int, 2) := by decide +kernel
theorem dX5_kindsOf_4 : decode cX5_kindsOf 4 = .ok (.astore_n 2, 1) := by decide +kernel
theorem dX5_kindsOf_5 : decode cX5_kindsOf 5 = .ok (.iconst 0, 1) := by decide +kernel
theorem dX5_kindsOf_6 : decode cX5_kindsOf 6 = .ok (.istore_n 3, 1) := by decide +kernel
theorem dX5_kindsOf_7 : decode cX5_kindsOf 7 = .ok (.iload_n 3, 1) := by decide +kernel
theorem dX5_kindsOf_8 : decode cX5_kindsOf 8 = .ok (.aload_n 1, 1) := by decide +kernel
theorem dX5_kindsOf_9 : decode cX5_kindsOf 9 = .ok (.arraylength, 1) := by decide +kernel
theorem dX5_kindsOf_10 : decode cX5_kindsOf 10 = .ok (.if_icmp .ge 20, 3) := by decide +kernel
theorem dX5_kindsOf_13 : decode cX5_kindsOf 13 = .ok (.aload_n 2, 1) := by decide +kernel
theorem dX5_kindsOf_14 : decode cX5_kindsOf 14 = .ok (.iload_n 3, 1) := by decide +kernel
theorem dX5_kindsOf_15 : decode cX5_kindsOf 15 = .ok (.aload_n 0, 1) := by decide +kernel
theorem dX5_kindsOf_16 : decode cX5_kindsOf 16 = .ok (.getfield 7, 3) := by decide +kernel
theorem dX5_kindsOf_19 : decode cX5_kindsOf 19 = .ok (.aload_n 1, 1) := by decide +kernel
theorem dX5_kindsOf_20 : decode cX5_kindsOf 20 = .ok (.iload_n 3, 1) := by decide +kernel
theorem dX5_kindsOf_21 : decode cX5_kindsOf 21 = .ok (.iaload, 1) := by decide +kernel
theorem dX5_kindsOf_22 : decode cX5_kindsOf 22 = .ok (.iaload, 1) := by decide +kernel
theorem dX5_kindsOf_23 : decode cX5_kindsOf 23 = .ok (.iastore, 1) := by decide +kernel
theorem dX5_kindsOf_24 : decode cX5_kindsOf 24 = .ok (.iinc 3 1, 3) := by decide +kernel
theorem dX5_kindsOf_27 : decode cX5_kindsOf 27 = .ok (.goto (-20), 3) := by decide +kernel
theorem dX5_kindsOf_30 : decode cX5_kindsOf 30 = .ok (.aload_n 2, 1) := by decide +kernel
theorem dX5_kindsOf_31 : decode cX5_kindsOf 31 = .ok (.areturn, 1) := by decide +kernel
set_option maxRecDepth 20000 in
theorem ggX5_holds_X5_has : GoodIn wsX5_holds wsX5_has := goodIn_r _ [5] (by decide +kernel) (by decide +kernel)
set_option maxRecDepth 20000 in
theorem gX5_holds_X5_has : GoodIn wsX5_holds (va_wsS RX5 33 yX5_has wsX5_has) := goodIn_app (goodIn_of _ (by decide +kernel)) ggX5_holds_X5_has
theorem dX5_holds_0 : decode cX5_holds 0 = .ok (.iconst 0, 1) := by decide +kernel
theorem dX5_holds_1 : decode cX5_holds 1 = .ok (.istore_n 3, 1) := by decide +kernel
theorem dX5_holds_2 : decode cX5_holds 2 = .ok (.iconst 0, 1) := by decide +kernel
theorem dX5_holds_3 : decode cX5_holds 3 = .ok (.istore 4, 2) := by decide +kernel
theorem dX5_holds_5 : decode cX5_holds 5 = .ok (.iload 4, 2) := by decide +kernel
theorem dX5_holds_7 : decode cX5_holds 7 = .ok (.bipush 16, 2) := by decide +kernel
theorem dX5_holds_9 : decode cX5_holds 9 = .ok (.if_icmp .ge 76, 3) := by decide +kernel
theorem dX5_holds_12 : decode cX5_holds 12 = .ok (.aload_n 2, 1) := by decide +kernel
theorem dX5_holds_13 : decode cX5_holds 13 = .ok (.iload 4, 2) := by decide +kernel
theorem dX5_holds_15 : decode cX5_holds 15 = .ok (.invokestatic 33, 3) := by decide +kernel
theorem dX5_holds_18 : decode cX5_holds 18 = .ok (.istore 5, 2) := by decide +kernel
theorem dX5_holds_20 : decode cX5_holds 20 = .ok (.iload_n 3, 1) := by decide +kernel
theorem dX5_holds_21 : decode cX5_holds 21 = .ok (.aload_n 0, 1) := by decide +kernel
theorem dX5_holds_22 : decode cX5_holds 22 = .ok (.getfield 14, 3) := by decide +kernel
theorem dX5_holds_25 : decode cX5_holds 25 = .ok (.iload_n 1, 1) := by decide +kernel
theorem dX5_holds_26 : decode cX5_holds 26 = .ok (.aaload, 1) := by decide +kernel
theorem dX5_holds_27 : decode cX5_holds 27 = .ok (.iload 4, 2) := by decide +kernel
theorem dX5_holds_29 : decode cX5_holds 29 = .ok (.iaload, 1) := by decide +kernel
theorem dX5_holds_30 : decode cX5_holds 30 = .ok (.iconst 1, 1) := by decide +kernel
theorem dX5_holds_31 : decode cX5_holds 31 = .ok (.if_icmp .ne 7, 3) := by decide +kernel
theorem dX5_holds_34 : decode cX5_holds 34 = .ok (.iconst 1, 1) := by decide +kernel
theorem dX5_holds_35 : decode cX5_holds 35 = .ok (.goto 4, 3) := by decide +kernel
theorem dX5_holds_38 : decode cX5_holds 38 = .ok (.iconst 0, 1) := by decide +kernel
theorem dX5_holds_39 : decode cX5_holds 39 = .ok (.ior, 1) := by decide +kernel
theorem dX5_holds_40 : decode cX5_holds 40 = .ok (.istore_n 3, 1) := by decide +kernel
theorem dX5_holds_41 : decode cX5_holds 41 = .ok (.aload_n 0, 1) := by decide +kernel
theorem dX5_holds_42 : decode cX5_holds 42 = .ok (.getfield 14, 3) := by decide +kernel
theorem dX5_holds_45 : decode cX5_holds 45 = .ok (.iload_n 1, 1) := by decide +kernel
theorem dX5_holds_46 : decode cX5_holds 46 = .ok (.aaload, 1) := by decide +kernel
theorem dX5_holds_47 : decode cX5_holds 47 = .ok (.iload 4, 2) := by decide +kernel
theorem dX5_holds_49 : decode cX5_holds 49 = .ok (.iaload, 1) := by decide +kernel
theorem dX5_holds_50 : decode cX5_holds 50 = .ok (.iconst 1, 1) := by decide +kernel
theorem dX5_holds_51 : decode cX5_holds 51 = .ok (.if_icmp .ne 8, 3) := by decide +kernel
theorem dX5_holds_54 : decode cX5_holds 54 = .ok (.iload 5, 2) := by decide +kernel
theorem dX5_holds_56 : decode cX5_holds 56 = .ok (.ifCond .eq 21, 3) := by decide +kernel
theorem dX5_holds_59 : decode cX5_holds 59 = .ok (.aload_n 0, 1) := by decide +kernel
theorem dX5_holds_60 : decode cX5_holds 60 = .ok (.getfield 14, 3) := by decide +kernel
theorem dX5_holds_63 : decode cX5_holds 63 = .ok (.iload_n 1, 1) := by decide +kernel
theorem dX5_holds_64 : decode cX5_holds 64 = .ok (.aaload, 1) := by decide +kernel
theorem dX5_holds_65 : decode cX5_holds 65 = .ok (.iload 4, 2) := by decide +kernel
theorem dX5_holds_67 : decode cX5_holds 67 = .ok (.iaload, 1) := by decide +kernel
theorem dX5_holds_68 : decode cX5_holds 68 = .ok (.iconst (-1), 1) := by decide +kernel
theorem dX5_holds_69 : decode cX5_holds 69 = .ok (.if_icmp .ne 10, 3) := by decide +kernel
theorem dX5_holds_72 : decode cX5_holds 72 = .ok (.iload 5, 2) := by decide +kernel
theorem dX5_holds_74 : decode cX5_holds 74 = .ok (.ifCond .eq 5, 3) := by decide +kernel
theorem dX5_holds_77 : decode cX5_holds 77 = .ok (.iconst 0, 1) := by decide +kernel
theorem dX5_holds_78 : decode cX5_holds 78 = .ok (.ireturn, 1) := by decide +kernel
theorem dX5_holds_79 : decode cX5_holds 79 = .ok (.iinc 4 1, 3) := by decide +kernel
theorem dX5_holds_82 : decode cX5_holds 82 = .ok (.goto (-77), 3) := by decide +kernel
theorem dX5_holds_85 : decode cX5_holds 85 = .ok (.iload_n 3, 1) := by decide +kernel
theorem dX5_holds_86 : decode cX5_holds 86 = .ok (.ireturn, 1) := by decide +kernel
set_option maxRecDepth 20000 in
theorem ggX5_spoils_X5_kindsOf : GoodIn wsX5_spoils wsX5_kindsOf := goodIn_r _ [6, 7, 8, 16, 17, 18, 19, 20, 21, 22, 23, 24] (by decide +kernel) (by decide +kernel)
set_option maxRecDepth 20000 in
theorem gX5_spoils_X5_kindsOf : GoodIn wsX5_spoils (wsV RX5 37 RX5 yX5_kindsOf wsX5_kindsOf) := goodIn_app (goodIn_of _ (by decide +kernel)) ggX5_spoils_X5_kindsOf
set_option maxRecDepth 20000 in
theorem ggX5_spoils_X5_holds : GoodIn wsX5_spoils wsX5_holds := goodIn_r _ [12, 1, 13, 14, 5, 15, 16, 17, 18, 19, 20, 21, 22, 23, 24] (by decide +kernel) (by decide +kernel)
set_option maxRecDepth 20000 in
theorem gX5_spoils_X5_holds : GoodIn wsX5_spoils (wsV RX5 41 RX5 yX5_holds wsX5_holds) := goodIn_app (goodIn_of _ (by decide +kernel)) ggX5_spoils_X5_holds
theorem dX5_spoils_0 : decode cX5_spoils 0 = .ok (.aload_n 0, 1) := by decide +kernel
theorem dX5_spoils_1 : decode cX5_spoils 1 = .ok (.aload_n 1, 1) := by decide +kernel
theorem dX5_spoils_2 : decode cX5_spoils 2 = .ok (.invokevirtual 37, 3) := by decide +kernel
theorem dX5_spoils_5 : decode cX5_spoils 5 = .ok (.astore_n 2, 1) := by decide +kernel
theorem dX5_spoils_6 : decode cX5_spoils 6 = .ok (.iconst 0, 1) := by decide +kernel
theorem dX5_spoils_7 : decode cX5_spoils 7 = .ok (.istore_n 3, 1) := by decide +kernel
theorem dX5_spoils_8 : decode cX5_spoils 8 = .ok (.iload_n 3, 1) := by decide +kernel
theorem dX5_spoils_9 : decode cX5_spoils 9 = .ok (.aload_n 0, 1) := by decide +kernel
theorem dX5_spoils_10 : decode cX5_spoils 10 = .ok (.getfield 14, 3) := by decide +kernel
theorem dX5_spoils_13 : decode cX5_spoils 13 = .ok (.arraylength, 1) := by decide +kernel
theorem dX5_spoils_14 : decode cX5_spoils 14 = .ok (.if_icmp .ge 20, 3) := by decide +kernel
theorem dX5_spoils_17 : decode cX5_spoils 17 = .ok (.aload_n 0, 1) := by decide +kernel
theorem dX5_spoils_18 : decode cX5_spoils 18 = .ok (.iload_n 3, 1) := by decide +kernel
theorem dX5_spoils_19 : decode cX5_spoils 19 = .ok (.aload_n 2, 1) := by decide +kernel
theorem dX5_spoils_20 : decode cX5_spoils 20 = .ok (.invokevirtual 41, 3) := by decide +kernel
theorem dX5_spoils_23 : decode cX5_spoils 23 = .ok (.ifCond .eq 5, 3) := by decide +kernel
theorem dX5_spoils_26 : decode cX5_spoils 26 = .ok (.iconst 1, 1) := by decide +kernel
theorem dX5_spoils_27 : decode cX5_spoils 27 = .ok (.ireturn, 1) := by decide +kernel
theorem dX5_spoils_28 : decode cX5_spoils 28 = .ok (.iinc 3 1, 3) := by decide +kernel
theorem dX5_spoils_31 : decode cX5_spoils 31 = .ok (.goto (-23), 3) := by decide +kernel
theorem dX5_spoils_34 : decode cX5_spoils 34 = .ok (.iconst 0, 1) := by decide +kernel
theorem dX5_spoils_35 : decode cX5_spoils 35 = .ok (.ireturn, 1) := by decide +kernel
set_option maxRecDepth 20000 in
theorem ggX5_taste_X5_isSame : GoodIn wsX5_taste wsX5_isSame := goodIn_r _ [5] (by decide +kernel) (by decide +kernel)
set_option maxRecDepth 20000 in
theorem gX5_taste_X5_isSame : GoodIn wsX5_taste (va_wsS RX5 45 yX5_isSame wsX5_isSame) := goodIn_app (goodIn_of _ (by decide +kernel)) ggX5_taste_X5_isSame
set_option maxRecDepth 20000 in
theorem ggX5_taste_X5_more : GoodIn wsX5_taste wsX5_more := goodIn_r _ [8, 9] (by decide +kernel) (by decide +kernel)
set_option maxRecDepth 20000 in
theorem gX5_taste_X5_more : GoodIn wsX5_taste (va_wsS RX5 49 yX5_more wsX5_more) := goodIn_app (goodIn_of _ (by decide +kernel)) ggX5_taste_X5_more
set_option maxRecDepth 20000 in
theorem ggX5_taste_X5_spoils : GoodIn wsX5_taste wsX5_spoils := goodIn_r _ [13, 14, 15, 16, 17, 4, 18, 19, 20, 21, 22, 23, 24, 25, 26, 27, 28, 29, 30, 31, 32, 33, 34, 35, 36] (by decide +kernel) (by decide +kernel)
set_option maxRecDepth 20000 in
theorem gX5_taste_X5_spoils : GoodIn wsX5_taste (wsV RX5 53 RX5 yX5_spoils wsX5_spoils) := goodIn_app (goodIn_of _ (by decide +kernel)) ggX5_taste_X5_spoils
theorem dX5_taste_0 : decode cX5_taste 0 = .ok (.iconst 0, 1) := by decide +kernel
theorem dX5_taste_1 : decode cX5_taste 1 = .ok (.istore_n 2, 1) := by decide +kernel
theorem dX5_taste_2 : decode cX5_taste 2 = .ok (.aload_n 0, 1) := by decide +kernel
theorem dX5_taste_3 : decode cX5_taste 3 = .ok (.getfield 27, 3) := by decide +kernel
theorem dX5_taste_6 : decode cX5_taste 6 = .ok (.astore_n 3, 1) := by decide +kernel
theorem dX5_taste_7 : decode cX5_taste 7 = .ok (.aload_n 3, 1) := by decide +kernel
theorem dX5_taste_8 : decode cX5_taste 8 = .ok (.arraylength, 1) := by decide +kernel
theorem dX5_taste_9 : decode cX5_taste 9 = .ok (.istore 4, 2) := by decide +kernel
theorem dX5_taste_11 : decode cX5_taste 11 = .ok (.iconst 0, 1) := by decide +kernel
theorem dX5_taste_12 : decode cX5_taste 12 = .ok (.istore 5, 2) := by decide +kernel
theorem dX5_taste_14 : decode cX5_taste 14 = .ok (.iload 5, 2) := by decide +kernel
theorem dX5_taste_16 : decode cX5_taste 16 = .ok (.iload 4, 2) := by decide +kernel
theorem dX5_taste_18 : decode cX5_taste 18 = .ok (.if_icmp .ge 24, 3) := by decide +kernel
theorem dX5_taste_21 : decode cX5_taste 21 = .ok (.aload_n 3, 1) := by decide +kernel
theorem dX5_taste_22 : decode cX5_taste 22 = .ok (.iload 5, 2) := by decide +kernel
theorem dX5_taste_24 : decode cX5_taste 24 = .ok (.aaload, 1) := by decide +kernel
theorem dX5_taste_25 : decode cX5_taste 25 = .ok (.astore 6, 2) := by decide +kernel
theorem dX5_taste_27 : decode cX5_taste 27 = .ok (.iload_n 2, 1) := by decide +kernel
theorem dX5_taste_28 : decode cX5_taste 28 = .ok (.aload 6, 2) := by decide +kernel
theorem dX5_taste_30 : decode cX5_taste 30 = .ok (.aload_n 1, 1) := by decide +kernel
theorem dX5_taste_31 : decode cX5_taste 31 = .ok (.invokestatic 45, 3) := by decide +kernel
theorem dX5_taste_34 : decode cX5_taste 34 = .ok (.ior, 1) := by decide +kernel
theorem dX5_taste_35 : decode cX5_taste 35 = .ok (.istore_n 2, 1) := by decide +kernel
theorem dX5_taste_36 : decode cX5_taste 36 = .ok (.iinc 5 1, 3) := by decide +kernel
theorem dX5_taste_39 : decode cX5_taste 39 = .ok (.goto (-25), 3) := by decide +kernel
theorem dX5_taste_42 : decode cX5_taste 42 = .ok (.iload_n 2, 1) := by decide +kernel
theorem dX5_taste_43 : decode cX5_taste 43 = .ok (.ifCond .ne 15, 3) := by decide +kernel
theorem dX5_taste_46 : decode cX5_taste 46 = .ok (.aload_n 0, 1) := by decide +kernel
theorem dX5_taste_47 : decode cX5_taste 47 = .ok (.aload_n 0, 1) := by decide +kernel
theorem dX5_taste_48 : decode cX5_taste 48 = .ok (.getfield 27, 3) := by decide +kernel
theorem dX5_taste_51 : decode cX5_taste 51 = .ok (.aload_n 1, 1) := by decide +kernel
theorem dX5_taste_52 : decode cX5_taste 52 = .ok (.invokestatic 49, 3) := by decide +kernel
theorem dX5_taste_55 : decode cX5_taste 55 = .ok (.putfield 27, 3) := by decide +kernel
theorem dX5_taste_58 : decode cX5_taste 58 = .ok (.aload_n 0, 1) := by decide +kernel
theorem dX5_taste_59 : decode cX5_taste 59 = .ok (.aload_n 1, 1) := by decide +kernel
theorem dX5_taste_60 : decode cX5_taste 60 = .ok (.invokevirtual 53, 3) := by decide +kernel
theorem dX5_taste_63 : decode cX5_taste 63 = .ok (.ireturn, 1) := by decide +kernel
theorem dX5_whole_0 : decode cX5_whole 0 = .ok (.aload_n 0, 1) := by decide +kernel
theorem dX5_whole_1 : decode cX5_whole 1 = .ok (.getfield 7, 3) := by decide +kernel
theorem dX5_whole_4 : decode cX5_whole 4 = .ok (.arraylength, 1) := by decide +kernel
theorem dX5_whole_5 : decode cX5_whole 5 = .ok (.newarray .int, 2) := by decide +kernel
theorem dX5_whole_7 : decode cX5_whole 7 = .ok (.astore_n 1, 1) := by decide +kernel
theorem dX5_whole_8 : decode cX5_whole 8 = .ok (.iconst 0, 1) := by decide +kernel
theorem dX5_whole_9 : decode cX5_whole 9 = .ok (.istore_n 2, 1) := by decide +kernel
theorem dX5_whole_10 : decode cX5_whole 10 = .ok (.iload_n 2, 1) := by decide +kernel
theorem dX5_whole_11 : decode cX5_whole 11 = .ok (.aload_n 1, 1) := by decide +kernel
theorem dX5_whole_12 : decode cX5_whole 12 = .ok (.arraylength, 1) := by decide +kernel
theorem dX5_whole_13 : decode cX5_whole 13 = .ok (.if_icmp .ge 13, 3) := by decide +kernel
theorem dX5_whole_16 : decode cX5_whole 16 = .ok (.aload_n 1, 1) := by decide +kernel
theorem dX5_whole_17 : decode cX5_whole 17 = .ok (.iload_n 2, 1) := by decide +kernel
theorem dX5_whole_18 : decode cX5_whole 18 = .ok (.iload_n 2, 1) := by decide +kernel
theorem dX5_whole_19 : decode cX5_whole 19 = .ok (.iastore, 1) := by decide +kernel
theorem dX5_whole_20 : decode cX5_whole 20 = .ok (.iinc 2 1, 3) := by decide +kernel
theorem dX5_whole_23 : decode cX5_whole 23 = .ok (.goto (-13), 3) := by decide +kernel
theorem dX5_whole_26 : decode cX5_whole 26 = .ok (.aload_n 1, 1) := by decide +kernel
theorem dX5_whole_27 : decode cX5_whole 27 = .ok (.areturn, 1) := by decide +kernel
theorem dX5_piece_0 : decode cX5_piece 0 = .ok (.iload_n 2, 1) := by decide +kernel
theorem dX5_piece_1 : decode cX5_piece 1 = .ok (.iload_n 1, 1) := by decide +kernel
theorem dX5_piece_2 : decode cX5_piece 2 = .ok (.isub, 1) := by decide +kernel
theorem dX5_piece_3 : decode cX5_piece 3 = .ok (.newarray .int, 2) := by decide +kernel
theorem dX5_piece_5 : decode cX5_piece 5 = .ok (.astore_n 3, 1) := by decide +kernel
theorem dX5_piece_6 : decode cX5_piece 6 = .ok (.iload_n 1, 1) := by decide +kernel
theorem dX5_piece_7 : decode cX5_piece 7 = .ok (.istore 4, 2) := by decide +kernel
theorem dX5_piece_9 : decode cX5_piece 9 = .ok (.iload 4, 2) := by decide +kernel
theorem dX5_piece_11 : decode cX5_piece 11 = .ok (.iload_n 2, 1) := by decide +kernel
theorem dX5_piece_12 : decode cX5_piece 12 = .ok (.if_icmp .ge 19, 3) := by decide +kernel
theorem dX5_piece_15 : decode cX5_piece 15 = .ok (.aload_n 3, 1) := by decide +kernel
theorem dX5_piece_16 : decode cX5_piece 16 = .ok (.iload 4, 2) := by decide +kernel
theorem dX5_piece_18 : decode cX5_piece 18 = .ok (.iload_n 1, 1) := by decide +kernel
theorem dX5_piece_19 : decode cX5_piece 19 = .ok (.isub, 1) := by decide +kernel
theorem dX5_piece_20 : decode cX5_piece 20 = .ok (.aload_n 0, 1) := by decide +kernel
theorem dX5_piece_21 : decode cX5_piece 21 = .ok (.iload 4, 2) := by decide +kernel
theorem dX5_piece_23 : decode cX5_piece 23 = .ok (.iaload, 1) := by decide +kernel
theorem dX5_piece_24 : decode cX5_piece 24 = .ok (.iastore, 1) := by decide +kernel
theorem dX5_piece_25 : decode cX5_piece 25 = .ok (.iinc 4 1, 3) := by decide +kernel
theorem dX5_piece_28 : decode cX5_piece 28 = .ok (.goto (-19), 3) := by decide +kernel
theorem dX5_piece_31 : decode cX5_piece 31 = .ok (.aload_n 3, 1) := by decide +kernel
theorem dX5_piece_32 : decode cX5_piece 32 = .ok (.areturn, 1) := by decide +kernel
theorem dX5_rest_0 : decode cX5_rest 0 = .ok (.aload_n 0, 1) := by decide +kernel
theorem dX5_rest_1 : decode cX5_rest 1 = .ok (.arraylength, 1) := by decide +kernel
theorem dX5_rest_2 : decode cX5_rest 2 = .ok (.iload_n 2, 1) := by decide +kernel
theorem dX5_rest_3 : decode cX5_rest 3 = .ok (.isub, 1) := by decide +kernel
theorem dX5_rest_4 : decode cX5_rest 4 = .ok (.iload_n 1, 1) := by decide +kernel
theorem dX5_rest_5 : decode cX5_rest 5 = .ok (.iadd, 1) := by decide +kernel
theorem dX5_rest_6 : decode cX5_rest 6 = .ok (.newarray .int, 2) := by decide +kernel
theorem dX5_rest_8 : decode cX5_rest 8 = .ok (.astore_n 3, 1) := by decide +kernel
theorem dX5_rest_9 : decode cX5_rest 9 = .ok (.iconst 0, 1) := by decide +kernel
theorem dX5_rest_10 : decode cX5_rest 10 = .ok (.istore 4, 2) := by decide +kernel
theorem dX5_rest_12 : decode cX5_rest 12 = .ok (.iload 4, 2) := by decide +kernel
theorem dX5_rest_14 : decode cX5_rest 14 = .ok (.aload_n 0, 1) := by decide +kernel
theorem dX5_rest_15 : decode cX5_rest 15 = .ok (.arraylength, 1) := by decide +kernel
theorem dX5_rest_16 : decode cX5_rest 16 = .ok (.if_icmp .ge 44, 3) := by decide +kernel
theorem dX5_rest_19 : decode cX5_rest 19 = .ok (.iload 4, 2) := by decide +kernel
theorem dX5_rest_21 : decode cX5_rest 21 = .ok (.iload_n 1, 1) := by decide +kernel
theorem dX5_rest_22 : decode cX5_rest 22 = .ok (.if_icmp .lt 9, 3) := by decide +kernel
theorem dX5_rest_25 : decode cX5_rest 25 = .ok (.iload 4, 2) := by decide +kernel
theorem dX5_rest_27 : decode cX5_rest 27 = .ok (.iload_n 2, 1) := by decide +kernel
theorem dX5_rest_28 : decode cX5_rest 28 = .ok (.if_icmp .lt 26, 3) := by decide +kernel
theorem dX5_rest_31 : decode cX5_rest 31 = .ok (.aload_n 3, 1) := by decide +kernel
theorem dX5_rest_32 : decode cX5_rest 32 = .ok (.iload 4, 2) := by decide +kernel
theorem dX5_rest_34 : decode cX5_rest 34 = .ok (.iload_n 1, 1) := by decide +kernel
theorem dX5_rest_35 : decode cX5_rest 35 = .ok (.if_icmp .ge 8, 3) := by decide +kernel
theorem dX5_rest_38 : decode cX5_rest 38 = .ok (.iload 4, 2) := by decide +kernel
theorem dX5_rest_40 : decode cX5_rest 40 = .ok (.goto 9, 3) := by decide +kernel
theorem dX5_rest_43 : decode cX5_rest 43 = .ok (.iload 4, 2) := by decide +kernel
theorem dX5_rest_45 : decode cX5_rest 45 = .ok (.iload_n 2, 1) := by decide +kernel
theorem dX5_rest_46 : decode cX5_rest 46 = .ok (.isub, 1) := by decide +kernel
theorem dX5_rest_47 : decode cX5_rest 47 = .ok (.iload_n 1, 1) := by decide +kernel
theorem dX5_rest_48 : decode cX5_rest 48 = .ok (.iadd, 1) := by decide +kernel
theorem dX5_rest_49 : decode cX5_rest 49 = .ok (.aload_n 0, 1) := by decide +kernel
theorem dX5_rest_50 : decode cX5_rest 50 = .ok (.iload 4, 2) := by decide +kernel
theorem dX5_rest_52 : decode cX5_rest 52 = .ok (.iaload, 1) := by decide +kernel
theorem dX5_rest_53 : decode cX5_rest 53 = .ok (.iastore, 1) := by decide +kernel
theorem dX5_rest_54 : decode cX5_rest 54 = .ok (.iinc 4 1, 3) := by decide +kernel
theorem dX5_rest_57 : decode cX5_rest 57 = .ok (.goto (-45), 3) := by decide +kernel
theorem dX5_rest_60 : decode cX5_rest 60 = .ok (.aload_n 3, 1) := by decide +kernel
theorem dX5_rest_61 : decode cX5_rest 61 = .ok (.areturn, 1) := by decide +kernel
theorem dX5_bits_0 : decode cX5_bits 0 = .ok (.iconst 0, 1) := by decide +kernel
theorem dX5_bits_1 : decode cX5_bits 1 = .ok (.istore_n 1, 1) := by decide +kernel
theorem dX5_bits_2 : decode cX5_bits 2 = .ok (.aload_n 0, 1) := by decide +kernel
theorem dX5_bits_3 : decode cX5_bits 3 = .ok (.astore_n 2, 1) := by decide +kernel
theorem dX5_bits_4 : decode cX5_bits 4 = .ok (.aload_n 2, 1) := by decide +kernel
theorem dX5_bits_5 : decode cX5_bits 5 = .ok (.arraylength, 1) := by decide +kernel
theorem dX5_bits_6 : decode cX5_bits 6 = .ok (.istore_n 3, 1) := by decide +kernel
theorem dX5_bits_7 : decode cX5_bits 7 = .ok (.iconst 0, 1) := by decide +kernel
theorem dX5_bits_8 : decode cX5_bits 8 = .ok (.istore 4, 2) := by decide +kernel
theorem dX5_bits_10 : decode cX5_bits 10 = .ok (.iload 4, 2) := by decide +kernel
theorem dX5_bits_12 : decode cX5_bits 12 = .ok (.iload_n 3, 1) := by decide +kernel
theorem dX5_bits_13 : decode cX5_bits 13 = .ok (.if_icmp .ge 22, 3) := by decide +kernel
theorem dX5_bits_16 : decode cX5_bits 16 = .ok (.aload_n 2, 1) := by decide +kernel
theorem dX5_bits_17 : decode cX5_bits 17 = .ok (.iload 4, 2) := by decide +kernel
theorem dX5_bits_19 : decode cX5_bits 19 = .ok (.iaload, 1) := by decide +kernel
theorem dX5_bits_20 : decode cX5_bits 20 = .ok (.istore 5, 2) := by decide +kernel
theorem dX5_bits_22 : decode cX5_bits 22 = .ok (.iload_n 1, 1) := by decide +kernel
theorem dX5_bits_23 : decode cX5_bits 23 = .ok (.iconst 1, 1) := by decide +kernel
theorem dX5_bits_24 : decode cX5_bits 24 = .ok (.iload 5, 2) := by decide +kernel
theorem dX5_bits_26 : decode cX5_bits 26 = .ok (.ishl, 1) := by decide +kernel
theorem dX5_bits_27 : decode cX5_bits 27 = .ok (.iadd, 1) := by decide +kernel
theorem dX5_bits_28 : decode cX5_bits 28 = .ok (.istore_n 1, 1) := by decide +kernel
theorem dX5_bits_29 : decode cX5_bits 29 = .ok (.iinc 4 1, 3) := by decide +kernel
theorem dX5_bits_32 : decode cX5_bits 32 = .ok (.goto (-22), 3) := by decide +kernel
theorem dX5_bits_35 : decode cX5_bits 35 = .ok (.iload_n 1, 1) := by decide +kernel
theorem dX5_bits_36 : decode cX5_bits 36 = .ok (.ireturn, 1) := by decide +kernel
set_option maxRecDepth 20000 in
theorem ggX5_halve_X5_piece : GoodIn wsX5_halve wsX5_piece := goodIn_r _ [10, 2] (by decide +kernel) (by decide +kernel)
set_option maxRecDepth 20000 in
theorem gX5_halve_X5_piece : GoodIn wsX5_halve (va_wsS RX5 57 yX5_piece wsX5_piece) := goodIn_app (goodIn_of _ (by decide +kernel)) ggX5_halve_X5_piece
set_option maxRecDepth 20000 in
theorem ggX5_halve_X5_taste : GoodIn wsX5_halve wsX5_taste := goodIn_r _ [14, 15, 16, 17, 9, 18, 19, 20, 21, 22, 23, 24, 25, 26, 27, 28, 29, 30, 31, 2, 32, 33, 34, 35, 36, 37, 38, 39, 49, 50, 51, 52, 53, 54, 55, 56, 57] (by decide +kernel) (by decide +kernel)
set_option maxRecDepth 20000 in
theorem gX5_halve_X5_taste : GoodIn wsX5_halve (wsV RX5 61 RX5 yX5_taste wsX5_taste) := goodIn_app (goodIn_of _ (by decide +kernel)) ggX5_halve_X5_taste
set_option maxRecDepth 20000 in
theorem ggX5_halve_X5_bits : GoodIn wsX5_halve wsX5_bits := goodIn_r _ [42] (by decide +kernel) (by decide +kernel)
set_option maxRecDepth 20000 in
theorem gX5_halve_X5_bits : GoodIn wsX5_halve (va_wsS RX5 64 yX5_bits wsX5_bits) := goodIn_app (goodIn_of _ (by decide +kernel)) ggX5_halve_X5_bits
set_option maxRecDepth 20000 in
theorem ggX5_halve_X5_more : GoodIn wsX5_halve wsX5_more := goodIn_r _ [21, 22] (by decide +kernel) (by decide +kernel)
set_option maxRecDepth 20000 in
theorem gX5_halve_X5_more : GoodIn wsX5_halve (va_wsS RX5 49 yX5_more wsX5_more) := goodIn_app (goodIn_of _ (by decide +kernel)) ggX5_halve_X5_more
set_option maxRecDepth 20000 in
theorem ggX5_halve_X5_halve : GoodIn wsX5_halve wsX5_halve := goodIn_r _ [0, 1, 2, 3, 4, 5, 6, 7, 8, 9, 10, 11, 12, 13, 14, 15, 16, 17, 18, 19, 20, 21, 22, 23, 24, 25, 26, 27, 28, 29, 30, 31, 32, 33, 34, 35, 36, 37, 38, 39, 40, 41, 42, 43, 44, 45, 46, 47, 48, 49, 50, 51, 52, 53, 54, 55, 56, 57] (by decide +kernel) (by decide +kernel)
set_option maxRecDepth 20000 in
theorem gX5_halve_X5_halve : GoodIn wsX5_halve (wsV RX5 68 RX5 yX5_halve wsX5_halve) := goodIn_app (goodIn_of _ (by decide +kernel)) ggX5_halve_X5_halve
set_option maxRecDepth 20000 in
theorem ggX5_halve_X5_rest : GoodIn wsX5_halve wsX5_rest := goodIn_r _ [48, 2] (by decide +kernel) (by decide +kernel)
set_option maxRecDepth 20000 in
theorem gX5_halve_X5_rest : GoodIn wsX5_halve (va_wsS RX5 72 yX5_rest wsX5_rest) := goodIn_app (goodIn_of _ (by decide +kernel)) ggX5_halve_X5_rest
theorem dX5_halve_0 : decode cX5_halve 0 = .ok (.aload_n 1, 1) := by decide +kernel
theorem dX5_halve_1 : decode cX5_halve 1 = .ok (.arraylength, 1) := by decide +kernel
theorem dX5_halve_2 : decode cX5_halve 2 = .ok (.istore_n 3, 1) := by decide +kernel
theorem dX5_halve_3 : decode cX5_halve 3 = .ok (.iload_n 3, 1) := by decide +kernel
theorem dX5_halve_4 : decode cX5_halve 4 = .ok (.iconst 1, 1) := by decide +kernel
theorem dX5_halve_5 : decode cX5_halve 5 = .ok (.if_icmp .ne 5, 3) := by decide +kernel
theorem dX5_halve_8 : decode cX5_halve 8 = .ok (.aload_n 1, 1) := by decide +kernel
theorem dX5_halve_9 : decode cX5_halve 9 = .ok (.areturn, 1) := by decide +kernel
theorem dX5_halve_10 : decode cX5_halve 10 = .ok (.iconst 0, 1) := by decide +kernel
theorem dX5_halve_11 : decode cX5_halve 11 = .ok (.istore 4, 2) := by decide +kernel
theorem dX5_halve_13 : decode cX5_halve 13 = .ok (.iload 4, 2) := by decide +kernel
theorem dX5_halve_15 : decode cX5_halve 15 = .ok (.iload_n 2, 1) := by decide +kernel
theorem dX5_halve_16 : decode cX5_halve 16 = .ok (.if_icmp .ge 88, 3) := by decide +kernel
theorem dX5_halve_19 : decode cX5_halve 19 = .ok (.aload_n 1, 1) := by decide +kernel
theorem dX5_halve_20 : decode cX5_halve 20 = .ok (.iload 4, 2) := by decide +kernel
theorem dX5_halve_22 : decode cX5_halve 22 = .ok (.iload_n 3, 1) := by decide +kernel
theorem dX5_halve_23 : decode cX5_halve 23 = .ok (.imul, 1) := by decide +kernel
theorem dX5_halve_24 : decode cX5_halve 24 = .ok (.iload_n 2, 1) := by decide +kernel
theorem dX5_halve_25 : decode cX5_halve 25 = .ok (.idiv, 1) := by decide +kernel
theorem dX5_halve_26 : decode cX5_halve 26 = .ok (.iload 4, 2) := by decide +kernel
theorem dX5_halve_28 : decode cX5_halve 28 = .ok (.iconst 1, 1) := by decide +kernel
theorem dX5_halve_29 : decode cX5_halve 29 = .ok (.iadd, 1) := by decide +kernel
theorem dX5_halve_30 : decode cX5_halve 30 = .ok (.iload_n 3, 1) := by decide +kernel
theorem dX5_halve_31 : decode cX5_halve 31 = .ok (.imul, 1) := by decide +kernel
theorem dX5_halve_32 : decode cX5_halve 32 = .ok (.iload_n 2, 1) := by decide +kernel
theorem dX5_halve_33 : decode cX5_halve 33 = .ok (.idiv, 1) := by decide +kernel
theorem dX5_halve_34 : decode cX5_halve 34 = .ok (.invokestatic 57, 3) := by decide +kernel
theorem dX5_halve_37 : decode cX5_halve 37 = .ok (.astore 5, 2) := by decide +kernel
theorem dX5_halve_39 : decode cX5_halve 39 = .ok (.aload_n 0, 1) := by decide +kernel
theorem dX5_halve_40 : decode cX5_halve 40 = .ok (.aload 5, 2) := by decide +kernel
theorem dX5_halve_42 : decode cX5_halve 42 = .ok (.invokevirtual 61, 3) := by decide +kernel
theorem dX5_halve_45 : decode cX5_halve 45 = .ok (.ifCond .ne 6, 3) := by decide +kernel
theorem dX5_halve_48 : decode cX5_halve 48 = .ok (.goto 50, 3) := by decide +kernel
theorem dX5_halve_51 : decode cX5_halve 51 = .ok (.aload_n 0, 1) := by decide +kernel
theorem dX5_halve_52 : decode cX5_halve 52 = .ok (.aload_n 0, 1) := by decide +kernel
theorem dX5_halve_53 : decode cX5_halve 53 = .ok (.getfield 30, 3) := by decide +kernel
theorem dX5_halve_56 : decode cX5_halve 56 = .ok (.iconst 5, 1) := by decide +kernel
theorem dX5_halve_57 : decode cX5_halve 57 = .ok (.newarray .int, 2) := by decide +kernel
theorem dX5_halve_59 : decode cX5_halve 59 = .ok (.dup, 1) := by decide +kernel
theorem dX5_halve_60 : decode cX5_halve 60 = .ok (.iconst 0, 1) := by decide +kernel
theorem dX5_halve_61 : decode cX5_halve 61 = .ok (.iload_n 3, 1) := by decide +kernel
theorem dX5_halve_62 : decode cX5_halve 62 = .ok (.iastore, 1) := by decide +kernel
theorem dX5_halve_63 : decode cX5_halve 63 = .ok (.dup, 1) := by decide +kernel
theorem dX5_halve_64 : decode cX5_halve 64 = .ok (.iconst 1, 1) := by decide +kernel
theorem dX5_halve_65 : decode cX5_halve 65 = .ok (.iload_n 2, 1) := by decide +kernel
theorem dX5_halve_66 : decode cX5_halve 66 = .ok (.iastore, 1) := by decide +kernel
theorem dX5_halve_67 : decode cX5_halve 67 = .ok (.dup, 1) := by decide +kernel
theorem dX5_halve_68 : decode cX5_halve 68 = .ok (.iconst 2, 1) := by decide +kernel
theorem dX5_halve_69 : decode cX5_halve 69 = .ok (.iconst 1, 1) := by decide +kernel
theorem dX5_halve_70 : decode cX5_halve 70 = .ok (.iastore, 1) := by decide +kernel
theorem dX5_halve_71 : decode cX5_halve 71 = .ok (.dup, 1) := by decide +kernel
theorem dX5_halve_72 : decode cX5_halve 72 = .ok (.iconst 3, 1) := by decide +kernel
theorem dX5_halve_73 : decode cX5_halve 73 = .ok (.iload 4, 2) := by decide +kernel
theorem dX5_halve_75 : decode cX5_halve 75 = .ok (.iastore, 1) := by decide +kernel
theorem dX5_halve_76 : decode cX5_halve 76 = .ok (.dup, 1) := by decide +kernel
theorem dX5_halve_77 : decode cX5_halve 77 = .ok (.iconst 4, 1) := by decide +kernel
theorem dX5_halve_78 : decode cX5_halve 78 = .ok (.aload 5, 2) := by decide +kernel
theorem dX5_halve_80 : decode cX5_halve 80 = .ok (.invokestatic 64, 3) := by decide +kernel
theorem dX5_halve_83 : decode cX5_halve 83 = .ok (.iastore, 1) := by decide +kernel
theorem dX5_halve_84 : decode cX5_halve 84 = .ok (.invokestatic 49, 3) := by decide +kernel
theorem dX5_halve_87 : decode cX5_halve 87 = .ok (.putfield 30, 3) := by decide +kernel
theorem dX5_halve_90 : decode cX5_halve 90 = .ok (.aload_n 0, 1) := by decide +kernel
theorem dX5_halve_91 : decode cX5_halve 91 = .ok (.aload 5, 2) := by decide +kernel
theorem dX5_halve_93 : decode cX5_halve 93 = .ok (.iconst 2, 1) := by decide +kernel
theorem dX5_halve_94 : decode cX5_halve 94 = .ok (.invokevirtual 68, 3) := by decide +kernel
theorem dX5_halve_97 : decode cX5_halve 97 = .ok (.areturn, 1) := by decide +kernel
theorem dX5_halve_98 : decode cX5_halve 98 = .ok (.iinc 4 1, 3) := by decide +kernel
theorem dX5_halve_101 : decode cX5_halve 101 = .ok (.goto (-88), 3) := by decide +kernel
theorem dX5_halve_104 : decode cX5_halve 104 = .ok (.iconst 0, 1) := by decide +kernel
theorem dX5_halve_105 : decode cX5_halve 105 = .ok (.istore 4, 2) := by decide +kernel
theorem dX5_halve_107 : decode cX5_halve 107 = .ok (.iload 4, 2) := by decide +kernel
theorem dX5_halve_109 : decode cX5_halve 109 = .ok (.iload_n 2, 1) := by decide +kernel
theorem dX5_halve_110 : decode cX5_halve 110 = .ok (.if_icmp .ge 95, 3) := by decide +kernel
theorem dX5_halve_113 : decode cX5_halve 113 = .ok (.iload_n 2, 1) := by decide +kernel
theorem dX5_halve_114 : decode cX5_halve 114 = .ok (.iconst 2, 1) := by decide +kernel
theorem dX5_halve_115 : decode cX5_halve 115 = .ok (.if_icmp .le 90, 3) := by decide +kernel
theorem dX5_halve_118 : decode cX5_halve 118 = .ok (.aload_n 1, 1) := by decide +kernel
theorem dX5_halve_119 : decode cX5_halve 119 = .ok (.iload 4, 2) := by decide +kernel
theorem dX5_halve_121 : decode cX5_halve 121 = .ok (.iload_n 3, 1) := by decide +kernel
theorem dX5_halve_122 : decode cX5_halve 122 = .ok (.imul, 1) := by decide +kernel
theorem dX5_halve_123 : decode cX5_halve 123 = .ok (.iload_n 2, 1) := by decide +kernel
theorem dX5_halve_124 : decode cX5_halve 124 = .ok (.idiv, 1) := by decide +kernel
theorem dX5_halve_125 : decode cX5_halve 125 = .ok (.iload 4, 2) := by decide +kernel
theorem dX5_halve_127 : decode cX5_halve 127 = .ok (.iconst 1, 1) := by decide +kernel
theorem dX5_halve_128 : decode cX5_halve 128 = .ok (.iadd, 1) := by decide +kernel
theorem dX5_halve_129 : decode cX5_halve 129 = .ok (.iload_n 3, 1) := by decide +kernel
theorem dX5_halve_130 : decode cX5_halve 130 = .ok (.imul, 1) := by decide +kernel
theorem dX5_halve_131 : decode cX5_halve 131 = .ok (.iload_n 2, 1) := by decide +kernel
theorem dX5_halve_132 : decode cX5_halve 132 = .ok (.idiv, 1) := by decide +kernel
theorem dX5_halve_133 : decode cX5_halve 133 = .ok (.invokestatic 72, 3) := by decide +kernel
theorem dX5_halve_136 : decode cX5_halve 136 = .ok (.astore 5, 2) := by decide +kernel
theorem dX5_halve_138 : decode cX5_halve 138 = .ok (.aload_n 0, 1) := by decide +kernel
theorem dX5_halve_139 : decode cX5_halve 139 = .ok (.aload 5, 2) := by decide +kernel
theorem dX5_halve_141 : decode cX5_halve 141 = .ok (.invokevirtual 61, 3) := by decide +kernel
theorem dX5_halve_144 : decode cX5_halve 144 = .ok (.ifCond .ne 6, 3) := by decide +kernel
theorem dX5_halve_147 : decode cX5_halve 147 = .ok (.goto 52, 3) := by decide +kernel
theorem dX5_halve_150 : decode cX5_halve 150 = .ok (.aload_n 0, 1) := by decide +kernel
theorem dX5_halve_151 : decode cX5_halve 151 = .ok (.aload_n 0, 1) := by decide +kernel
theorem dX5_halve_152 : decode cX5_halve 152 = .ok (.getfield 30, 3) := by decide +kernel
theorem dX5_halve_155 : decode cX5_halve 155 = .ok (.iconst 5, 1) := by decide +kernel
theorem dX5_halve_156 : decode cX5_halve 156 = .ok (.newarray .int, 2) := by decide +kernel
theorem dX5_halve_158 : decode cX5_halve 158 = .ok (.dup, 1) := by decide +kernel
theorem dX5_halve_159 : decode cX5_halve 159 = .ok (.iconst 0, 1) := by decide +kernel
theorem dX5_halve_160 : decode cX5_halve 160 = .ok (.iload_n 3, 1) := by decide +kernel
theorem dX5_halve_161 : decode cX5_halve 161 = .ok (.iastore, 1) := by decide +kernel
theorem dX5_halve_162 : decode cX5_halve 162 = .ok (.dup, 1) := by decide +kernel
theorem dX5_halve_163 : decode cX5_halve 163 = .ok (.iconst 1, 1) := by decide +kernel
theorem dX5_halve_164 : decode cX5_halve 164 = .ok (.iload_n 2, 1) := by decide +kernel
theorem dX5_halve_165 : decode cX5_halve 165 = .ok (.iastore, 1) := by decide +kernel
theorem dX5_halve_166 : decode cX5_halve 166 = .ok (.dup, 1) := by decide +kernel
theorem dX5_halve_167 : decode cX5_halve 167 = .ok (.iconst 2, 1) := by decide +kernel
theorem dX5_halve_168 : decode cX5_halve 168 = .ok (.iconst 2, 1) := by decide +kernel
theorem dX5_halve_169 : decode cX5_halve 169 = .ok (.iastore, 1) := by decide +kernel
theorem dX5_halve_170 : decode cX5_halve 170 = .ok (.dup, 1) := by decide +kernel
theorem dX5_halve_171 : decode cX5_halve 171 = .ok (.iconst 3, 1) := by decide +kernel
theorem dX5_halve_172 : decode cX5_halve 172 = .ok (.iload 4, 2) := by decide +kernel
theorem dX5_halve_174 : decode cX5_halve 174 = .ok (.iastore, 1) := by decide +kernel
theorem dX5_halve_175 : decode cX5_halve 175 = .ok (.dup, 1) := by decide +kernel
theorem dX5_halve_176 : decode cX5_halve 176 = .ok (.iconst 4, 1) := by decide +kernel
theorem dX5_halve_177 : decode cX5_halve 177 = .ok (.aload 5, 2) := by decide +kernel
theorem dX5_halve_179 : decode cX5_halve 179 = .ok (.invokestatic 64, 3) := by decide +kernel
theorem dX5_halve_182 : decode cX5_halve 182 = .ok (.iastore, 1) := by decide +kernel
theorem dX5_halve_183 : decode cX5_halve 183 = .ok (.invokestatic 49, 3) := by decide +kernel
theorem dX5_halve_186 : decode cX5_halve 186 = .ok (.putfield 30, 3) := by decide +kernel
theorem dX5_halve_189 : decode cX5_halve 189 = .ok (.aload_n 0, 1) := by decide +kernel
theorem dX5_halve_190 : decode cX5_halve 190 = .ok (.aload 5, 2) := by decide +kernel
theorem dX5_halve_192 : decode cX5_halve 192 = .ok (.iload_n 2, 1) := by decide +kernel
theorem dX5_halve_193 : decode cX5_halve 193 = .ok (.iconst 1, 1) := by decide +kernel
theorem dX5_halve_194 : decode cX5_halve 194 = .ok (.isub, 1) := by decide +kernel
theorem dX5_halve_195 : decode cX5_halve 195 = .ok (.invokevirtual 68, 3) := by decide +kernel
theorem dX5_halve_198 : decode cX5_halve 198 = .ok (.areturn, 1) := by decide +kernel
theorem dX5_halve_199 : decode cX5_halve 199 = .ok (.iinc 4 1, 3) := by decide +kernel
theorem dX5_halve_202 : decode cX5_halve 202 = .ok (.goto (-95), 3) := by decide +kernel
theorem dX5_halve_205 : decode cX5_halve 205 = .ok (.iload_n 2, 1) := by decide +kernel
theorem dX5_halve_206 : decode cX5_halve 206 = .ok (.iload_n 3, 1) := by decide +kernel
theorem dX5_halve_207 : decode cX5_halve 207 = .ok (.if_icmp .lt 5, 3) := by decide +kernel
theorem dX5_halve_210 : decode cX5_halve 210 = .ok (.aload_n 1, 1) := by decide +kernel
theorem dX5_halve_211 : decode cX5_halve 211 = .ok (.areturn, 1) := by decide +kernel
theorem dX5_halve_212 : decode cX5_halve 212 = .ok (.aload_n 0, 1) := by decide +kernel
theorem dX5_halve_213 : decode cX5_halve 213 = .ok (.aload_n 0, 1) := by decide +kernel
theorem dX5_halve_214 : decode cX5_halve 214 = .ok (.getfield 30, 3) := by decide +kernel
theorem dX5_halve_217 : decode cX5_halve 217 = .ok (.iconst 5, 1) := by decide +kernel
theorem dX5_halve_218 : decode cX5_halve 218 = .ok (.newarray .int, 2) := by decide +kernel
theorem dX5_halve_220 : decode cX5_halve 220 = .ok (.dup, 1) := by decide +kernel
theorem dX5_halve_221 : decode cX5_halve 221 = .ok (.iconst 0, 1) := by decide +kernel
theorem dX5_halve_222 : decode cX5_halve 222 = .ok (.iload_n 3, 1) := by decide +kernel
theorem dX5_halve_223 : decode cX5_halve 223 = .ok (.iastore, 1) := by decide +kernel
theorem dX5_halve_224 : decode cX5_halve 224 = .ok (.dup, 1) := by decide +kernel
theorem dX5_halve_225 : decode cX5_halve 225 = .ok (.iconst 1, 1) := by decide +kernel
theorem dX5_halve_226 : decode cX5_halve 226 = .ok (.iload_n 2, 1) := by decide +kernel
theorem dX5_halve_227 : decode cX5_halve 227 = .ok (.iastore, 1) := by decide +kernel
theorem dX5_halve_228 : decode cX5_halve 228 = .ok (.dup, 1) := by decide +kernel
theorem dX5_halve_229 : decode cX5_halve 229 = .ok (.iconst 2, 1) := by decide +kernel
theorem dX5_halve_230 : decode cX5_halve 230 = .ok (.iconst 3, 1) := by decide +kernel
theorem dX5_halve_231 : decode cX5_halve 231 = .ok (.iastore, 1) := by decide +kernel
theorem dX5_halve_232 : decode cX5_halve 232 = .ok (.dup, 1) := by decide +kernel
theorem dX5_halve_233 : decode cX5_halve 233 = .ok (.iconst 3, 1) := by decide +kernel
theorem dX5_halve_234 : decode cX5_halve 234 = .ok (.iconst (-1), 1) := by decide +kernel
theorem dX5_halve_235 : decode cX5_halve 235 = .ok (.iastore, 1) := by decide +kernel
theorem dX5_halve_236 : decode cX5_halve 236 = .ok (.dup, 1) := by decide +kernel
theorem dX5_halve_237 : decode cX5_halve 237 = .ok (.iconst 4, 1) := by decide +kernel
theorem dX5_halve_238 : decode cX5_halve 238 = .ok (.aload_n 1, 1) := by decide +kernel
theorem dX5_halve_239 : decode cX5_halve 239 = .ok (.invokestatic 64, 3) := by decide +kernel
theorem dX5_halve_242 : decode cX5_halve 242 = .ok (.iastore, 1) := by decide +kernel
theorem dX5_halve_243 : decode cX5_halve 243 = .ok (.invokestatic 49, 3) := by decide +kernel
theorem dX5_halve_246 : decode cX5_halve 246 = .ok (.putfield 30, 3) := by decide +kernel
theorem dX5_halve_249 : decode cX5_halve 249 = .ok (.aload_n 0, 1) := by decide +kernel
theorem dX5_halve_250 : decode cX5_halve 250 = .ok (.aload_n 1, 1) := by decide +kernel
theorem dX5_halve_251 : decode cX5_halve 251 = .ok (.iload_n 3, 1) := by decide +kernel
theorem dX5_halve_252 : decode cX5_halve 252 = .ok (.iload_n 2, 1) := by decide +kernel
theorem dX5_halve_253 : decode cX5_halve 253 = .ok (.iload_n 2, 1) := by decide +kernel
theorem dX5_halve_254 : decode cX5_halve 254 = .ok (.iadd, 1) := by decide +kernel
theorem dX5_halve_255 : decode cX5_halve 255 = .ok (.invokestatic 75, 3) := by decide +kernel
theorem dX5_halve_258 : decode cX5_halve 258 = .ok (.invokevirtual 68, 3) := by decide +kernel
theorem dX5_halve_261 : decode cX5_halve 261 = .ok (.areturn, 1) := by decide +kernel
set_option maxRecDepth 20000 in
theorem ggX5_search_X5_whole : GoodIn wsX5_search wsX5_whole := goodIn_r _ [9, 10, 4, 54, 55, 56, 57, 58, 59, 60, 61, 62] (by decide +kernel) (by decide +kernel)
set_option maxRecDepth 20000 in
theorem gX5_search_X5_whole : GoodIn wsX5_search (wsV RX5 81 RX5 yX5_whole wsX5_whole) := goodIn_app (goodIn_of _ (by decide +kernel)) ggX5_search_X5_whole
set_option maxRecDepth 20000 in
theorem ggX5_search_X5_taste : GoodIn wsX5_search wsX5_taste := goodIn_r _ [14, 2, 15, 16, 8, 17, 18, 19, 20, 1, 21, 22, 23, 24, 25, 26, 27, 28, 29, 4, 10, 30, 31, 32, 33, 34, 35, 36, 54, 55, 56, 57, 58, 59, 60, 61, 62] (by decide +kernel) (by decide +kernel)
set_option maxRecDepth 20000 in
theorem gX5_search_X5_taste : GoodIn wsX5_search (wsV RX5 61 RX5 yX5_taste wsX5_taste) := goodIn_app (goodIn_of _ (by decide +kernel)) ggX5_search_X5_taste
set_option maxRecDepth 20000 in
theorem ggX5_search_X5_halve : GoodIn wsX5_search wsX5_halve := goodIn_r _ [40, 3, 4, 41, 42, 43, 44, 45, 46, 8, 47, 11, 12, 13, 14, 2, 15, 16, 17, 18, 19, 20, 1, 21, 22, 23, 24, 25, 26, 27, 28, 29, 10, 30, 31, 32, 33, 34, 35, 36, 48, 49, 50, 37, 38, 39, 51, 52, 53, 54, 55, 56, 57, 58, 59, 60, 61, 62] (by decide +kernel) (by decide +kernel)
set_option maxRecDepth 20000 in
theorem gX5_search_X5_halve : GoodIn wsX5_search (wsV RX5 68 RX5 yX5_halve wsX5_halve) := goodIn_app (goodIn_of _ (by decide +kernel)) ggX5_search_X5_halve
theorem dX5_search_0 : decode cX5_search 0 = .ok (.aload_n 0, 1) := by decide +kernel
theorem dX5_search_1 : decode cX5_search 1 = .ok (.iconst 0, 1) := by decide +kernel
theorem dX5_search_2 : decode cX5_search 2 = .ok (.anewarray 13, 3) := by decide +kernel
theorem dX5_search_5 : decode cX5_search 5 = .ok (.putfield 27, 3) := by decide +kernel
theorem dX5_search_8 : decode cX5_search 8 = .ok (.aload_n 0, 1) := by decide +kernel
theorem dX5_search_9 : decode cX5_search 9 = .ok (.iconst 0, 1) := by decide +kernel
theorem dX5_search_10 : decode cX5_search 10 = .ok (.anewarray 13, 3) := by decide +kernel
theorem dX5_search_13 : decode cX5_search 13 = .ok (.putfield 30, 3) := by decide +kernel
theorem dX5_search_16 : decode cX5_search 16 = .ok (.iconst 0, 1) := by decide +kernel
theorem dX5_search_17 : decode cX5_search 17 = .ok (.newarray .int, 2) := by decide +kernel
theorem dX5_search_19 : decode cX5_search 19 = .ok (.astore_n 1, 1) := by decide +kernel
theorem dX5_search_20 : decode cX5_search 20 = .ok (.aload_n 0, 1) := by decide +kernel
theorem dX5_search_21 : decode cX5_search 21 = .ok (.aload_n 0, 1) := by decide +kernel
theorem dX5_search_22 : decode cX5_search 22 = .ok (.invokevirtual 81, 3) := by decide +kernel
theorem dX5_search_25 : decode cX5_search 25 = .ok (.invokevirtual 61, 3) := by decide +kernel
theorem dX5_search_28 : decode cX5_search 28 = .ok (.ifCond .eq 15, 3) := by decide +kernel
theorem dX5_search_31 : decode cX5_search 31 = .ok (.aload_n 0, 1) := by decide +kernel
theorem dX5_search_32 : decode cX5_search 32 = .ok (.aload_n 0, 1) := by decide +kernel
theorem dX5_search_33 : decode cX5_search 33 = .ok (.invokevirtual 81, 3) := by decide +kernel
theorem dX5_search_36 : decode cX5_search 36 = .ok (.iconst 2, 1) := by decide +kernel
theorem dX5_search_37 : decode cX5_search 37 = .ok (.invokevirtual 68, 3) := by decide +kernel
theorem dX5_search_40 : decode cX5_search 40 = .ok (.goto 4, 3) := by decide +kernel
theorem dX5_search_43 : decode cX5_search 43 = .ok (.aload_n 1, 1) := by decide +kernel
theorem dX5_search_44 : decode cX5_search 44 = .ok (.areturn, 1) := by decide +kernel
set_option maxRecDepth 20000 in
theorem ggX5_oneByOne_X5_whole : GoodIn wsX5_oneByOne wsX5_whole := goodIn_r _ [8, 9, 3, 39, 40, 41, 42, 43, 44, 45, 46, 47] (by decide +kernel) (by decide +kernel)
set_option maxRecDepth 20000 in
theorem gX5_oneByOne_X5_whole : GoodIn wsX5_oneByOne (wsV RX5 81 RX5 yX5_whole wsX5_whole) := goodIn_app (goodIn_of _ (by decide +kernel)) ggX5_oneByOne_X5_whole
set_option maxRecDepth 20000 in
theorem ggX5_oneByOne_X5_taste : GoodIn wsX5_oneByOne wsX5_taste := goodIn_r _ [13, 2, 14, 15, 7, 16, 17, 18, 19, 1, 20, 21, 22, 23, 24, 25, 26, 27, 28, 3, 9, 29, 30, 31, 32, 33, 34, 35, 39, 40, 41, 42, 43, 44, 45, 46, 47] (by decide +kernel) (by decide +kernel)
set_option maxRecDepth 20000 in
theorem gX5_oneByOne_X5_taste : GoodIn wsX5_oneByOne (wsV RX5 61 RX5 yX5_taste wsX5_taste) := goodIn_app (goodIn_of _ (by decide +kernel)) ggX5_oneByOne_X5_taste
set_option maxRecDepth 20000 in
theorem ggX5_oneByOne_X5_rest : GoodIn wsX5_oneByOne wsX5_rest := goodIn_r _ [38, 3] (by decide +kernel) (by decide +kernel)
set_option maxRecDepth 20000 in
theorem gX5_oneByOne_X5_rest : GoodIn wsX5_oneByOne (va_wsS RX5 72 yX5_rest wsX5_rest) := goodIn_app (goodIn_of _ (by decide +kernel)) ggX5_oneByOne_X5_rest
theorem dX5_oneByOne_0 : decode cX5_oneByOne 0 = .ok (.aload_n 0, 1) := by decide +kernel
theorem dX5_oneByOne_1 : decode cX5_oneByOne 1 = .ok (.iconst 0, 1) := by decide +kernel
theorem dX5_oneByOne_2 : decode cX5_oneByOne 2 = .ok (.anewarray 13, 3) := by decide +kernel
theorem dX5_oneByOne_5 : decode cX5_oneByOne 5 = .ok (.putfield 27, 3) := by decide +kernel
theorem dX5_oneByOne_8 : decode cX5_oneByOne 8 = .ok (.aload_n 0, 1) := by decide +kernel
theorem dX5_oneByOne_9 : decode cX5_oneByOne 9 = .ok (.invokevirtual 81, 3) := by decide +kernel
theorem dX5_oneByOne_12 : decode cX5_oneByOne 12 = .ok (.astore_n 1, 1) := by decide +kernel
theorem dX5_oneByOne_13 : decode cX5_oneByOne 13 = .ok (.iconst 0, 1) := by decide +kernel
theorem dX5_oneByOne_14 : decode cX5_oneByOne 14 = .ok (.newarray .int, 2) := by decide +kernel
theorem dX5_oneByOne_16 : decode cX5_oneByOne 16 = .ok (.astore_n 2, 1) := by decide +kernel
theorem dX5_oneByOne_17 : decode cX5_oneByOne 17 = .ok (.aload_n 0, 1) := by decide +kernel
theorem dX5_oneByOne_18 : decode cX5_oneByOne 18 = .ok (.aload_n 1, 1) := by decide +kernel
theorem dX5_oneByOne_19 : decode cX5_oneByOne 19 = .ok (.invokevirtual 61, 3) := by decide +kernel
theorem dX5_oneByOne_22 : decode cX5_oneByOne 22 = .ok (.ifCond .ne 5, 3) := by decide +kernel
theorem dX5_oneByOne_25 : decode cX5_oneByOne 25 = .ok (.aload_n 2, 1) := by decide +kernel
theorem dX5_oneByOne_26 : decode cX5_oneByOne 26 = .ok (.areturn, 1) := by decide +kernel
theorem dX5_oneByOne_27 : decode cX5_oneByOne 27 = .ok (.aload_n 1, 1) := by decide +kernel
theorem dX5_oneByOne_28 : decode cX5_oneByOne 28 = .ok (.arraylength, 1) := by decide +kernel
theorem dX5_oneByOne_29 : decode cX5_oneByOne 29 = .ok (.iconst 1, 1) := by decide +kernel
theorem dX5_oneByOne_30 : decode cX5_oneByOne 30 = .ok (.isub, 1) := by decide +kernel
theorem dX5_oneByOne_31 : decode cX5_oneByOne 31 = .ok (.istore_n 3, 1) := by decide +kernel
theorem dX5_oneByOne_32 : decode cX5_oneByOne 32 = .ok (.iload_n 3, 1) := by decide +kernel
theorem dX5_oneByOne_33 : decode cX5_oneByOne 33 = .ok (.ifCond .lt 40, 3) := by decide +kernel
theorem dX5_oneByOne_36 : decode cX5_oneByOne 36 = .ok (.aload_n 1, 1) := by decide +kernel
theorem dX5_oneByOne_37 : decode cX5_oneByOne 37 = .ok (.arraylength, 1) := by decide +kernel
theorem dX5_oneByOne_38 : decode cX5_oneByOne 38 = .ok (.iconst 1, 1) := by decide +kernel
theorem dX5_oneByOne_39 : decode cX5_oneByOne 39 = .ok (.if_icmp .ne 6, 3) := by decide +kernel
theorem dX5_oneByOne_42 : decode cX5_oneByOne 42 = .ok (.goto 25, 3) := by decide +kernel
theorem dX5_oneByOne_45 : decode cX5_oneByOne 45 = .ok (.aload_n 1, 1) := by decide +kernel
theorem dX5_oneByOne_46 : decode cX5_oneByOne 46 = .ok (.iload_n 3, 1) := by decide +kernel
theorem dX5_oneByOne_47 : decode cX5_oneByOne 47 = .ok (.iload_n 3, 1) := by decide +kernel
theorem dX5_oneByOne_48 : decode cX5_oneByOne 48 = .ok (.iconst 1, 1) := by decide +kernel
theorem dX5_oneByOne_49 : decode cX5_oneByOne 49 = .ok (.iadd, 1) := by decide +kernel
theorem dX5_oneByOne_50 : decode cX5_oneByOne 50 = .ok (.invokestatic 72, 3) := by decide +kernel
theorem dX5_oneByOne_53 : decode cX5_oneByOne 53 = .ok (.astore 4, 2) := by decide +kernel
theorem dX5_oneByOne_55 : decode cX5_oneByOne 55 = .ok (.aload_n 0, 1) := by decide +kernel
theorem dX5_oneByOne_56 : decode cX5_oneByOne 56 = .ok (.aload 4, 2) := by decide +kernel
theorem dX5_oneByOne_58 : decode cX5_oneByOne 58 = .ok (.invokevirtual 61, 3) := by decide +kernel
theorem dX5_oneByOne_61 : decode cX5_oneByOne 61 = .ok (.ifCond .eq 6, 3) := by decide +kernel
theorem dX5_oneByOne_64 : decode cX5_oneByOne 64 = .ok (.aload 4, 2) := by decide +kernel
theorem dX5_oneByOne_66 : decode cX5_oneByOne 66 = .ok (.astore_n 1, 1) := by decide +kernel
theorem dX5_oneByOne_67 : decode cX5_oneByOne 67 = .ok (.iinc 3 (-1), 3) := by decide +kernel
theorem dX5_oneByOne_70 : decode cX5_oneByOne 70 = .ok (.goto (-38), 3) := by decide +kernel
theorem dX5_oneByOne_73 : decode cX5_oneByOne 73 = .ok (.aload_n 1, 1) := by decide +kernel
theorem dX5_oneByOne_74 : decode cX5_oneByOne 74 = .ok (.areturn, 1) := by decide +kernel
set_option maxRecDepth 20000 in
theorem ggX5_shrink_X5_search : GoodIn wsX5_shrink wsX5_search := goodIn_r _ [12, 13, 3, 5, 14, 15, 16, 17, 11, 18, 19, 20, 21, 22, 23, 24, 25, 26, 27, 28, 29, 30, 31, 32, 33, 34, 35, 36, 37, 38, 39, 40, 41, 42, 43, 44, 45, 46, 47, 48, 49, 50, 51, 52, 53, 54, 55, 56, 57, 58, 59, 60, 61, 62, 63, 64, 65, 66, 67, 68, 69, 70, 71] (by decide +kernel) (by decide +kernel)
set_option maxRecDepth 20000 in
theorem gX5_shrink_X5_search : GoodIn wsX5_shrink (wsV RX5 85 RX5 yX5_search wsX5_search) := goodIn_app (goodIn_of _ (by decide +kernel)) ggX5_shrink_X5_search
set_option maxRecDepth 20000 in
theorem ggX5_shrink_X5_kindsOf : GoodIn wsX5_shrink wsX5_kindsOf := goodIn_r _ [38, 14, 19, 63, 64, 65, 66, 67, 68, 69, 70, 71] (by decide +kernel) (by decide +kernel)
set_option maxRecDepth 20000 in
theorem gX5_shrink_X5_kindsOf : GoodIn wsX5_shrink (wsV RX5 37 RX5 yX5_kindsOf wsX5_kindsOf) := goodIn_app (goodIn_of _ (by decide +kernel)) ggX5_shrink_X5_kindsOf
theorem dX5_shrink_0 : decode cX5_shrink 0 = .ok (.aload_n 0, 1) := by decide +kernel
theorem dX5_shrink_1 : decode cX5_shrink 1 = .ok (.aload_n 0, 1) := by decide +kernel
theorem dX5_shrink_2 : decode cX5_shrink 2 = .ok (.invokevirtual 85, 3) := by decide +kernel
theorem dX5_shrink_5 : decode cX5_shrink 5 = .ok (.putfield 18, 3) := by decide +kernel
theorem dX5_shrink_8 : decode cX5_shrink 8 = .ok (.aload_n 0, 1) := by decide +kernel
theorem dX5_shrink_9 : decode cX5_shrink 9 = .ok (.aload_n 0, 1) := by decide +kernel
theorem dX5_shrink_10 : decode cX5_shrink 10 = .ok (.aload_n 0, 1) := by decide +kernel
theorem dX5_shrink_11 : decode cX5_shrink 11 = .ok (.getfield 18, 3) := by decide +kernel
theorem dX5_shrink_14 : decode cX5_shrink 14 = .ok (.invokevirtual 37, 3) := by decide +kernel
theorem dX5_shrink_17 : decode cX5_shrink 17 = .ok (.putfield 21, 3) := by decide +kernel
theorem dX5_shrink_20 : decode cX5_shrink 20 = .ok (.aload_n 0, 1) := by decide +kernel
theorem dX5_shrink_21 : decode cX5_shrink 21 = .ok (.aload_n 0, 1) := by decide +kernel
theorem dX5_shrink_22 : decode cX5_shrink 22 = .ok (.getfield 27, 3) := by decide +kernel
theorem dX5_shrink_25 : decode cX5_shrink 25 = .ok (.arraylength, 1) := by decide +kernel
theorem dX5_shrink_26 : decode cX5_shrink 26 = .ok (.putfield 88, 3) := by decide +kernel
theorem dX5_shrink_29 : decode cX5_shrink 29 = .ok (.aload_n 0, 1) := by decide +kernel
theorem dX5_shrink_30 : decode cX5_shrink 30 = .ok (.aload_n 0, 1) := by decide +kernel
theorem dX5_shrink_31 : decode cX5_shrink 31 = .ok (.getfield 30, 3) := by decide +kernel
theorem dX5_shrink_34 : decode cX5_shrink 34 = .ok (.putfield 24, 3) := by decide +kernel
theorem dX5_shrink_37 : decode cX5_shrink 37 = .ok (.aload_n 0, 1) := by decide +kernel
theorem dX5_shrink_38 : decode cX5_shrink 38 = .ok (.dup, 1) := by decide +kernel
theorem dX5_shrink_39 : decode cX5_shrink 39 = .ok (.getfield 92, 3) := by decide +kernel
theorem dX5_shrink_42 : decode cX5_shrink 42 = .ok (.aload_n 0, 1) := by decide +kernel
theorem dX5_shrink_43 : decode cX5_shrink 43 = .ok (.getfield 88, 3) := by decide +kernel
theorem dX5_shrink_46 : decode cX5_shrink 46 = .ok (.iadd, 1) := by decide +kernel
theorem dX5_shrink_47 : decode cX5_shrink 47 = .ok (.putfield 92, 3) := by decide +kernel
theorem dX5_shrink_50 : decode cX5_shrink 50 = .ok (.aload_n 0, 1) := by decide +kernel
theorem dX5_shrink_51 : decode cX5_shrink 51 = .ok (.getfield 88, 3) := by decide +kernel
theorem dX5_shrink_54 : decode cX5_shrink 54 = .ok (.ireturn, 1) := by decide +kernel
theorem dX5_needs_0 : decode cX5_needs 0 = .ok (.iconst 0, 1) := by decide +kernel
theorem dX5_needs_1 : decode cX5_needs 1 = .ok (.istore_n 3, 1) := by decide +kernel
theorem dX5_needs_2 : decode cX5_needs 2 = .ok (.iconst 0, 1) := by decide +kernel
theorem dX5_needs_3 : decode cX5_needs 3 = .ok (.istore 4, 2) := by decide +kernel
theorem dX5_needs_5 : decode cX5_needs 5 = .ok (.iload 4, 2) := by decide +kernel
theorem dX5_needs_7 : decode cX5_needs 7 = .ok (.bipush 16, 2) := by decide +kernel
theorem dX5_needs_9 : decode cX5_needs 9 = .ok (.if_icmp .ge 33, 3) := by decide +kernel
theorem dX5_needs_12 : decode cX5_needs 12 = .ok (.iload_n 3, 1) := by decide +kernel
theorem dX5_needs_13 : decode cX5_needs 13 = .ok (.aload_n 0, 1) := by decide +kernel
theorem dX5_needs_14 : decode cX5_needs 14 = .ok (.getfield 14, 3) := by decide +kernel
theorem dX5_needs_17 : decode cX5_needs 17 = .ok (.iload_n 1, 1) := by decide +kernel
theorem dX5_needs_18 : decode cX5_needs 18 = .ok (.aaload, 1) := by decide +kernel
theorem dX5_needs_19 : decode cX5_needs 19 = .ok (.iload 4, 2) := by decide +kernel
theorem dX5_needs_21 : decode cX5_needs 21 = .ok (.iaload, 1) := by decide +kernel
theorem dX5_needs_22 : decode cX5_needs 22 = .ok (.iload_n 2, 1) := by decide +kernel
theorem dX5_needs_23 : decode cX5_needs 23 = .ok (.if_icmp .ne 10, 3) := by decide +kernel
theorem dX5_needs_26 : decode cX5_needs 26 = .ok (.iconst 1, 1) := by decide +kernel
theorem dX5_needs_27 : decode cX5_needs 27 = .ok (.iload 4, 2) := by decide +kernel
theorem dX5_needs_29 : decode cX5_needs 29 = .ok (.ishl, 1) := by decide +kernel
theorem dX5_needs_30 : decode cX5_needs 30 = .ok (.goto 4, 3) := by decide +kernel
theorem dX5_needs_33 : decode cX5_needs 33 = .ok (.iconst 0, 1) := by decide +kernel
theorem dX5_needs_34 : decode cX5_needs 34 = .ok (.iadd, 1) := by decide +kernel
theorem dX5_needs_35 : decode cX5_needs 35 = .ok (.istore_n 3, 1) := by decide +kernel
theorem dX5_needs_36 : decode cX5_needs 36 = .ok (.iinc 4 1, 3) := by decide +kernel
theorem dX5_needs_39 : decode cX5_needs 39 = .ok (.goto (-34), 3) := by decide +kernel
theorem dX5_needs_42 : decode cX5_needs 42 = .ok (.iload_n 3, 1) := by decide +kernel
theorem dX5_needs_43 : decode cX5_needs 43 = .ok (.ireturn, 1) := by decide +kernel
set_option maxRecDepth 20000 in
theorem ggX5_isSame__X5_needs : GoodIn wsX5_isSame_ wsX5_needs := goodIn_r _ [13, 1, 157, 158, 159, 160, 161, 162, 163, 164, 165] (by decide +kernel) (by decide +kernel)
set_option maxRecDepth 20000 in
theorem gX5_isSame__X5_needs : GoodIn wsX5_isSame_ (wsV RX5 95 RX5 yX5_needs wsX5_needs) := goodIn_app (goodIn_of _ (by decide +kernel)) ggX5_isSame__X5_needs
set_option maxRecDepth 20000 in
theorem ggX5_isSame__J6_bitCount_0f7a4 : GoodIn wsX5_isSame_ wsJ6_bitCount_0f7a4 := goodIn_r _ [17, 18, 19, 20] (by decide +kernel) (by decide +kernel)
set_option maxRecDepth 20000 in
theorem gX5_isSame__J6_bitCount_0f7a4 : GoodIn wsX5_isSame_ (va_wsS RX5 98 yJ6_bitCount_0f7a4 wsJ6_bitCount_0f7a4) := goodIn_app (goodIn_of _ (by decide +kernel)) ggX5_isSame__J6_bitCount_0f7a4
set_option maxRecDepth 20000 in
theorem ggX5_isSame__X5_whole : GoodIn wsX5_isSame_ wsX5_whole := goodIn_r _ [24, 4, 2, 157, 158, 159, 160, 161, 162, 163, 164, 165] (by decide +kernel) (by decide +kernel)
set_option maxRecDepth 20000 in
theorem gX5_isSame__X5_whole : GoodIn wsX5_isSame_ (wsV RX5 81 RX5 yX5_whole wsX5_whole) := goodIn_app (goodIn_of _ (by decide +kernel)) ggX5_isSame__X5_whole
set_option maxRecDepth 20000 in
theorem ggX5_isSame__X5_kindsOf : GoodIn wsX5_isSame_ wsX5_kindsOf := goodIn_r _ [28, 2, 4, 157, 158, 159, 160, 161, 162, 163, 164, 165] (by decide +kernel) (by decide +kernel)
set_option maxRecDepth 20000 in
theorem gX5_isSame__X5_kindsOf : GoodIn wsX5_isSame_ (wsV RX5 37 RX5 yX5_kindsOf wsX5_kindsOf) := goodIn_app (goodIn_of _ (by decide +kernel)) ggX5_isSame__X5_kindsOf
set_option maxRecDepth 20000 in
theorem ggX5_isSame__X5_holds : GoodIn wsX5_isSame_ wsX5_holds := goodIn_r _ [32, 1, 33, 34, 12, 35, 157, 158, 159, 160, 161, 162, 163, 164, 165] (by decide +kernel) (by decide +kernel)
set_option maxRecDepth 20000 in
theorem gX5_isSame__X5_holds : GoodIn wsX5_isSame_ (wsV RX5 41 RX5 yX5_holds wsX5_holds) := goodIn_app (goodIn_of _ (by decide +kernel)) ggX5_isSame__X5_holds
set_option maxRecDepth 20000 in
theorem ggX5_isSame__X4_told : GoodIn wsX5_isSame_ wsX4_told := goodIn_ca (goodIn_r _ [40, 41, 42, 43, 44, 45, 46, 47, 48, 49, 50, 51, 52, 39, 53, 54, 55, 56, 57, 58, 59, 60, 61, 62, 63, 64, 65, 66, 67, 15, 16, 17, 18, 19, 20, 68, 69, 70, 71, 72, 73, 74, 75, 76, 77, 78, 79, 80, 81, 82, 166, 167, 168, 169, 170, 171, 172, 173, 174, 175, 176, 177] (by decide +kernel) (by decide +kernel)) (goodIn_sub (fun _ h => List.mem_cons_of_mem _ (List.mem_append_right _ h)) (by decide +kernel))
set_option maxRecDepth 20000 in
theorem gX5_isSame__X4_told : GoodIn wsX5_isSame_ (wsV RX5 104 RX4 yX4_told wsX4_told) := goodIn_app (goodIn_of _ (by decide +kernel)) ggX5_isSame__X4_told
set_option maxRecDepth 20000 in
theorem ggX5_isSame__X4_count : GoodIn wsX5_isSame_ wsX4_count := goodIn_ca (goodIn_r _ [86, 41, 42, 87, 88, 89, 39, 90, 54, 43, 91, 92, 93, 94, 95, 71, 96, 73, 97, 98, 99, 47, 100, 49, 68, 69, 70, 72, 74, 75, 76, 77, 78, 101, 102, 103, 104, 105, 80, 81, 82, 60, 66, 106, 107, 108, 109, 110, 111, 112, 15, 16, 17, 18, 19, 20, 113, 114, 115, 116, 117, 118, 119, 120, 121, 122, 166, 167, 168, 169, 170, 171, 172, 176, 177, 173, 174, 175, 178, 179, 180, 181, 182, 183] (by decide +kernel) (by decide +kernel)) (goodIn_sub (fun _ h => List.mem_cons_of_mem _ (List.mem_append_right _ h)) (by decide +kernel))
set_option maxRecDepth 20000 in
theorem gX5_isSame__X4_count : GoodIn wsX5_isSame_ (wsV RX5 109 RX4 yX4_count wsX4_count) := goodIn_app (goodIn_of _ (by decide +kernel)) ggX5_isSame__X4_count
set_option maxRecDepth 20000 in
theorem ggX5_isSame__X4_kind : GoodIn wsX5_isSame_ wsX4_kind := goodIn_ca (goodIn_r _ [126, 41, 42, 54, 127, 128, 129, 71, 130, 73, 131, 132, 133, 134, 78, 135, 166, 167, 168, 169, 170, 171, 172, 176, 177] (by decide +kernel) (by decide +kernel)) (goodIn_sub (fun _ h => List.mem_cons_of_mem _ (List.mem_append_right _ h)) (by decide +kernel))
set_option maxRecDepth 20000 in
theorem gX5_isSame__X4_kind : GoodIn wsX5_isSame_ (wsV RX5 112 RX4 yX4_kind wsX4_kind) := goodIn_app (goodIn_of _ (by decide +kernel)) ggX5_isSame__X4_kind
set_option maxRecDepth 20000 in
theorem ggX5_isSame__X4_kept : GoodIn wsX5_isSame_ wsX4_kept := goodIn_ca (goodIn_r _ [139, 41, 42, 91, 106, 107, 108, 109, 110, 111, 112, 15, 16, 17, 18, 19, 20, 140, 141, 142, 143, 166, 167, 168, 169, 170, 171, 172, 178, 179, 180, 181, 182, 183] (by decide +kernel) (by decide +kernel)) (goodIn_sub (fun _ h => List.mem_cons_of_mem _ (List.mem_append_right _ h)) (by decide +kernel))
set_option maxRecDepth 20000 in
theorem gX5_isSame__X4_kept : GoodIn wsX5_isSame_ (wsV RX5 115 RX4 yX4_kept wsX4_kept) := goodIn_app (goodIn_of _ (by decide +kernel)) ggX5_isSame__X4_kept
set_option maxRecDepth 20000 in
theorem ggX5_isSame__X4_step : GoodIn wsX5_isSame_ wsX4_step := goodIn_ca (goodIn_r _ [147, 41, 42, 91, 113, 114, 115, 109, 116, 117, 148, 149, 150, 151, 152, 166, 167, 168, 169, 170, 171, 172, 178, 179, 180, 181, 182, 183] (by decide +kernel) (by decide +kernel)) (goodIn_sub (fun _ h => List.mem_cons_of_mem _ (List.mem_append_right _ h)) (by decide +kernel))
set_option maxRecDepth 20000 in
theorem gX5_isSame__X4_step : GoodIn wsX5_isSame_ (wsV RX5 118 RX4 yX4_step wsX4_step) := goodIn_app (goodIn_of _ (by decide +kernel)) ggX5_isSame__X4_step
set_option maxRecDepth 20000 in
theorem ggX5_isSame__X4_mean : GoodIn wsX5_isSame_ wsX4_mean := goodIn_r _ [156, 43, 97, 98, 99, 47, 100, 49, 56, 57, 58, 59, 60, 61, 45, 46, 48, 67, 15, 16, 17, 18, 19, 20, 166, 167, 168, 169, 170, 171, 172, 173, 174, 175] (by decide +kernel) (by decide +kernel)
set_option maxRecDepth 20000 in
theorem gX5_isSame__X4_mean : GoodIn wsX5_isSame_ (wsV RX5 121 RX4 yX4_mean wsX4_mean) := goodIn_app (goodIn_of _ (by decide +kernel)) ggX5_isSame__X4_mean
theorem dX5_isSame__0 : decode cX5_isSame_ 0 = .ok (.iconst 0, 1) := by decide +kernel
theorem dX5_isSame__1 : decode cX5_isSame_ 1 = .ok (.istore_n 2, 1) := by decide +kernel
theorem dX5_isSame__2 : decode cX5_isSame_ 2 = .ok (.iconst 0, 1) := by decide +kernel
theorem dX5_isSame__3 : decode cX5_isSame_ 3 = .ok (.istore_n 3, 1) := by decide +kernel
theorem dX5_isSame__4 : decode cX5_isSame_ 4 = .ok (.iconst 0, 1) := by decide +kernel
theorem dX5_isSame__5 : decode cX5_isSame_ 5 = .ok (.istore 4, 2) := by decide +kernel
theorem dX5_isSame__7 : decode cX5_isSame_ 7 = .ok (.iload 4, 2) := by decide +kernel
theorem dX5_isSame__9 : decode cX5_isSame_ 9 = .ok (.aload_n 0, 1) := by decide +kernel
theorem dX5_isSame__10 : decode cX5_isSame_ 10 = .ok (.getfield 14, 3) := by decide +kernel
theorem dX5_isSame__13 : decode cX5_isSame_ 13 = .ok (.arraylength, 1) := by decide +kernel
theorem dX5_isSame__14 : decode cX5_isSame_ 14 = .ok (.if_icmp .ge 152, 3) := by decide +kernel
theorem dX5_isSame__17 : decode cX5_isSame_ 17 = .ok (.aload_n 0, 1) := by decide +kernel
theorem dX5_isSame__18 : decode cX5_isSame_ 18 = .ok (.iload 4, 2) := by decide +kernel
theorem dX5_isSame__20 : decode cX5_isSame_ 20 = .ok (.iconst 1, 1) := by decide +kernel
theorem dX5_isSame__21 : decode cX5_isSame_ 21 = .ok (.invokevirtual 95, 3) := by decide +kernel
theorem dX5_isSame__24 : decode cX5_isSame_ 24 = .ok (.invokestatic 98, 3) := by decide +kernel
theorem dX5_isSame__27 : decode cX5_isSame_ 27 = .ok (.istore 5, 2) := by decide +kernel
theorem dX5_isSame__29 : decode cX5_isSame_ 29 = .ok (.aload_n 0, 1) := by decide +kernel
theorem dX5_isSame__30 : decode cX5_isSame_ 30 = .ok (.iload 4, 2) := by decide +kernel
theorem dX5_isSame__32 : decode cX5_isSame_ 32 = .ok (.aload_n 0, 1) := by decide +kernel
theorem dX5_isSame__33 : decode cX5_isSame_ 33 = .ok (.aload_n 0, 1) := by decide +kernel
theorem dX5_isSame__34 : decode cX5_isSame_ 34 = .ok (.invokevirtual 81, 3) := by decide +kernel
theorem dX5_isSame__37 : decode cX5_isSame_ 37 = .ok (.invokevirtual 37, 3) := by decide +kernel
theorem dX5_isSame__40 : decode cX5_isSame_ 40 = .ok (.invokevirtual 41, 3) := by decide +kernel
theorem dX5_isSame__43 : decode cX5_isSame_ 43 = .ok (.istore 6, 2) := by decide +kernel
theorem dX5_isSame__45 : decode cX5_isSame_ 45 = .ok (.iconst 5, 1) := by decide +kernel
theorem dX5_isSame__46 : decode cX5_isSame_ 46 = .ok (.newarray .int, 2) := by decide +kernel
theorem dX5_isSame__48 : decode cX5_isSame_ 48 = .ok (.dup, 1) := by decide +kernel
theorem dX5_isSame__49 : decode cX5_isSame_ 49 = .ok (.iconst 0, 1) := by decide +kernel
theorem dX5_isSame__50 : decode cX5_isSame_ 50 = .ok (.aload_n 0, 1) := by decide +kernel
theorem dX5_isSame__51 : decode cX5_isSame_ 51 = .ok (.iload 4, 2) := by decide +kernel
theorem dX5_isSame__53 : decode cX5_isSame_ 53 = .ok (.iconst 1, 1) := by decide +kernel
theorem dX5_isSame__54 : decode cX5_isSame_ 54 = .ok (.invokevirtual 95, 3) := by decide +kernel
theorem dX5_isSame__57 : decode cX5_isSame_ 57 = .ok (.iastore, 1) := by decide +kernel
theorem dX5_isSame__58 : decode cX5_isSame_ 58 = .ok (.dup, 1) := by decide +kernel
theorem dX5_isSame__59 : decode cX5_isSame_ 59 = .ok (.iconst 1, 1) := by decide +kernel
theorem dX5_isSame__60 : decode cX5_isSame_ 60 = .ok (.aload_n 0, 1) := by decide +kernel
theorem dX5_isSame__61 : decode cX5_isSame_ 61 = .ok (.iload 4, 2) := by decide +kernel
theorem dX5_isSame__63 : decode cX5_isSame_ 63 = .ok (.iconst (-1), 1) := by decide +kernel
theorem dX5_isSame__64 : decode cX5_isSame_ 64 = .ok (.invokevirtual 95, 3) := by decide +kernel
theorem dX5_isSame__67 : decode cX5_isSame_ 67 = .ok (.iastore, 1) := by decide +kernel
theorem dX5_isSame__68 : decode cX5_isSame_ 68 = .ok (.dup, 1) := by decide +kernel
theorem dX5_isSame__69 : decode cX5_isSame_ 69 = .ok (.iconst 2, 1) := by decide +kernel
theorem dX5_isSame__70 : decode cX5_isSame_ 70 = .ok (.iload 5, 2) := by decide +kernel
theorem dX5_isSame__72 : decode cX5_isSame_ 72 = .ok (.iastore, 1) := by decide +kernel
theorem dX5_isSame__73 : decode cX5_isSame_ 73 = .ok (.dup, 1) := by decide +kernel
theorem dX5_isSame__74 : decode cX5_isSame_ 74 = .ok (.iconst 3, 1) := by decide +kernel
theorem dX5_isSame__75 : decode cX5_isSame_ 75 = .ok (.iload 6, 2) := by decide +kernel
theorem dX5_isSame__77 : decode cX5_isSame_ 77 = .ok (.ifCond .eq 7, 3) := by decide +kernel
theorem dX5_isSame__80 : decode cX5_isSame_ 80 = .ok (.iconst 1, 1) := by decide +kernel
theorem dX5_isSame__81 : decode cX5_isSame_ 81 = .ok (.goto 4, 3) := by decide +kernel
theorem dX5_isSame__84 : decode cX5_isSame_ 84 = .ok (.iconst 0, 1) := by decide +kernel
theorem dX5_isSame__85 : decode cX5_isSame_ 85 = .ok (.iastore, 1) := by decide +kernel
theorem dX5_isSame__86 : decode cX5_isSame_ 86 = .ok (.dup, 1) := by decide +kernel
theorem dX5_isSame__87 : decode cX5_isSame_ 87 = .ok (.iconst 4, 1) := by decide +kernel
theorem dX5_isSame__88 : decode cX5_isSame_ 88 = .ok (.aload_n 0, 1) := by decide +kernel
theorem dX5_isSame__89 : decode cX5_isSame_ 89 = .ok (.iload 4, 2) := by decide +kernel
theorem dX5_isSame__91 : decode cX5_isSame_ 91 = .ok (.aload_n 0, 1) := by decide +kernel
theorem dX5_isSame__92 : decode cX5_isSame_ 92 = .ok (.getfield 21, 3) := by decide +kernel
theorem dX5_isSame__95 : decode cX5_isSame_ 95 = .ok (.invokevirtual 41, 3) := by decide +kernel
theorem dX5_isSame__98 : decode cX5_isSame_ 98 = .ok (.ifCond .eq 7, 3) := by decide +kernel
theorem dX5_isSame__101 : decode cX5_isSame_ 101 = .ok (.iconst 1, 1) := by decide +kernel
theorem dX5_isSame__102 : decode cX5_isSame_ 102 = .ok (.goto 4, 3) := by decide +kernel
theorem dX5_isSame__105 : decode cX5_isSame_ 105 = .ok (.iconst 0, 1) := by decide +kernel
theorem dX5_isSame__106 : decode cX5_isSame_ 106 = .ok (.iastore, 1) := by decide +kernel
theorem dX5_isSame__107 : decode cX5_isSame_ 107 = .ok (.astore 7, 2) := by decide +kernel
theorem dX5_isSame__109 : decode cX5_isSame_ 109 = .ok (.iconst 0, 1) := by decide +kernel
theorem dX5_isSame__110 : decode cX5_isSame_ 110 = .ok (.istore 8, 2) := by decide +kernel
theorem dX5_isSame__112 : decode cX5_isSame_ 112 = .ok (.iload 8, 2) := by decide +kernel
theorem dX5_isSame__114 : decode cX5_isSame_ 114 = .ok (.iconst 5, 1) := by decide +kernel
theorem dX5_isSame__115 : decode cX5_isSame_ 115 = .ok (.if_icmp .ge 27, 3) := by decide +kernel
theorem dX5_isSame__118 : decode cX5_isSame_ 118 = .ok (.aload_n 1, 1) := by decide +kernel
theorem dX5_isSame__119 : decode cX5_isSame_ 119 = .ok (.iload 4, 2) := by decide +kernel
theorem dX5_isSame__121 : decode cX5_isSame_ 121 = .ok (.iload 8, 2) := by decide +kernel
theorem dX5_isSame__123 : decode cX5_isSame_ 123 = .ok (.invokevirtual 104, 3) := by decide +kernel
theorem dX5_isSame__126 : decode cX5_isSame_ 126 = .ok (.aload 7, 2) := by decide +kernel
theorem dX5_isSame__128 : decode cX5_isSame_ 128 = .ok (.iload 8, 2) := by decide +kernel
theorem dX5_isSame__130 : decode cX5_isSame_ 130 = .ok (.iaload, 1) := by decide +kernel
theorem dX5_isSame__131 : decode cX5_isSame_ 131 = .ok (.if_icmp .eq 5, 3) := by decide +kernel
theorem dX5_isSame__134 : decode cX5_isSame_ 134 = .ok (.iconst 0, 1) := by decide +kernel
theorem dX5_isSame__135 : decode cX5_isSame_ 135 = .ok (.ireturn, 1) := by decide +kernel
theorem dX5_isSame__136 : decode cX5_isSame_ 136 = .ok (.iinc 8 1, 3) := by decide +kernel
theorem dX5_isSame__139 : decode cX5_isSame_ 139 = .ok (.goto (-27), 3) := by decide +kernel
theorem dX5_isSame__142 : decode cX5_isSame_ 142 = .ok (.iload_n 2, 1) := by decide +kernel
theorem dX5_isSame__143 : decode cX5_isSame_ 143 = .ok (.iload 6, 2) := by decide +kernel
theorem dX5_isSame__145 : decode cX5_isSame_ 145 = .ok (.ifCond .eq 7, 3) := by decide +kernel
theorem dX5_isSame__148 : decode cX5_isSame_ 148 = .ok (.iconst 1, 1) := by decide +kernel
theorem dX5_isSame__149 : decode cX5_isSame_ 149 = .ok (.goto 4, 3) := by decide +kernel
theorem dX5_isSame__152 : decode cX5_isSame_ 152 = .ok (.iconst 0, 1) := by decide +kernel
theorem dX5_isSame__153 : decode cX5_isSame_ 153 = .ok (.iadd, 1) := by decide +kernel
theorem dX5_isSame__154 : decode cX5_isSame_ 154 = .ok (.istore_n 2, 1) := by decide +kernel
theorem dX5_isSame__155 : decode cX5_isSame_ 155 = .ok (.iload_n 3, 1) := by decide +kernel
theorem dX5_isSame__156 : decode cX5_isSame_ 156 = .ok (.iload 5, 2) := by decide +kernel
theorem dX5_isSame__158 : decode cX5_isSame_ 158 = .ok (.iadd, 1) := by decide +kernel
theorem dX5_isSame__159 : decode cX5_isSame_ 159 = .ok (.istore_n 3, 1) := by decide +kernel
theorem dX5_isSame__160 : decode cX5_isSame_ 160 = .ok (.iinc 4 1, 3) := by decide +kernel
theorem dX5_isSame__163 : decode cX5_isSame_ 163 = .ok (.goto (-156), 3) := by decide +kernel
theorem dX5_isSame__166 : decode cX5_isSame_ 166 = .ok (.bipush 7, 2) := by decide +kernel
theorem dX5_isSame__168 : decode cX5_isSame_ 168 = .ok (.newarray .int, 2) := by decide +kernel
theorem dX5_isSame__170 : decode cX5_isSame_ 170 = .ok (.dup, 1) := by decide +kernel
theorem dX5_isSame__171 : decode cX5_isSame_ 171 = .ok (.iconst 0, 1) := by decide +kernel
theorem dX5_isSame__172 : decode cX5_isSame_ 172 = .ok (.aload_n 0, 1) := by decide +kernel
theorem dX5_isSame__173 : decode cX5_isSame_ 173 = .ok (.getfield 7, 3) := by decide +kernel
theorem dX5_isSame__176 : decode cX5_isSame_ 176 = .ok (.arraylength, 1) := by decide +kernel
theorem dX5_isSame__177 : decode cX5_isSame_ 177 = .ok (.iastore, 1) := by decide +kernel
theorem dX5_isSame__178 : decode cX5_isSame_ 178 = .ok (.dup, 1) := by decide +kernel
theorem dX5_isSame__179 : decode cX5_isSame_ 179 = .ok (.iconst 1, 1) := by decide +kernel
theorem dX5_isSame__180 : decode cX5_isSame_ 180 = .ok (.aload_n 0, 1) := by decide +kernel
theorem dX5_isSame__181 : decode cX5_isSame_ 181 = .ok (.getfield 14, 3) := by decide +kernel
theorem dX5_isSame__184 : decode cX5_isSame_ 184 = .ok (.arraylength, 1) := by decide +kernel
theorem dX5_isSame__185 : decode cX5_isSame_ 185 = .ok (.iastore, 1) := by decide +kernel
theorem dX5_isSame__186 : decode cX5_isSame_ 186 = .ok (.dup, 1) := by decide +kernel
theorem dX5_isSame__187 : decode cX5_isSame_ 187 = .ok (.iconst 2, 1) := by decide +kernel
theorem dX5_isSame__188 : decode cX5_isSame_ 188 = .ok (.iload_n 2, 1) := by decide +kernel
theorem dX5_isSame__189 : decode cX5_isSame_ 189 = .ok (.iastore, 1) := by decide +kernel
theorem dX5_isSame__190 : decode cX5_isSame_ 190 = .ok (.dup, 1) := by decide +kernel
theorem dX5_isSame__191 : decode cX5_isSame_ 191 = .ok (.iconst 3, 1) := by decide +kernel
theorem dX5_isSame__192 : decode cX5_isSame_ 192 = .ok (.aload_n 0, 1) := by decide +kernel
theorem dX5_isSame__193 : decode cX5_isSame_ 193 = .ok (.getfield 18, 3) := by decide +kernel
theorem dX5_isSame__196 : decode cX5_isSame_ 196 = .ok (.arraylength, 1) := by decide +kernel
theorem dX5_isSame__197 : decode cX5_isSame_ 197 = .ok (.iastore, 1) := by decide +kernel
theorem dX5_isSame__198 : decode cX5_isSame_ 198 = .ok (.dup, 1) := by decide +kernel
theorem dX5_isSame__199 : decode cX5_isSame_ 199 = .ok (.iconst 4, 1) := by decide +kernel
theorem dX5_isSame__200 : decode cX5_isSame_ 200 = .ok (.aload_n 0, 1) := by decide +kernel
theorem dX5_isSame__201 : decode cX5_isSame_ 201 = .ok (.getfield 24, 3) := by decide +kernel
theorem dX5_isSame__204 : decode cX5_isSame_ 204 = .ok (.arraylength, 1) := by decide +kernel
theorem dX5_isSame__205 : decode cX5_isSame_ 205 = .ok (.iastore, 1) := by decide +kernel
theorem dX5_isSame__206 : decode cX5_isSame_ 206 = .ok (.dup, 1) := by decide +kernel
theorem dX5_isSame__207 : decode cX5_isSame_ 207 = .ok (.iconst 5, 1) := by decide +kernel
theorem dX5_isSame__208 : decode cX5_isSame_ 208 = .ok (.aload_n 0, 1) := by decide +kernel
theorem dX5_isSame__209 : decode cX5_isSame_ 209 = .ok (.getfield 88, 3) := by decide +kernel
theorem dX5_isSame__212 : decode cX5_isSame_ 212 = .ok (.iastore, 1) := by decide +kernel
theorem dX5_isSame__213 : decode cX5_isSame_ 213 = .ok (.dup, 1) := by decide +kernel
theorem dX5_isSame__214 : decode cX5_isSame_ 214 = .ok (.bipush 6, 2) := by decide +kernel
theorem dX5_isSame__216 : decode cX5_isSame_ 216 = .ok (.aload_n 0, 1) := by decide +kernel
theorem dX5_isSame__217 : decode cX5_isSame_ 217 = .ok (.getfield 92, 3) := by decide +kernel
theorem dX5_isSame__220 : decode cX5_isSame_ 220 = .ok (.iastore, 1) := by decide +kernel
theorem dX5_isSame__221 : decode cX5_isSame_ 221 = .ok (.astore 4, 2) := by decide +kernel
theorem dX5_isSame__223 : decode cX5_isSame_ 223 = .ok (.iconst 0, 1) := by decide +kernel
theorem dX5_isSame__224 : decode cX5_isSame_ 224 = .ok (.istore 5, 2) := by decide +kernel
theorem dX5_isSame__226 : decode cX5_isSame_ 226 = .ok (.iload 5, 2) := by decide +kernel
theorem dX5_isSame__228 : decode cX5_isSame_ 228 = .ok (.bipush 7, 2) := by decide +kernel
theorem dX5_isSame__230 : decode cX5_isSame_ 230 = .ok (.if_icmp .ge 25, 3) := by decide +kernel
theorem dX5_isSame__233 : decode cX5_isSame_ 233 = .ok (.aload_n 1, 1) := by decide +kernel
theorem dX5_isSame__234 : decode cX5_isSame_ 234 = .ok (.iload 5, 2) := by decide +kernel
theorem dX5_isSame__236 : decode cX5_isSame_ 236 = .ok (.invokevirtual 109, 3) := by decide +kernel
theorem dX5_isSame__239 : decode cX5_isSame_ 239 = .ok (.aload 4, 2) := by decide +kernel
theorem dX5_isSame__241 : decode cX5_isSame_ 241 = .ok (.iload 5, 2) := by decide +kernel
theorem dX5_isSame__243 : decode cX5_isSame_ 243 = .ok (.iaload, 1) := by decide +kernel
theorem dX5_isSame__244 : decode cX5_isSame_ 244 = .ok (.if_icmp .eq 5, 3) := by decide +kernel
theorem dX5_isSame__247 : decode cX5_isSame_ 247 = .ok (.iconst 0, 1) := by decide +kernel
theorem dX5_isSame__248 : decode cX5_isSame_ 248 = .ok (.ireturn, 1) := by decide +kernel
theorem dX5_isSame__249 : decode cX5_isSame_ 249 = .ok (.iinc 5 1, 3) := by decide +kernel
theorem dX5_isSame__252 : decode cX5_isSame_ 252 = .ok (.goto (-26), 3) := by decide +kernel
theorem dX5_isSame__255 : decode cX5_isSame_ 255 = .ok (.iconst 0, 1) := by decide +kernel
theorem dX5_isSame__256 : decode cX5_isSame_ 256 = .ok (.istore 5, 2) := by decide +kernel
theorem dX5_isSame__258 : decode cX5_isSame_ 258 = .ok (.iload 5, 2) := by decide +kernel
theorem dX5_isSame__260 : decode cX5_isSame_ 260 = .ok (.aload_n 0, 1) := by decide +kernel
theorem dX5_isSame__261 : decode cX5_isSame_ 261 = .ok (.getfield 7, 3) := by decide +kernel
theorem dX5_isSame__264 : decode cX5_isSame_ 264 = .ok (.arraylength, 1) := by decide +kernel
theorem dX5_isSame__265 : decode cX5_isSame_ 265 = .ok (.if_icmp .ge 27, 3) := by decide +kernel
theorem dX5_isSame__268 : decode cX5_isSame_ 268 = .ok (.aload_n 1, 1) := by decide +kernel
theorem dX5_isSame__269 : decode cX5_isSame_ 269 = .ok (.iload 5, 2) := by decide +kernel
theorem dX5_isSame__271 : decode cX5_isSame_ 271 = .ok (.invokevirtual 112, 3) := by decide +kernel
theorem dX5_isSame__274 : decode cX5_isSame_ 274 = .ok (.aload_n 0, 1) := by decide +kernel
theorem dX5_isSame__275 : decode cX5_isSame_ 275 = .ok (.getfield 7, 3) := by decide +kernel
theorem dX5_isSame__278 : decode cX5_isSame_ 278 = .ok (.iload 5, 2) := by decide +kernel
theorem dX5_isSame__280 : decode cX5_isSame_ 280 = .ok (.iaload, 1) := by decide +kernel
theorem dX5_isSame__281 : decode cX5_isSame_ 281 = .ok (.if_icmp .eq 5, 3) := by decide +kernel
theorem dX5_isSame__284 : decode cX5_isSame_ 284 = .ok (.iconst 0, 1) := by decide +kernel
theorem dX5_isSame__285 : decode cX5_isSame_ 285 = .ok (.ireturn, 1) := by decide +kernel
theorem dX5_isSame__286 : decode cX5_isSame_ 286 = .ok (.iinc 5 1, 3) := by decide +kernel
theorem dX5_isSame__289 : decode cX5_isSame_ 289 = .ok (.goto (-31), 3) := by decide +kernel
theorem dX5_isSame__292 : decode cX5_isSame_ 292 = .ok (.iconst 0, 1) := by decide +kernel
theorem dX5_isSame__293 : decode cX5_isSame_ 293 = .ok (.istore 5, 2) := by decide +kernel
theorem dX5_isSame__295 : decode cX5_isSame_ 295 = .ok (.iload 5, 2) := by decide +kernel
theorem dX5_isSame__297 : decode cX5_isSame_ 297 = .ok (.aload_n 0, 1) := by decide +kernel
theorem dX5_isSame__298 : decode cX5_isSame_ 298 = .ok (.getfield 18, 3) := by decide +kernel
theorem dX5_isSame__301 : decode cX5_isSame_ 301 = .ok (.arraylength, 1) := by decide +kernel
theorem dX5_isSame__302 : decode cX5_isSame_ 302 = .ok (.if_icmp .ge 27, 3) := by decide +kernel
theorem dX5_isSame__305 : decode cX5_isSame_ 305 = .ok (.aload_n 1, 1) := by decide +kernel
theorem dX5_isSame__306 : decode cX5_isSame_ 306 = .ok (.iload 5, 2) := by decide +kernel
theorem dX5_isSame__308 : decode cX5_isSame_ 308 = .ok (.invokevirtual 115, 3) := by decide +kernel
theorem dX5_isSame__311 : decode cX5_isSame_ 311 = .ok (.aload_n 0, 1) := by decide +kernel
theorem dX5_isSame__312 : decode cX5_isSame_ 312 = .ok (.getfield 18, 3) := by decide +kernel
theorem dX5_isSame__315 : decode cX5_isSame_ 315 = .ok (.iload 5, 2) := by decide +kernel
theorem dX5_isSame__317 : decode cX5_isSame_ 317 = .ok (.iaload, 1) := by decide +kernel
theorem dX5_isSame__318 : decode cX5_isSame_ 318 = .ok (.if_icmp .eq 5, 3) := by decide +kernel
theorem dX5_isSame__321 : decode cX5_isSame_ 321 = .ok (.iconst 0, 1) := by decide +kernel
theorem dX5_isSame__322 : decode cX5_isSame_ 322 = .ok (.ireturn, 1) := by decide +kernel
theorem dX5_isSame__323 : decode cX5_isSame_ 323 = .ok (.iinc 5 1, 3) := by decide +kernel
theorem dX5_isSame__326 : decode cX5_isSame_ 326 = .ok (.goto (-31), 3) := by decide +kernel
theorem dX5_isSame__329 : decode cX5_isSame_ 329 = .ok (.iconst 0, 1) := by decide +kernel
theorem dX5_isSame__330 : decode cX5_isSame_ 330 = .ok (.istore 5, 2) := by decide +kernel
theorem dX5_isSame__332 : decode cX5_isSame_ 332 = .ok (.iload 5, 2) := by decide +kernel
theorem dX5_isSame__334 : decode cX5_isSame_ 334 = .ok (.aload_n 0, 1) := by decide +kernel
theorem dX5_isSame__335 : decode cX5_isSame_ 335 = .ok (.getfield 24, 3) := by decide +kernel
theorem dX5_isSame__338 : decode cX5_isSame_ 338 = .ok (.arraylength, 1) := by decide +kernel
theorem dX5_isSame__339 : decode cX5_isSame_ 339 = .ok (.if_icmp .ge 47, 3) := by decide +kernel
theorem dX5_isSame__342 : decode cX5_isSame_ 342 = .ok (.iconst 0, 1) := by decide +kernel
theorem dX5_isSame__343 : decode cX5_isSame_ 343 = .ok (.istore 6, 2) := by decide +kernel
theorem dX5_isSame__345 : decode cX5_isSame_ 345 = .ok (.iload 6, 2) := by decide +kernel
theorem dX5_isSame__347 : decode cX5_isSame_ 347 = .ok (.iconst 5, 1) := by decide +kernel
theorem dX5_isSame__348 : decode cX5_isSame_ 348 = .ok (.if_icmp .ge 32, 3) := by decide +kernel
theorem dX5_isSame__351 : decode cX5_isSame_ 351 = .ok (.aload_n 1, 1) := by decide +kernel
theorem dX5_isSame__352 : decode cX5_isSame_ 352 = .ok (.iload 5, 2) := by decide +kernel
theorem dX5_isSame__354 : decode cX5_isSame_ 354 = .ok (.iload 6, 2) := by decide +kernel
theorem dX5_isSame__356 : decode cX5_isSame_ 356 = .ok (.invokevirtual 118, 3) := by decide +kernel
theorem dX5_isSame__359 : decode cX5_isSame_ 359 = .ok (.aload_n 0, 1) := by decide +kernel
theorem dX5_isSame__360 : decode cX5_isSame_ 360 = .ok (.getfield 24, 3) := by decide +kernel
theorem dX5_isSame__363 : decode cX5_isSame_ 363 = .ok (.iload 5, 2) := by decide +kernel
theorem dX5_isSame__365 : decode cX5_isSame_ 365 = .ok (.aaload, 1) := by decide +kernel
theorem dX5_isSame__366 : decode cX5_isSame_ 366 = .ok (.iload 6, 2) := by decide +kernel
theorem dX5_isSame__368 : decode cX5_isSame_ 368 = .ok (.iaload, 1) := by decide +kernel
theorem dX5_isSame__369 : decode cX5_isSame_ 369 = .ok (.if_icmp .eq 5, 3) := by decide +kernel
theorem dX5_isSame__372 : decode cX5_isSame_ 372 = .ok (.iconst 0, 1) := by decide +kernel
theorem dX5_isSame__373 : decode cX5_isSame_ 373 = .ok (.ireturn, 1) := by decide +kernel
theorem dX5_isSame__374 : decode cX5_isSame_ 374 = .ok (.iinc 6 1, 3) := by decide +kernel
theorem dX5_isSame__377 : decode cX5_isSame_ 377 = .ok (.goto (-32), 3) := by decide +kernel
theorem dX5_isSame__380 : decode cX5_isSame_ 380 = .ok (.iinc 5 1, 3) := by decide +kernel
theorem dX5_isSame__383 : decode cX5_isSame_ 383 = .ok (.goto (-51), 3) := by decide +kernel
theorem dX5_isSame__386 : decode cX5_isSame_ 386 = .ok (.aload_n 1, 1) := by decide +kernel
theorem dX5_isSame__387 : decode cX5_isSame_ 387 = .ok (.invokevirtual 121, 3) := by decide +kernel
theorem dX5_isSame__390 : decode cX5_isSame_ 390 = .ok (.aload_n 0, 1) := by decide +kernel
theorem dX5_isSame__391 : decode cX5_isSame_ 391 = .ok (.getfield 14, 3) := by decide +kernel
theorem dX5_isSame__394 : decode cX5_isSame_ 394 = .ok (.arraylength, 1) := by decide +kernel
theorem dX5_isSame__395 : decode cX5_isSame_ 395 = .ok (.ifCond .ne 7, 3) := by decide +kernel
theorem dX5_isSame__398 : decode cX5_isSame_ 398 = .ok (.dconst 0, 1) := by decide +kernel
theorem dX5_isSame__399 : decode cX5_isSame_ 399 = .ok (.goto 12, 3) := by decide +kernel
theorem dX5_isSame__402 : decode cX5_isSame_ 402 = .ok (.iload_n 3, 1) := by decide +kernel
theorem dX5_isSame__403 : decode cX5_isSame_ 403 = .ok (.i2d, 1) := by decide +kernel
theorem dX5_isSame__404 : decode cX5_isSame_ 404 = .ok (.aload_n 0, 1) := by decide +kernel
theorem dX5_isSame__405 : decode cX5_isSame_ 405 = .ok (.getfield 14, 3) := by decide +kernel
theorem dX5_isSame__408 : decode cX5_isSame_ 408 = .ok (.arraylength, 1) := by decide +kernel
theorem dX5_isSame__409 : decode cX5_isSame_ 409 = .ok (.i2d, 1) := by decide +kernel
theorem dX5_isSame__410 : decode cX5_isSame_ 410 = .ok (.ddiv, 1) := by decide +kernel
theorem dX5_isSame__411 : decode cX5_isSame_ 411 = .ok (.dcmp .l, 1) := by decide +kernel
theorem dX5_isSame__412 : decode cX5_isSame_ 412 = .ok (.ifCond .ne 7, 3) := by decide +kernel
theorem dX5_isSame__415 : decode cX5_isSame_ 415 = .ok (.iconst 1, 1) := by decide +kernel
theorem dX5_isSame__416 : decode cX5_isSame_ 416 = .ok (.goto 4, 3) := by decide +kernel
theorem dX5_isSame__419 : decode cX5_isSame_ 419 = .ok (.iconst 0, 1) := by decide +kernel
theorem dX5_isSame__420 : decode cX5_isSame_ 420 = .ok (.ireturn, 1) := by decide +kernel
set_option maxRecDepth 20000 in
theorem ggX5_isAlike_X5_search : GoodIn wsX5_isAlike wsX5_search := goodIn_r _ [7, 8, 1, 2, 9, 10, 11, 12, 6, 13, 14, 15, 16, 17, 18, 19, 20, 21, 22, 23, 24, 25, 26, 27, 28, 29, 30, 31, 32, 33, 34, 35, 36, 37, 38, 39, 40, 41, 42, 43, 44, 45, 46, 47, 48, 49, 50, 51, 52, 53, 54, 55, 56, 57, 184, 185, 186, 187, 188, 189, 190, 191, 192] (by decide +kernel) (by decide +kernel)
set_option maxRecDepth 20000 in
theorem gX5_isAlike_X5_search : GoodIn wsX5_isAlike (wsV RX5 85 RX5 yX5_search wsX5_search) := goodIn_app (goodIn_of _ (by decide +kernel)) ggX5_isAlike_X5_search
set_option maxRecDepth 20000 in
theorem ggX5_isAlike_X4_would : GoodIn wsX5_isAlike wsX4_would := goodIn_ca (goodIn_r _ [62, 63, 64, 65, 66, 67, 68, 69, 70, 71, 72, 73, 74, 75, 76, 77, 78, 79, 80, 81, 82, 83, 84, 85, 86, 87, 88, 89, 90, 91, 92, 93, 94, 95, 96, 97, 98, 99, 100, 101, 102, 103, 104, 105, 106, 107, 108, 109, 110, 111, 112, 113, 114, 115, 116, 117, 118, 119, 120, 121, 122, 123, 124, 125, 126, 127, 128, 47, 129, 130, 46, 48, 131, 132, 133, 134, 135, 136, 137, 138, 139, 140, 141, 142, 143, 144, 145, 146, 147, 148, 149, 150, 151, 152, 153, 154, 155, 156, 157, 158, 159, 160, 161, 162, 163, 164, 165, 166, 167, 168, 169, 170, 171, 172, 173, 174, 175, 176, 177, 178, 179, 193, 194, 195, 196, 197, 198, 199, 200, 201, 202, 203, 204, 205, 206, 207, 208, 209, 210, 211, 212, 213, 214, 215] (by decide +kernel) (by decide +kernel)) (goodIn_sub (fun _ h => List.mem_cons_of_mem _ (List.mem_append_right _ h)) (by decide +kernel))
set_option maxRecDepth 20000 in
theorem gX5_isAlike_X4_would : GoodIn wsX5_isAlike (wsV RX5 125 RX4 yX4_would wsX4_would) := goodIn_app (goodIn_of _ (by decide +kernel)) ggX5_isAlike_X4_would
set_option maxRecDepth 20000 in
theorem ggX5_isAlike_X5_bits : GoodIn wsX5_isAlike wsX5_bits := goodIn_r _ [54] (by decide +kernel) (by decide +kernel)
set_option maxRecDepth 20000 in
theorem gX5_isAlike_X5_bits : GoodIn wsX5_isAlike (va_wsS RX5 64 yX5_bits wsX5_bits) := goodIn_app (goodIn_of _ (by decide +kernel)) ggX5_isAlike_X5_bits
set_option maxRecDepth 20000 in
theorem ggX5_isAlike_X5_oneByOne : GoodIn wsX5_isAlike wsX5_oneByOne := goodIn_r _ [183, 8, 1, 9, 10, 11, 12, 6, 13, 14, 15, 16, 17, 18, 19, 20, 21, 22, 23, 24, 25, 26, 27, 28, 29, 30, 31, 32, 33, 34, 35, 36, 37, 38, 39, 40, 55, 56, 57, 184, 185, 186, 187, 188, 189, 190, 191, 192] (by decide +kernel) (by decide +kernel)
set_option maxRecDepth 20000 in
theorem gX5_isAlike_X5_oneByOne : GoodIn wsX5_isAlike (wsV RX5 128 RX5 yX5_oneByOne wsX5_oneByOne) := goodIn_app (goodIn_of _ (by decide +kernel)) ggX5_isAlike_X5_oneByOne
theorem dX5_isAlike_0 : decode cX5_isAlike 0 = .ok (.aload_n 0, 1) := by decide +kernel
theorem dX5_isAlike_1 : decode cX5_isAlike 1 = .ok (.invokevirtual 85, 3) := by decide +kernel
theorem dX5_isAlike_4 : decode cX5_isAlike 4 = .ok (.astore_n 2, 1) := by decide +kernel
theorem dX5_isAlike_5 : decode cX5_isAlike 5 = .ok (.aload_n 1, 1) := by decide +kernel
theorem dX5_isAlike_6 : decode cX5_isAlike 6 = .ok (.iconst 0, 1) := by decide +kernel
theorem dX5_isAlike_7 : decode cX5_isAlike 7 = .ok (.invokevirtual 125, 3) := by decide +kernel
theorem dX5_isAlike_10 : decode cX5_isAlike 10 = .ok (.aload_n 2, 1) := by decide +kernel
theorem dX5_isAlike_11 : decode cX5_isAlike 11 = .ok (.invokestatic 64, 3) := by decide +kernel
theorem dX5_isAlike_14 : decode cX5_isAlike 14 = .ok (.if_icmp .ne 29, 3) := by decide +kernel
theorem dX5_isAlike_17 : decode cX5_isAlike 17 = .ok (.aload_n 1, 1) := by decide +kernel
theorem dX5_isAlike_18 : decode cX5_isAlike 18 = .ok (.iconst 1, 1) := by decide +kernel
theorem dX5_isAlike_19 : decode cX5_isAlike 19 = .ok (.invokevirtual 125, 3) := by decide +kernel
theorem dX5_isAlike_22 : decode cX5_isAlike 22 = .ok (.aload_n 0, 1) := by decide +kernel
theorem dX5_isAlike_23 : decode cX5_isAlike 23 = .ok (.getfield 27, 3) := by decide +kernel
theorem dX5_isAlike_26 : decode cX5_isAlike 26 = .ok (.arraylength, 1) := by decide +kernel
theorem dX5_isAlike_27 : decode cX5_isAlike 27 = .ok (.if_icmp .ne 16, 3) := by decide +kernel
theorem dX5_isAlike_30 : decode cX5_isAlike 30 = .ok (.aload_n 1, 1) := by decide +kernel
theorem dX5_isAlike_31 : decode cX5_isAlike 31 = .ok (.iconst 2, 1) := by decide +kernel
theorem dX5_isAlike_32 : decode cX5_isAlike 32 = .ok (.invokevirtual 125, 3) := by decide +kernel
theorem dX5_isAlike_35 : decode cX5_isAlike 35 = .ok (.aload_n 0, 1) := by decide +kernel
theorem dX5_isAlike_36 : decode cX5_isAlike 36 = .ok (.getfield 30, 3) := by decide +kernel
theorem dX5_isAlike_39 : decode cX5_isAlike 39 = .ok (.arraylength, 1) := by decide +kernel
theorem dX5_isAlike_40 : decode cX5_isAlike 40 = .ok (.if_icmp .eq 5, 3) := by decide +kernel
theorem dX5_isAlike_43 : decode cX5_isAlike 43 = .ok (.iconst 0, 1) := by decide +kernel
theorem dX5_isAlike_44 : decode cX5_isAlike 44 = .ok (.ireturn, 1) := by decide +kernel
theorem dX5_isAlike_45 : decode cX5_isAlike 45 = .ok (.aload_n 0, 1) := by decide +kernel
theorem dX5_isAlike_46 : decode cX5_isAlike 46 = .ok (.invokevirtual 128, 3) := by decide +kernel
theorem dX5_isAlike_49 : decode cX5_isAlike 49 = .ok (.astore_n 3, 1) := by decide +kernel
theorem dX5_isAlike_50 : decode cX5_isAlike 50 = .ok (.aload_n 1, 1) := by decide +kernel
theorem dX5_isAlike_51 : decode cX5_isAlike 51 = .ok (.iconst 3, 1) := by decide +kernel
theorem dX5_isAlike_52 : decode cX5_isAlike 52 = .ok (.invokevirtual 125, 3) := by decide +kernel
theorem dX5_isAlike_55 : decode cX5_isAlike 55 = .ok (.aload_n 3, 1) := by decide +kernel
theorem dX5_isAlike_56 : decode cX5_isAlike 56 = .ok (.invokestatic 64, 3) := by decide +kernel
theorem dX5_isAlike_59 : decode cX5_isAlike 59 = .ok (.if_icmp .ne 20, 3) := by decide +kernel
theorem dX5_isAlike_62 : decode cX5_isAlike 62 = .ok (.aload_n 1, 1) := by decide +kernel
theorem dX5_isAlike_63 : decode cX5_isAlike 63 = .ok (.iconst 4, 1) := by decide +kernel
theorem dX5_isAlike_64 : decode cX5_isAlike 64 = .ok (.invokevirtual 125, 3) := by decide +kernel
theorem dX5_isAlike_67 : decode cX5_isAlike 67 = .ok (.aload_n 0, 1) := by decide +kernel
theorem dX5_isAlike_68 : decode cX5_isAlike 68 = .ok (.getfield 27, 3) := by decide +kernel
theorem dX5_isAlike_71 : decode cX5_isAlike 71 = .ok (.arraylength, 1) := by decide +kernel
theorem dX5_isAlike_72 : decode cX5_isAlike 72 = .ok (.if_icmp .ne 7, 3) := by decide +kernel
theorem dX5_isAlike_75 : decode cX5_isAlike 75 = .ok (.iconst 1, 1) := by decide +kernel
theorem dX5_isAlike_76 : decode cX5_isAlike 76 = .ok (.goto 4, 3) := by decide +kernel
theorem dX5_isAlike_79 : decode cX5_isAlike 79 = .ok (.iconst 0, 1) := by decide +kernel
theorem dX5_isAlike_80 : decode cX5_isAlike 80 = .ok (.ireturn, 1) := by decide +kernel
theorem dJ6_bitCount_0f7a4_0 : decode cJ6_bitCount_0f7a4 0 = .ok (.iload_n 0, 1) := by decide +kernel
theorem dJ6_bitCount_0f7a4_1 : decode cJ6_bitCount_0f7a4 1 = .ok (.iload_n 0, 1) := by decide +kernel
theorem dJ6_bitCount_0f7a4_2 : decode cJ6_bitCount_0f7a4 2 = .ok (.iconst 1, 1) := by decide +kernel
theorem dJ6_bitCount_0f7a4_3 : decode cJ6_bitCount_0f7a4 3 = .ok (.iushr, 1) := by decide +kernel
theorem dJ6_bitCount_0f7a4_4 : decode cJ6_bitCount_0f7a4 4 = .ok (.ldc_w 265, 3) := by decide +kernel
theorem dJ6_bitCount_0f7a4_7 : decode cJ6_bitCount_0f7a4 7 = .ok (.iand, 1) := by decide +kernel
theorem dJ6_bitCount_0f7a4_8 : decode cJ6_bitCount_0f7a4 8 = .ok (.isub, 1) := by decide +kernel
theorem dJ6_bitCount_0f7a4_9 : decode cJ6_bitCount_0f7a4 9 = .ok (.istore_n 0, 1) := by decide +kernel
theorem dJ6_bitCount_0f7a4_10 : decode cJ6_bitCount_0f7a4 10 = .ok (.iload_n 0, 1) := by decide +kernel
theorem dJ6_bitCount_0f7a4_11 : decode cJ6_bitCount_0f7a4 11 = .ok (.ldc_w 266, 3) := by decide +kernel
theorem dJ6_bitCount_0f7a4_14 : decode cJ6_bitCount_0f7a4 14 = .ok (.iand, 1) := by decide +kernel
theorem dJ6_bitCount_0f7a4_15 : decode cJ6_bitCount_0f7a4 15 = .ok (.iload_n 0, 1) := by decide +kernel
theorem dJ6_bitCount_0f7a4_16 : decode cJ6_bitCount_0f7a4 16 = .ok (.iconst 2, 1) := by decide +kernel
theorem dJ6_bitCount_0f7a4_17 : decode cJ6_bitCount_0f7a4 17 = .ok (.iushr, 1) := by decide +kernel
theorem dJ6_bitCount_0f7a4_18 : decode cJ6_bitCount_0f7a4 18 = .ok (.ldc_w 266, 3) := by decide +kernel
theorem dJ6_bitCount_0f7a4_21 : decode cJ6_bitCount_0f7a4 21 = .ok (.iand, 1) := by decide +kernel
theorem dJ6_bitCount_0f7a4_22 : decode cJ6_bitCount_0f7a4 22 = .ok (.iadd, 1) := by decide +kernel
theorem dJ6_bitCount_0f7a4_23 : decode cJ6_bitCount_0f7a4 23 = .ok (.istore_n 0, 1) := by decide +kernel
theorem dJ6_bitCount_0f7a4_24 : decode cJ6_bitCount_0f7a4 24 = .ok (.iload_n 0, 1) := by decide +kernel
theorem dJ6_bitCount_0f7a4_25 : decode cJ6_bitCount_0f7a4 25 = .ok (.iload_n 0, 1) := by decide +kernel
theorem dJ6_bitCount_0f7a4_26 : decode cJ6_bitCount_0f7a4 26 = .ok (.iconst 4, 1) := by decide +kernel
theorem dJ6_bitCount_0f7a4_27 : decode cJ6_bitCount_0f7a4 27 = .ok (.iushr, 1) := by decide +kernel
theorem dJ6_bitCount_0f7a4_28 : decode cJ6_bitCount_0f7a4 28 = .ok (.iadd, 1) := by decide +kernel
theorem dJ6_bitCount_0f7a4_29 : decode cJ6_bitCount_0f7a4 29 = .ok (.ldc_w 267, 3) := by decide +kernel
theorem dJ6_bitCount_0f7a4_32 : decode cJ6_bitCount_0f7a4 32 = .ok (.iand, 1) := by decide +kernel
theorem dJ6_bitCount_0f7a4_33 : decode cJ6_bitCount_0f7a4 33 = .ok (.istore_n 0, 1) := by decide +kernel
theorem dJ6_bitCount_0f7a4_34 : decode cJ6_bitCount_0f7a4 34 = .ok (.iload_n 0, 1) := by decide +kernel
theorem dJ6_bitCount_0f7a4_35 : decode cJ6_bitCount_0f7a4 35 = .ok (.iload_n 0, 1) := by decide +kernel
theorem dJ6_bitCount_0f7a4_36 : decode cJ6_bitCount_0f7a4 36 = .ok (.bipush 8, 2) := by decide +kernel
theorem dJ6_bitCount_0f7a4_38 : decode cJ6_bitCount_0f7a4 38 = .ok (.iushr, 1) := by decide +kernel
theorem dJ6_bitCount_0f7a4_39 : decode cJ6_bitCount_0f7a4 39 = .ok (.iadd, 1) := by decide +kernel
theorem dJ6_bitCount_0f7a4_40 : decode cJ6_bitCount_0f7a4 40 = .ok (.istore_n 0, 1) := by decide +kernel
theorem dJ6_bitCount_0f7a4_41 : decode cJ6_bitCount_0f7a4 41 = .ok (.iload_n 0, 1) := by decide +kernel
theorem dJ6_bitCount_0f7a4_42 : decode cJ6_bitCount_0f7a4 42 = .ok (.iload_n 0, 1) := by decide +kernel
theorem dJ6_bitCount_0f7a4_43 : decode cJ6_bitCount_0f7a4 43 = .ok (.bipush 16, 2) := by decide +kernel
theorem dJ6_bitCount_0f7a4_45 : decode cJ6_bitCount_0f7a4 45 = .ok (.iushr, 1) := by decide +kernel
theorem dJ6_bitCount_0f7a4_46 : decode cJ6_bitCount_0f7a4 46 = .ok (.iadd, 1) := by decide +kernel
theorem dJ6_bitCount_0f7a4_47 : decode cJ6_bitCount_0f7a4 47 = .ok (.istore_n 0, 1) := by decide +kernel
theorem dJ6_bitCount_0f7a4_48 : decode cJ6_bitCount_0f7a4 48 = .ok (.iload_n 0, 1) := by decide +kernel
theorem dJ6_bitCount_0f7a4_49 : decode cJ6_bitCount_0f7a4 49 = .ok (.bipush 63, 2) := by decide +kernel
theorem dJ6_bitCount_0f7a4_51 : decode cJ6_bitCount_0f7a4 51 = .ok (.iand, 1) := by decide +kernel
theorem dJ6_bitCount_0f7a4_52 : decode cJ6_bitCount_0f7a4 52 = .ok (.ireturn, 1) := by decide +kernel
theorem dJ9_max_7cf53_0 : decode cJ9_max_7cf53 0 = .ok (.iload_n 0, 1) := by decide +kernel
theorem dJ9_max_7cf53_1 : decode cJ9_max_7cf53 1 = .ok (.iload_n 1, 1) := by decide +kernel
theorem dJ9_max_7cf53_2 : decode cJ9_max_7cf53 2 = .ok (.if_icmp .lt 7, 3) := by decide +kernel
theorem dJ9_max_7cf53_5 : decode cJ9_max_7cf53 5 = .ok (.iload_n 0, 1) := by decide +kernel
theorem dJ9_max_7cf53_6 : decode cJ9_max_7cf53 6 = .ok (.goto 4, 3) := by decide +kernel
theorem dJ9_max_7cf53_9 : decode cJ9_max_7cf53 9 = .ok (.iload_n 1, 1) := by decide +kernel
theorem dJ9_max_7cf53_10 : decode cJ9_max_7cf53 10 = .ok (.ireturn, 1) := by decide +kernel
theorem dJ9_min_7cf53_0 : decode cJ9_min_7cf53 0 = .ok (.iload_n 0, 1) := by decide +kernel
theorem dJ9_min_7cf53_1 : decode cJ9_min_7cf53 1 = .ok (.iload_n 1, 1) := by decide +kernel
theorem dJ9_min_7cf53_2 : decode cJ9_min_7cf53 2 = .ok (.if_icmp .gt 7, 3) := by decide +kernel
theorem dJ9_min_7cf53_5 : decode cJ9_min_7cf53 5 = .ok (.iload_n 0, 1) := by decide +kernel
theorem dJ9_min_7cf53_6 : decode cJ9_min_7cf53 6 = .ok (.goto 4, 3) := by decide +kernel
theorem dJ9_min_7cf53_9 : decode cJ9_min_7cf53 9 = .ok (.iload_n 1, 1) := by decide +kernel
theorem dJ9_min_7cf53_10 : decode cJ9_min_7cf53 10 = .ok (.ireturn, 1) := by decide +kernel
theorem dL_below_0 : decode cL_below 0 = .ok (.iload_n 0, 1) := by decide +kernel
theorem dL_below_1 : decode cL_below 1 = .ok (.ldc 7, 2) := by decide +kernel
theorem dL_below_3 : decode cL_below 3 = .ok (.iand, 1) := by decide +kernel
theorem dL_below_4 : decode cL_below 4 = .ok (.iload_n 1, 1) := by decide +kernel
theorem dL_below_5 : decode cL_below 5 = .ok (.irem, 1) := by decide +kernel
theorem dL_below_6 : decode cL_below 6 = .ok (.ireturn, 1) := by decide +kernel
theorem dL_cell_0 : decode cL_cell 0 = .ok (.iload_n 1, 1) := by decide +kernel
theorem dL_cell_1 : decode cL_cell 1 = .ok (.aload_n 0, 1) := by decide +kernel
theorem dL_cell_2 : decode cL_cell 2 = .ok (.arraylength, 1) := by decide +kernel
theorem dL_cell_3 : decode cL_cell 3 = .ok (.if_icmp .ge 9, 3) := by decide +kernel
theorem dL_cell_6 : decode cL_cell 6 = .ok (.aload_n 0, 1) := by decide +kernel
theorem dL_cell_7 : decode cL_cell 7 = .ok (.iload_n 1, 1) := by decide +kernel
theorem dL_cell_8 : decode cL_cell 8 = .ok (.iaload, 1) := by decide +kernel
theorem dL_cell_9 : decode cL_cell 9 = .ok (.goto 9, 3) := by decide +kernel
theorem dL_cell_12 : decode cL_cell 12 = .ok (.ldc 8, 2) := by decide +kernel
theorem dL_cell_14 : decode cL_cell 14 = .ok (.iload_n 1, 1) := by decide +kernel
theorem dL_cell_15 : decode cL_cell 15 = .ok (.iconst 3, 1) := by decide +kernel
theorem dL_cell_16 : decode cL_cell 16 = .ok (.iadd, 1) := by decide +kernel
theorem dL_cell_17 : decode cL_cell 17 = .ok (.imul, 1) := by decide +kernel
theorem dL_cell_18 : decode cL_cell 18 = .ok (.ireturn, 1) := by decide +kernel
set_option maxRecDepth 20000 in
theorem ggL_act_L_below : GoodIn wsL_act wsL_below := goodIn_r _ [8, 9] (by decide +kernel) (by decide +kernel)
set_option maxRecDepth 20000 in
theorem gL_act_L_below : GoodIn wsL_act (va_wsS RL 9 yL_below wsL_below) := goodIn_app (goodIn_of _ (by decide +kernel)) ggL_act_L_below
set_option maxRecDepth 20000 in
theorem ggL_act_X4_add : GoodIn wsL_act wsX4_add := goodIn_ca (goodIn_ca (goodIn_r _ [14, 15, 16, 17, 18, 19, 20, 21, 13, 22, 23, 24, 25, 26, 27, 28, 29, 30, 31, 32, 33, 34, 35, 36, 37, 38, 295, 296, 297, 298, 299, 300, 301, 302, 303] (by decide +kernel) (by decide +kernel)) (goodIn_sub (fun _ h => List.mem_cons_of_mem _ (List.mem_append_left _ (List.mem_append_right _ h))) (by decide +kernel))) (goodIn_sub (fun _ h => List.mem_cons_of_mem _ (List.mem_append_right _ h)) (by decide +kernel))
set_option maxRecDepth 20000 in
theorem gL_act_X4_add : GoodIn wsL_act (wsV RL 25 RX4 yX4_add wsX4_add) := goodIn_app (goodIn_of _ (by decide +kernel)) ggL_act_X4_add
set_option maxRecDepth 20000 in
theorem ggL_act_X5_rest : GoodIn wsL_act wsX5_rest := goodIn_r _ [42, 4] (by decide +kernel) (by decide +kernel)
set_option maxRecDepth 20000 in
theorem gL_act_X5_rest : GoodIn wsL_act (va_wsS RL 31 yX5_rest wsX5_rest) := goodIn_app (goodIn_of _ (by decide +kernel)) ggL_act_X5_rest
set_option maxRecDepth 20000 in
theorem ggL_act_X4_drop : GoodIn wsL_act wsX4_drop := goodIn_ca (goodIn_r _ [46, 15, 16, 19, 47, 48, 49, 26, 50, 28, 51, 52, 53, 54, 29, 55, 56, 57, 58, 59, 295, 296, 297, 298, 299, 300, 301, 302, 303] (by decide +kernel) (by decide +kernel)) (goodIn_sub (fun _ h => List.mem_cons_of_mem _ (List.mem_append_left _ (List.mem_append_right _ h))) (by decide +kernel))
set_option maxRecDepth 20000 in
theorem gL_act_X4_drop : GoodIn wsL_act (wsV RL 35 RX4 yX4_drop wsX4_drop) := goodIn_app (goodIn_of _ (by decide +kernel)) ggL_act_X4_drop
set_option maxRecDepth 20000 in
theorem ggL_act_X5_more : GoodIn wsL_act wsX5_more := goodIn_r _ [62, 63] (by decide +kernel) (by decide +kernel)
set_option maxRecDepth 20000 in
theorem gL_act_X5_more : GoodIn wsL_act (va_wsS RL 38 yX5_more wsX5_more) := goodIn_app (goodIn_of _ (by decide +kernel)) ggL_act_X5_more
set_option maxRecDepth 20000 in
theorem ggL_act_X4_rule : GoodIn wsL_act wsX4_rule := goodIn_ca (goodIn_r _ [67, 17, 18, 68, 69, 70, 71, 72, 73, 74, 75, 76, 77, 78, 79, 80, 81, 82, 83, 295, 296, 297, 298, 299, 300, 301, 304, 305, 306] (by decide +kernel) (by decide +kernel)) (goodIn_sub (fun _ h => List.mem_cons_of_mem _ (List.mem_append_right _ h)) (by decide +kernel))
set_option maxRecDepth 20000 in
theorem gL_act_X4_rule : GoodIn wsL_act (wsV RL 42 RX4 yX4_rule wsX4_rule) := goodIn_app (goodIn_of _ (by decide +kernel)) ggL_act_X4_rule
set_option maxRecDepth 20000 in
theorem ggL_act_X4_setNeeds : GoodIn wsL_act wsX4_setNeeds := goodIn_ca (goodIn_ca (goodIn_r _ [87, 15, 16, 17, 18, 68, 88, 89, 90, 72, 91, 74, 20, 21, 13, 22, 92, 93, 94, 95, 96, 97, 98, 99, 100, 101, 102, 103, 104, 105, 106, 107, 108, 109, 110, 111, 112, 295, 296, 297, 298, 299, 300, 301, 304, 305, 306] (by decide +kernel) (by decide +kernel)) (goodIn_sub (fun _ h => List.mem_cons_of_mem _ (List.mem_append_left _ (List.mem_append_right _ h))) (by decide +kernel))) (goodIn_sub (fun _ h => List.mem_cons_of_mem _ (List.mem_append_right _ h)) (by decide +kernel))
set_option maxRecDepth 20000 in
theorem gL_act_X4_setNeeds : GoodIn wsL_act (wsV RL 46 RX4 yX4_setNeeds wsX4_setNeeds) := goodIn_app (goodIn_of _ (by decide +kernel)) ggL_act_X4_setNeeds
set_option maxRecDepth 20000 in
theorem ggL_act_X4_setSpares : GoodIn wsL_act wsX4_setSpares := goodIn_ca (goodIn_ca (goodIn_r _ [116, 15, 16, 17, 18, 68, 88, 89, 90, 72, 91, 74, 20, 21, 13, 22, 101, 102, 103, 104, 105, 97, 98, 99, 100, 92, 93, 94, 95, 96, 106, 107, 108, 117, 118, 119, 120, 295, 296, 297, 298, 299, 300, 301, 304, 305, 306] (by decide +kernel) (by decide +kernel)) (goodIn_sub (fun _ h => List.mem_cons_of_mem _ (List.mem_append_left _ (List.mem_append_right _ h))) (by decide +kernel))) (goodIn_sub (fun _ h => List.mem_cons_of_mem _ (List.mem_append_right _ h)) (by decide +kernel))
set_option maxRecDepth 20000 in
theorem gL_act_X4_setSpares : GoodIn wsL_act (wsV RL 50 RX4 yX4_setSpares wsX4_setSpares) := goodIn_app (goodIn_of _ (by decide +kernel)) ggL_act_X4_setSpares
set_option maxRecDepth 20000 in
theorem ggL_act_X4_shrink : GoodIn wsL_act wsX4_shrink := goodIn_r _ [124, 125, 126, 19, 127, 128, 129, 130, 131, 26, 132, 28, 133, 134, 135, 136, 137, 138, 139, 140, 141, 142, 143, 144, 145, 146, 147, 148, 149, 150, 151, 152, 153, 154, 155, 156, 157, 158, 159, 160, 161, 162, 163, 164, 165, 166, 167, 168, 29, 169, 170, 171, 72, 172, 74, 173, 174, 175, 176, 105, 96, 177, 178, 179, 180, 181, 182, 183, 184, 185, 186, 187, 188, 189, 190, 191, 192, 193, 194, 195, 196, 197, 198, 199, 200, 201, 202, 203, 204, 205, 206, 207, 208, 209, 210, 211, 212, 213, 214, 215, 216, 217, 218, 219, 220, 221, 222, 223, 224, 225, 226, 227, 228, 229, 295, 296, 297, 298, 299, 300, 301, 302, 303, 307, 308, 309, 310, 311, 312, 313, 314, 315, 316, 317, 304, 305, 306] (by decide +kernel) (by decide +kernel)
set_option maxRecDepth 20000 in
theorem gL_act_X4_shrink : GoodIn wsL_act (wsV RL 55 RX4 yX4_shrink wsX4_shrink) := goodIn_app (goodIn_of _ (by decide +kernel)) ggL_act_X4_shrink
set_option maxRecDepth 20000 in
theorem ggL_act_X5_shrink : GoodIn wsL_act wsX5_shrink := goodIn_r _ [233, 234, 235, 236, 237, 238, 239, 240, 241, 242, 243, 41, 244, 63, 4, 245, 246, 247, 248, 249, 250, 251, 252, 253, 254, 255, 256, 257, 61, 62, 258, 259, 260, 261, 262, 263, 264, 265, 266, 267, 268, 269, 270, 271, 272, 273, 274, 275, 276, 277, 278, 186, 183, 187, 279, 280, 281, 282, 283, 284, 285, 40, 42, 286, 287, 288, 289, 290, 291, 292, 293, 294] (by decide +kernel) (by decide +kernel)
set_option maxRecDepth 20000 in
theorem gL_act_X5_shrink : GoodIn wsL_act (wsV RL 58 RX5 yX5_shrink wsX5_shrink) := goodIn_app (goodIn_of _ (by decide +kernel)) ggL_act_X5_shrink
theorem dL_act_0 : decode cL_act 0 = .ok (.iload_n 2, 1) := by decide +kernel
theorem dL_act_1 : decode cL_act 1 = .ok (.iconst 3, 1) := by decide +kernel
theorem dL_act_2 : decode cL_act 2 = .ok (.ishr, 1) := by decide +kernel
theorem dL_act_3 : decode cL_act 3 = .ok (.iload_n 2, 1) := by decide +kernel
theorem dL_act_4 : decode cL_act 4 = .ok (.bipush 9, 2) := by decide +kernel
theorem dL_act_6 : decode cL_act 6 = .ok (.ishr, 1) := by decide +kernel
theorem dL_act_7 : decode cL_act 7 = .ok (.iconst 2, 1) := by decide +kernel
theorem dL_act_8 : decode cL_act 8 = .ok (.invokestatic 9, 3) := by decide +kernel
theorem dL_act_11 : decode cL_act 11 = .ok (.ifCond .ne 8, 3) := by decide +kernel
theorem dL_act_14 : decode cL_act 14 = .ok (.bipush 16, 2) := by decide +kernel
theorem dL_act_16 : decode cL_act 16 = .ok (.goto 5, 3) := by decide +kernel
theorem dL_act_19 : decode cL_act 19 = .ok (.bipush 6, 2) := by decide +kernel
theorem dL_act_21 : decode cL_act 21 = .ok (.invokestatic 9, 3) := by decide +kernel
theorem dL_act_24 : decode cL_act 24 = .ok (.istore_n 3, 1) := by decide +kernel
theorem dL_act_25 : decode cL_act 25 = .ok (.aload_n 1, 1) := by decide +kernel
theorem dL_act_26 : decode cL_act 26 = .ok (.getfield 15, 3) := by decide +kernel
theorem dL_act_29 : decode cL_act 29 = .ok (.arraylength, 1) := by decide +kernel
theorem dL_act_30 : decode cL_act 30 = .ok (.istore 4, 2) := by decide +kernel
theorem dL_act_32 : decode cL_act 32 = .ok (.aload_n 1, 1) := by decide +kernel
theorem dL_act_33 : decode cL_act 33 = .ok (.getfield 21, 3) := by decide +kernel
theorem dL_act_36 : decode cL_act 36 = .ok (.arraylength, 1) := by decide +kernel
theorem dL_act_37 : decode cL_act 37 = .ok (.istore 5, 2) := by decide +kernel
theorem dL_act_39 : decode cL_act 39 = .ok (.iload_n 2, 1) := by decide +kernel
theorem dL_act_40 : decode cL_act 40 = .ok (.bipush 12, 2) := by decide +kernel
theorem dL_act_42 : decode cL_act 42 = .ok (.invokestatic 9, 3) := by decide +kernel
theorem dL_act_45 : decode cL_act 45 = .ok (.tableswitch 417 0 8 #[51, 51, 51, 51, 126, 186, 225, 225, 225], 51) := by decide +kernel
theorem dL_act_96 : decode cL_act 96 = .ok (.iload 4, 2) := by decide +kernel
theorem dL_act_98 : decode cL_act 98 = .ok (.bipush 24, 2) := by decide +kernel
theorem dL_act_100 : decode cL_act 100 = .ok (.if_icmp .ne 5, 3) := by decide +kernel
theorem dL_act_103 : decode cL_act 103 = .ok (.iconst 1, 1) := by decide +kernel
theorem dL_act_104 : decode cL_act 104 = .ok (.ireturn, 1) := by decide +kernel
theorem dL_act_105 : decode cL_act 105 = .ok (.iload 4, 2) := by decide +kernel
theorem dL_act_107 : decode cL_act 107 = .ok (.iconst 1, 1) := by decide +kernel
theorem dL_act_108 : decode cL_act 108 = .ok (.iadd, 1) := by decide +kernel
theorem dL_act_109 : decode cL_act 109 = .ok (.newarray .int, 2) := by decide +kernel
theorem dL_act_111 : decode cL_act 111 = .ok (.astore 6, 2) := by decide +kernel
theorem dL_act_113 : decode cL_act 113 = .ok (.iconst 0, 1) := by decide +kernel
theorem dL_act_114 : decode cL_act 114 = .ok (.istore 7, 2) := by decide +kernel
theorem dL_act_116 : decode cL_act 116 = .ok (.iload 7, 2) := by decide +kernel
theorem dL_act_118 : decode cL_act 118 = .ok (.iload 4, 2) := by decide +kernel
theorem dL_act_120 : decode cL_act 120 = .ok (.if_icmp .ge 21, 3) := by decide +kernel
theorem dL_act_123 : decode cL_act 123 = .ok (.aload 6, 2) := by decide +kernel
theorem dL_act_125 : decode cL_act 125 = .ok (.iload 7, 2) := by decide +kernel
theorem dL_act_127 : decode cL_act 127 = .ok (.aload_n 1, 1) := by decide +kernel
theorem dL_act_128 : decode cL_act 128 = .ok (.getfield 15, 3) := by decide +kernel
theorem dL_act_131 : decode cL_act 131 = .ok (.iload 7, 2) := by decide +kernel
theorem dL_act_133 : decode cL_act 133 = .ok (.iaload, 1) := by decide +kernel
theorem dL_act_134 : decode cL_act 134 = .ok (.iastore, 1) := by decide +kernel
theorem dL_act_135 : decode cL_act 135 = .ok (.iinc 7 1, 3) := by decide +kernel
theorem dL_act_138 : decode cL_act 138 = .ok (.goto (-22), 3) := by decide +kernel
theorem dL_act_141 : decode cL_act 141 = .ok (.aload 6, 2) := by decide +kernel
theorem dL_act_143 : decode cL_act 143 = .ok (.iload 4, 2) := by decide +kernel
theorem dL_act_145 : decode cL_act 145 = .ok (.iload_n 3, 1) := by decide +kernel
theorem dL_act_146 : decode cL_act 146 = .ok (.iastore, 1) := by decide +kernel
theorem dL_act_147 : decode cL_act 147 = .ok (.aload_n 1, 1) := by decide +kernel
theorem dL_act_148 : decode cL_act 148 = .ok (.aload 6, 2) := by decide +kernel
theorem dL_act_150 : decode cL_act 150 = .ok (.putfield 15, 3) := by decide +kernel
theorem dL_act_153 : decode cL_act 153 = .ok (.aload_n 0, 1) := by decide +kernel
theorem dL_act_154 : decode cL_act 154 = .ok (.iload_n 3, 1) := by decide +kernel
theorem dL_act_155 : decode cL_act 155 = .ok (.invokevirtual 25, 3) := by decide +kernel
theorem dL_act_158 : decode cL_act 158 = .ok (.iload 4, 2) := by decide +kernel
theorem dL_act_160 : decode cL_act 160 = .ok (.iconst 1, 1) := by decide +kernel
theorem dL_act_161 : decode cL_act 161 = .ok (.iadd, 1) := by decide +kernel
theorem dL_act_162 : decode cL_act 162 = .ok (.if_icmp .ne 7, 3) := by decide +kernel
theorem dL_act_165 : decode cL_act 165 = .ok (.iconst 1, 1) := by decide +kernel
theorem dL_act_166 : decode cL_act 166 = .ok (.goto 4, 3) := by decide +kernel
theorem dL_act_169 : decode cL_act 169 = .ok (.iconst 0, 1) := by decide +kernel
theorem dL_act_170 : decode cL_act 170 = .ok (.ireturn, 1) := by decide +kernel
theorem dL_act_171 : decode cL_act 171 = .ok (.iload 4, 2) := by decide +kernel
theorem dL_act_173 : decode cL_act 173 = .ok (.ifCond .ne 5, 3) := by decide +kernel
theorem dL_act_176 : decode cL_act 176 = .ok (.iconst 1, 1) := by decide +kernel
theorem dL_act_177 : decode cL_act 177 = .ok (.ireturn, 1) := by decide +kernel
theorem dL_act_178 : decode cL_act 178 = .ok (.iload_n 2, 1) := by decide +kernel
theorem dL_act_179 : decode cL_act 179 = .ok (.iconst 5, 1) := by decide +kernel
theorem dL_act_180 : decode cL_act 180 = .ok (.ishr, 1) := by decide +kernel
theorem dL_act_181 : decode cL_act 181 = .ok (.iload 4, 2) := by decide +kernel
theorem dL_act_183 : decode cL_act 183 = .ok (.invokestatic 9, 3) := by decide +kernel
theorem dL_act_186 : decode cL_act 186 = .ok (.istore 6, 2) := by decide +kernel
theorem dL_act_188 : decode cL_act 188 = .ok (.aload_n 1, 1) := by decide +kernel
theorem dL_act_189 : decode cL_act 189 = .ok (.getfield 15, 3) := by decide +kernel
theorem dL_act_192 : decode cL_act 192 = .ok (.iload 6, 2) := by decide +kernel
theorem dL_act_194 : decode cL_act 194 = .ok (.iaload, 1) := by decide +kernel
theorem dL_act_195 : decode cL_act 195 = .ok (.istore 7, 2) := by decide +kernel
theorem dL_act_197 : decode cL_act 197 = .ok (.aload_n 1, 1) := by decide +kernel
theorem dL_act_198 : decode cL_act 198 = .ok (.aload_n 1, 1) := by decide +kernel
theorem dL_act_199 : decode cL_act 199 = .ok (.getfield 15, 3) := by decide +kernel
theorem dL_act_202 : decode cL_act 202 = .ok (.iload 6, 2) := by decide +kernel
theorem dL_act_204 : decode cL_act 204 = .ok (.iload 6, 2) := by decide +kernel
theorem dL_act_206 : decode cL_act 206 = .ok (.iconst 1, 1) := by decide +kernel
theorem dL_act_207 : decode cL_act 207 = .ok (.iadd, 1) := by decide +kernel
theorem dL_act_208 : decode cL_act 208 = .ok (.invokestatic 31, 3) := by decide +kernel
theorem dL_act_211 : decode cL_act 211 = .ok (.putfield 15, 3) := by decide +kernel
theorem dL_act_214 : decode cL_act 214 = .ok (.aload_n 0, 1) := by decide +kernel
theorem dL_act_215 : decode cL_act 215 = .ok (.iload 6, 2) := by decide +kernel
theorem dL_act_217 : decode cL_act 217 = .ok (.invokevirtual 35, 3) := by decide +kernel
theorem dL_act_220 : decode cL_act 220 = .ok (.iload 7, 2) := by decide +kernel
theorem dL_act_222 : decode cL_act 222 = .ok (.if_icmp .ne 7, 3) := by decide +kernel
theorem dL_act_225 : decode cL_act 225 = .ok (.iconst 1, 1) := by decide +kernel
theorem dL_act_226 : decode cL_act 226 = .ok (.goto 4, 3) := by decide +kernel
theorem dL_act_229 : decode cL_act 229 = .ok (.iconst 0, 1) := by decide +kernel
theorem dL_act_230 : decode cL_act 230 = .ok (.ireturn, 1) := by decide +kernel
theorem dL_act_231 : decode cL_act 231 = .ok (.iload 5, 2) := by decide +kernel
theorem dL_act_233 : decode cL_act 233 = .ok (.bipush 6, 2) := by decide +kernel
theorem dL_act_235 : decode cL_act 235 = .ok (.if_icmp .ne 5, 3) := by decide +kernel
theorem dL_act_238 : decode cL_act 238 = .ok (.iconst 1, 1) := by decide +kernel
theorem dL_act_239 : decode cL_act 239 = .ok (.ireturn, 1) := by decide +kernel
theorem dL_act_240 : decode cL_act 240 = .ok (.aload_n 1, 1) := by decide +kernel
theorem dL_act_241 : decode cL_act 241 = .ok (.aload_n 1, 1) := by decide +kernel
theorem dL_act_242 : decode cL_act 242 = .ok (.getfield 21, 3) := by decide +kernel
theorem dL_act_245 : decode cL_act 245 = .ok (.bipush 16, 2) := by decide +kernel
theorem dL_act_247 : decode cL_act 247 = .ok (.newarray .int, 2) := by decide +kernel
theorem dL_act_249 : decode cL_act 249 = .ok (.invokestatic 38, 3) := by decide +kernel
theorem dL_act_252 : decode cL_act 252 = .ok (.putfield 21, 3) := by decide +kernel
theorem dL_act_255 : decode cL_act 255 = .ok (.aload_n 0, 1) := by decide +kernel
theorem dL_act_256 : decode cL_act 256 = .ok (.invokevirtual 42, 3) := by decide +kernel
theorem dL_act_259 : decode cL_act 259 = .ok (.iload 5, 2) := by decide +kernel
theorem dL_act_261 : decode cL_act 261 = .ok (.if_icmp .ne 7, 3) := by decide +kernel
theorem dL_act_264 : decode cL_act 264 = .ok (.iconst 1, 1) := by decide +kernel
theorem dL_act_265 : decode cL_act 265 = .ok (.goto 4, 3) := by decide +kernel
theorem dL_act_268 : decode cL_act 268 = .ok (.iconst 0, 1) := by decide +kernel
theorem dL_act_269 : decode cL_act 269 = .ok (.ireturn, 1) := by decide +kernel
theorem dL_act_270 : decode cL_act 270 = .ok (.iload 5, 2) := by decide +kernel
theorem dL_act_272 : decode cL_act 272 = .ok (.ifCond .ne 5, 3) := by decide +kernel
theorem dL_act_275 : decode cL_act 275 = .ok (.iconst 1, 1) := by decide +kernel
theorem dL_act_276 : decode cL_act 276 = .ok (.ireturn, 1) := by decide +kernel
theorem dL_act_277 : decode cL_act 277 = .ok (.iload_n 2, 1) := by decide +kernel
theorem dL_act_278 : decode cL_act 278 = .ok (.bipush 6, 2) := by decide +kernel
theorem dL_act_280 : decode cL_act 280 = .ok (.ishr, 1) := by decide +kernel
theorem dL_act_281 : decode cL_act 281 = .ok (.iload 5, 2) := by decide +kernel
theorem dL_act_283 : decode cL_act 283 = .ok (.invokestatic 9, 3) := by decide +kernel
theorem dL_act_286 : decode cL_act 286 = .ok (.istore 6, 2) := by decide +kernel
theorem dL_act_288 : decode cL_act 288 = .ok (.iload_n 2, 1) := by decide +kernel
theorem dL_act_289 : decode cL_act 289 = .ok (.iconst 4, 1) := by decide +kernel
theorem dL_act_290 : decode cL_act 290 = .ok (.ishr, 1) := by decide +kernel
theorem dL_act_291 : decode cL_act 291 = .ok (.iconst 3, 1) := by decide +kernel
theorem dL_act_292 : decode cL_act 292 = .ok (.invokestatic 9, 3) := by decide +kernel
theorem dL_act_295 : decode cL_act 295 = .ok (.ifCond .le 7, 3) := by decide +kernel
theorem dL_act_298 : decode cL_act 298 = .ok (.iconst 1, 1) := by decide +kernel
theorem dL_act_299 : decode cL_act 299 = .ok (.goto 4, 3) := by decide +kernel
theorem dL_act_302 : decode cL_act 302 = .ok (.iconst (-1), 1) := by decide +kernel
theorem dL_act_303 : decode cL_act 303 = .ok (.istore 7, 2) := by decide +kernel
theorem dL_act_305 : decode cL_act 305 = .ok (.iload_n 2, 1) := by decide +kernel
theorem dL_act_306 : decode cL_act 306 = .ok (.bipush 8, 2) := by decide +kernel
theorem dL_act_308 : decode cL_act 308 = .ok (.ishr, 1) := by decide +kernel
theorem dL_act_309 : decode cL_act 309 = .ok (.bipush 6, 2) := by decide +kernel
theorem dL_act_311 : decode cL_act 311 = .ok (.invokestatic 9, 3) := by decide +kernel
theorem dL_act_314 : decode cL_act 314 = .ok (.ifCond .le 7, 3) := by decide +kernel
theorem dL_act_317 : decode cL_act 317 = .ok (.iconst 1, 1) := by decide +kernel
theorem dL_act_318 : decode cL_act 318 = .ok (.goto 4, 3) := by decide +kernel
theorem dL_act_321 : decode cL_act 321 = .ok (.iconst 0, 1) := by decide +kernel
theorem dL_act_322 : decode cL_act 322 = .ok (.istore 8, 2) := by decide +kernel
theorem dL_act_324 : decode cL_act 324 = .ok (.aload_n 1, 1) := by decide +kernel
theorem dL_act_325 : decode cL_act 325 = .ok (.getfield 21, 3) := by decide +kernel
theorem dL_act_328 : decode cL_act 328 = .ok (.iload 6, 2) := by decide +kernel
theorem dL_act_330 : decode cL_act 330 = .ok (.aaload, 1) := by decide +kernel
theorem dL_act_331 : decode cL_act 331 = .ok (.iload_n 3, 1) := by decide +kernel
theorem dL_act_332 : decode cL_act 332 = .ok (.iaload, 1) := by decide +kernel
theorem dL_act_333 : decode cL_act 333 = .ok (.istore 9, 2) := by decide +kernel
theorem dL_act_335 : decode cL_act 335 = .ok (.iload 8, 2) := by decide +kernel
theorem dL_act_337 : decode cL_act 337 = .ok (.ifCond .eq 11, 3) := by decide +kernel
theorem dL_act_340 : decode cL_act 340 = .ok (.iload 9, 2) := by decide +kernel
theorem dL_act_342 : decode cL_act 342 = .ok (.iload 7, 2) := by decide +kernel
theorem dL_act_344 : decode cL_act 344 = .ok (.ineg, 1) := by decide +kernel
theorem dL_act_345 : decode cL_act 345 = .ok (.if_icmp .eq 7, 3) := by decide +kernel
theorem dL_act_348 : decode cL_act 348 = .ok (.iconst 1, 1) := by decide +kernel
theorem dL_act_349 : decode cL_act 349 = .ok (.goto 4, 3) := by decide +kernel
theorem dL_act_352 : decode cL_act 352 = .ok (.iconst 0, 1) := by decide +kernel
theorem dL_act_353 : decode cL_act 353 = .ok (.istore 10, 2) := by decide +kernel
theorem dL_act_355 : decode cL_act 355 = .ok (.iload 10, 2) := by decide +kernel
theorem dL_act_357 : decode cL_act 357 = .ok (.ifCond .eq 35, 3) := by decide +kernel
theorem dL_act_360 : decode cL_act 360 = .ok (.iload 8, 2) := by decide +kernel
theorem dL_act_362 : decode cL_act 362 = .ok (.ifCond .ne 10, 3) := by decide +kernel
theorem dL_act_365 : decode cL_act 365 = .ok (.iload 9, 2) := by decide +kernel
theorem dL_act_367 : decode cL_act 367 = .ok (.iload 7, 2) := by decide +kernel
theorem dL_act_369 : decode cL_act 369 = .ok (.if_icmp .ne 23, 3) := by decide +kernel
theorem dL_act_372 : decode cL_act 372 = .ok (.aload_n 1, 1) := by decide +kernel
theorem dL_act_373 : decode cL_act 373 = .ok (.getfield 21, 3) := by decide +kernel
theorem dL_act_376 : decode cL_act 376 = .ok (.iload 6, 2) := by decide +kernel
theorem dL_act_378 : decode cL_act 378 = .ok (.aaload, 1) := by decide +kernel
theorem dL_act_379 : decode cL_act 379 = .ok (.iload_n 3, 1) := by decide +kernel
theorem dL_act_380 : decode cL_act 380 = .ok (.iload 8, 2) := by decide +kernel
theorem dL_act_382 : decode cL_act 382 = .ok (.ifCond .eq 8, 3) := by decide +kernel
theorem dL_act_385 : decode cL_act 385 = .ok (.iload 7, 2) := by decide +kernel
theorem dL_act_387 : decode cL_act 387 = .ok (.goto 4, 3) := by decide +kernel
theorem dL_act_390 : decode cL_act 390 = .ok (.iconst 0, 1) := by decide +kernel
theorem dL_act_391 : decode cL_act 391 = .ok (.iastore, 1) := by decide +kernel
theorem dL_act_392 : decode cL_act 392 = .ok (.iload 7, 2) := by decide +kernel
theorem dL_act_394 : decode cL_act 394 = .ok (.iconst 1, 1) := by decide +kernel
theorem dL_act_395 : decode cL_act 395 = .ok (.if_icmp .ne 15, 3) := by decide +kernel
theorem dL_act_398 : decode cL_act 398 = .ok (.aload_n 0, 1) := by decide +kernel
theorem dL_act_399 : decode cL_act 399 = .ok (.iload 6, 2) := by decide +kernel
theorem dL_act_401 : decode cL_act 401 = .ok (.iload_n 3, 1) := by decide +kernel
theorem dL_act_402 : decode cL_act 402 = .ok (.iload 8, 2) := by decide +kernel
theorem dL_act_404 : decode cL_act 404 = .ok (.invokevirtual 46, 3) := by decide +kernel
theorem dL_act_407 : decode cL_act 407 = .ok (.goto 12, 3) := by decide +kernel
theorem dL_act_410 : decode cL_act 410 = .ok (.aload_n 0, 1) := by decide +kernel
theorem dL_act_411 : decode cL_act 411 = .ok (.iload 6, 2) := by decide +kernel
theorem dL_act_413 : decode cL_act 413 = .ok (.iload_n 3, 1) := by decide +kernel
theorem dL_act_414 : decode cL_act 414 = .ok (.iload 8, 2) := by decide +kernel
theorem dL_act_416 : decode cL_act 416 = .ok (.invokevirtual 50, 3) := by decide +kernel
theorem dL_act_419 : decode cL_act 419 = .ok (.istore 11, 2) := by decide +kernel
theorem dL_act_421 : decode cL_act 421 = .ok (.iload 10, 2) := by decide +kernel
theorem dL_act_423 : decode cL_act 423 = .ok (.ifCond .eq 24, 3) := by decide +kernel
theorem dL_act_426 : decode cL_act 426 = .ok (.iload 11, 2) := by decide +kernel
theorem dL_act_428 : decode cL_act 428 = .ok (.iload 9, 2) := by decide +kernel
theorem dL_act_430 : decode cL_act 430 = .ok (.iload 7, 2) := by decide +kernel
theorem dL_act_432 : decode cL_act 432 = .ok (.if_icmp .ne 7, 3) := by decide +kernel
theorem dL_act_435 : decode cL_act 435 = .ok (.iconst 1, 1) := by decide +kernel
theorem dL_act_436 : decode cL_act 436 = .ok (.goto 4, 3) := by decide +kernel
theorem dL_act_439 : decode cL_act 439 = .ok (.iconst 0, 1) := by decide +kernel
theorem dL_act_440 : decode cL_act 440 = .ok (.if_icmp .ne 7, 3) := by decide +kernel
theorem dL_act_443 : decode cL_act 443 = .ok (.iconst 1, 1) := by decide +kernel
theorem dL_act_444 : decode cL_act 444 = .ok (.goto 4, 3) := by decide +kernel
theorem dL_act_447 : decode cL_act 447 = .ok (.iconst 0, 1) := by decide +kernel
theorem dL_act_448 : decode cL_act 448 = .ok (.ireturn, 1) := by decide +kernel
theorem dL_act_449 : decode cL_act 449 = .ok (.astore 11, 2) := by decide +kernel
theorem dL_act_451 : decode cL_act 451 = .ok (.iload 10, 2) := by decide +kernel
theorem dL_act_453 : decode cL_act 453 = .ok (.ifCond .ne 7, 3) := by decide +kernel
theorem dL_act_456 : decode cL_act 456 = .ok (.iconst 1, 1) := by decide +kernel
theorem dL_act_457 : decode cL_act 457 = .ok (.goto 4, 3) := by decide +kernel
theorem dL_act_460 : decode cL_act 460 = .ok (.iconst 0, 1) := by decide +kernel
theorem dL_act_461 : decode cL_act 461 = .ok (.ireturn, 1) := by decide +kernel
theorem dL_act_462 : decode cL_act 462 = .ok (.aload_n 0, 1) := by decide +kernel
theorem dL_act_463 : decode cL_act 463 = .ok (.invokevirtual 55, 3) := by decide +kernel
theorem dL_act_466 : decode cL_act 466 = .ok (.aload_n 1, 1) := by decide +kernel
theorem dL_act_467 : decode cL_act 467 = .ok (.invokevirtual 58, 3) := by decide +kernel
theorem dL_act_470 : decode cL_act 470 = .ok (.if_icmp .ne 7, 3) := by decide +kernel
theorem dL_act_473 : decode cL_act 473 = .ok (.iconst 1, 1) := by decide +kernel
theorem dL_act_474 : decode cL_act 474 = .ok (.goto 4, 3) := by decide +kernel
theorem dL_act_477 : decode cL_act 477 = .ok (.iconst 0, 1) := by decide +kernel
theorem dL_act_478 : decode cL_act 478 = .ok (.ireturn, 1) := by decide +kernel
set_option maxRecDepth 20000 in
theorem ggL_build_X5_init : GoodIn wsL_build wsX5_init := goodIn_sub (fun _ h => List.mem_cons_of_mem _ (List.mem_append_left _ (List.mem_append_left _ (List.mem_append_left _ (List.mem_append_right _ h))))) (by decide +kernel)
theorem gL_build_X5_init_n59 : GoodIn wsL_build (wsX5_init) := ggL_build_X5_init
set_option maxRecDepth 20000 in
theorem ggL_build_L_cell : GoodIn wsL_build wsL_cell := goodIn_sub (fun _ h => List.mem_cons_of_mem _ (List.mem_append_left _ (List.mem_append_left _ (List.mem_append_right _ h)))) (by decide +kernel)
set_option maxRecDepth 20000 in
theorem gL_build_L_cell : GoodIn wsL_build (va_wsS RL 60 yL_cell wsL_cell) := goodIn_app (goodIn_r _ [6, 7, 8] (by decide +kernel) (by decide +kernel)) ggL_build_L_cell
set_option maxRecDepth 20000 in
theorem ggL_build_L_below : GoodIn wsL_build wsL_below := goodIn_sub (fun _ h => List.mem_cons_of_mem _ (List.mem_append_left _ (List.mem_append_right _ h))) (by decide +kernel)
set_option maxRecDepth 20000 in
theorem gL_build_L_below : GoodIn wsL_build (va_wsS RL 9 yL_below wsL_below) := goodIn_app (goodIn_r _ [9, 10, 8] (by decide +kernel) (by decide +kernel)) ggL_build_L_below
set_option maxRecDepth 20000 in
theorem ggL_build_L_act : GoodIn wsL_build wsL_act := goodIn_sub (fun _ h => List.mem_cons_of_mem _ (List.mem_append_right _ h)) (by decide +kernel)
set_option maxRecDepth 20000 in
theorem gL_build_L_act : GoodIn wsL_build (va_wsS RL 65 yL_act wsL_act) := goodIn_app (goodIn_r _ [11, 12, 8] (by decide +kernel) (by decide +kernel)) ggL_build_L_act
theorem dL_build_0 : decode cL_build 0 = .ok (.new 16, 3) := by decide +kernel
theorem dL_build_3 : decode cL_build 3 = .ok (.dup, 1) := by decide +kernel
theorem dL_build_4 : decode cL_build 4 = .ok (.invokespecial 59, 3) := by decide +kernel
theorem dL_build_7 : decode cL_build 7 = .ok (.astore_n 2, 1) := by decide +kernel
theorem dL_build_8 : decode cL_build 8 = .ok (.iconst 0, 1) := by decide +kernel
theorem dL_build_9 : decode cL_build 9 = .ok (.istore_n 3, 1) := by decide +kernel
theorem dL_build_10 : decode cL_build 10 = .ok (.iload_n 3, 1) := by decide +kernel
theorem dL_build_11 : decode cL_build 11 = .ok (.bipush 48, 2) := by decide +kernel
theorem dL_build_13 : decode cL_build 13 = .ok (.if_icmp .ge 85, 3) := by decide +kernel
theorem dL_build_16 : decode cL_build 16 = .ok (.aload_n 1, 1) := by decide +kernel
theorem dL_build_17 : decode cL_build 17 = .ok (.iload_n 3, 1) := by decide +kernel
theorem dL_build_18 : decode cL_build 18 = .ok (.bipush 16, 2) := by decide +kernel
theorem dL_build_20 : decode cL_build 20 = .ok (.irem, 1) := by decide +kernel
theorem dL_build_21 : decode cL_build 21 = .ok (.invokestatic 60, 3) := by decide +kernel
theorem dL_build_24 : decode cL_build 24 = .ok (.iload_n 3, 1) := by decide +kernel
theorem dL_build_25 : decode cL_build 25 = .ok (.bipush 16, 2) := by decide +kernel
theorem dL_build_27 : decode cL_build 27 = .ok (.idiv, 1) := by decide +kernel
theorem dL_build_28 : decode cL_build 28 = .ok (.iconst 5, 1) := by decide +kernel
theorem dL_build_29 : decode cL_build 29 = .ok (.imul, 1) := by decide +kernel
theorem dL_build_30 : decode cL_build 30 = .ok (.ishr, 1) := by decide +kernel
theorem dL_build_31 : decode cL_build 31 = .ok (.sipush 263, 3) := by decide +kernel
theorem dL_build_34 : decode cL_build 34 = .ok (.iload_n 3, 1) := by decide +kernel
theorem dL_build_35 : decode cL_build 35 = .ok (.imul, 1) := by decide +kernel
theorem dL_build_36 : decode cL_build 36 = .ok (.iadd, 1) := by decide +kernel
theorem dL_build_37 : decode cL_build 37 = .ok (.istore 4, 2) := by decide +kernel
theorem dL_build_39 : decode cL_build 39 = .ok (.iload_n 3, 1) := by decide +kernel
theorem dL_build_40 : decode cL_build 40 = .ok (.bipush 22, 2) := by decide +kernel
theorem dL_build_42 : decode cL_build 42 = .ok (.if_icmp .ge 38, 3) := by decide +kernel
theorem dL_build_45 : decode cL_build 45 = .ok (.bipush 12, 2) := by decide +kernel
theorem dL_build_47 : decode cL_build 47 = .ok (.iload 4, 2) := by decide +kernel
theorem dL_build_49 : decode cL_build 49 = .ok (.ldc 64, 2) := by decide +kernel
theorem dL_build_51 : decode cL_build 51 = .ok (.invokestatic 9, 3) := by decide +kernel
theorem dL_build_54 : decode cL_build 54 = .ok (.imul, 1) := by decide +kernel
theorem dL_build_55 : decode cL_build 55 = .ok (.iload_n 3, 1) := by decide +kernel
theorem dL_build_56 : decode cL_build 56 = .ok (.bipush 12, 2) := by decide +kernel
theorem dL_build_58 : decode cL_build 58 = .ok (.if_icmp .ge 7, 3) := by decide +kernel
theorem dL_build_61 : decode cL_build 61 = .ok (.iconst 0, 1) := by decide +kernel
theorem dL_build_62 : decode cL_build 62 = .ok (.goto 15, 3) := by decide +kernel
theorem dL_build_65 : decode cL_build 65 = .ok (.iload_n 3, 1) := by decide +kernel
theorem dL_build_66 : decode cL_build 66 = .ok (.bipush 14, 2) := by decide +kernel
theorem dL_build_68 : decode cL_build 68 = .ok (.if_icmp .ge 7, 3) := by decide +kernel
theorem dL_build_71 : decode cL_build 71 = .ok (.iconst 5, 1) := by decide +kernel
theorem dL_build_72 : decode cL_build 72 = .ok (.goto 5, 3) := by decide +kernel
theorem dL_build_75 : decode cL_build 75 = .ok (.bipush 6, 2) := by decide +kernel
theorem dL_build_77 : decode cL_build 77 = .ok (.iadd, 1) := by decide +kernel
theorem dL_build_78 : decode cL_build 78 = .ok (.istore 4, 2) := by decide +kernel
theorem dL_build_80 : decode cL_build 80 = .ok (.aload_n 0, 1) := by decide +kernel
theorem dL_build_81 : decode cL_build 81 = .ok (.aload_n 2, 1) := by decide +kernel
theorem dL_build_82 : decode cL_build 82 = .ok (.iload 4, 2) := by decide +kernel
theorem dL_build_84 : decode cL_build 84 = .ok (.invokestatic 65, 3) := by decide +kernel
theorem dL_build_87 : decode cL_build 87 = .ok (.ifCond .ne 5, 3) := by decide +kernel
theorem dL_build_90 : decode cL_build 90 = .ok (.aconst_null, 1) := by decide +kernel
theorem dL_build_91 : decode cL_build 91 = .ok (.areturn, 1) := by decide +kernel
theorem dL_build_92 : decode cL_build 92 = .ok (.iinc 3 1, 3) := by decide +kernel
theorem dL_build_95 : decode cL_build 95 = .ok (.goto (-85), 3) := by decide +kernel
theorem dL_build_98 : decode cL_build 98 = .ok (.aload_n 2, 1) := by decide +kernel
theorem dL_build_99 : decode cL_build 99 = .ok (.areturn, 1) := by decide +kernel
theorem dL_law_0 : decode cL_law 0 = .ok (.new 26, 3) := by decide +kernel
theorem dL_law_3 : decode cL_law 3 = .ok (.dup, 1) := by decide +kernel
theorem dL_law_4 : decode cL_law 4 = .ok (.invokespecial 69, 3) := by decide +kernel
theorem dL_law_7 : decode cL_law 7 = .ok (.astore_n 1, 1) := by decide +kernel
theorem dL_law_8 : decode cL_law 8 = .ok (.aload_n 1, 1) := by decide +kernel
theorem dL_law_9 : decode cL_law 9 = .ok (.aload_n 0, 1) := by decide +kernel
theorem dL_law_10 : decode cL_law 10 = .ok (.invokestatic 70, 3) := by decide +kernel
theorem dL_law_13 : decode cL_law 13 = .ok (.astore_n 2, 1) := by decide +kernel
theorem dL_law_14 : decode cL_law 14 = .ok (.aload_n 2, 1) := by decide +kernel
theorem dL_law_15 : decode cL_law 15 = .ok (.ifnonnull 5, 3) := by decide +kernel
theorem dL_law_18 : decode cL_law 18 = .ok (.iconst 0, 1) := by decide +kernel
theorem dL_law_19 : decode cL_law 19 = .ok (.ireturn, 1) := by decide +kernel
theorem dL_law_20 : decode cL_law 20 = .ok (.iconst 0, 1) := by decide +kernel
theorem dL_law_21 : decode cL_law 21 = .ok (.istore_n 3, 1) := by decide +kernel
theorem dL_law_22 : decode cL_law 22 = .ok (.iload_n 3, 1) := by decide +kernel
theorem dL_law_23 : decode cL_law 23 = .ok (.bipush 8, 2) := by decide +kernel
theorem dL_law_25 : decode cL_law 25 = .ok (.if_icmp .ge 1055, 3) := by decide +kernel
theorem dL_law_28 : decode cL_law 28 = .ok (.aload_n 0, 1) := by decide +kernel
theorem dL_law_29 : decode cL_law 29 = .ok (.iconst 3, 1) := by decide +kernel
theorem dL_law_30 : decode cL_law 30 = .ok (.iload_n 3, 1) := by decide +kernel
theorem dL_law_31 : decode cL_law 31 = .ok (.iadd, 1) := by decide +kernel
theorem dL_law_32 : decode cL_law 32 = .ok (.invokestatic 60, 3) := by decide +kernel
theorem dL_law_35 : decode cL_law 35 = .ok (.iconst 1, 1) := by decide +kernel
theorem dL_law_36 : decode cL_law 36 = .ok (.ishr, 1) := by decide +kernel
theorem dL_law_37 : decode cL_law 37 = .ok (.sipush 263, 3) := by decide +kernel
theorem dL_law_40 : decode cL_law 40 = .ok (.iload_n 3, 1) := by decide +kernel
theorem dL_law_41 : decode cL_law 41 = .ok (.imul, 1) := by decide +kernel
theorem dL_law_42 : decode cL_law 42 = .ok (.iadd, 1) := by decide +kernel
theorem dL_law_43 : decode cL_law 43 = .ok (.istore 4, 2) := by decide +kernel
theorem dL_law_45 : decode cL_law 45 = .ok (.iconst 0, 1) := by decide +kernel
theorem dL_law_46 : decode cL_law 46 = .ok (.istore 5, 2) := by decide +kernel
theorem dL_law_48 : decode cL_law 48 = .ok (.iload 5, 2) := by decide +kernel
theorem dL_law_50 : decode cL_law 50 = .ok (.iconst 2, 1) := by decide +kernel
theorem dL_law_51 : decode cL_law 51 = .ok (.if_icmp .ge 33, 3) := by decide +kernel
theorem dL_law_54 : decode cL_law 54 = .ok (.aload_n 1, 1) := by decide +kernel
theorem dL_law_55 : decode cL_law 55 = .ok (.aload_n 2, 1) := by decide +kernel
theorem dL_law_56 : decode cL_law 56 = .ok (.iload 4, 2) := by decide +kernel
theorem dL_law_58 : decode cL_law 58 = .ok (.iconst 2, 1) := by decide +kernel
theorem dL_law_59 : decode cL_law 59 = .ok (.iload 5, 2) := by decide +kernel
theorem dL_law_61 : decode cL_law 61 = .ok (.imul, 1) := by decide +kernel
theorem dL_law_62 : decode cL_law 62 = .ok (.ishr, 1) := by decide +kernel
theorem dL_law_63 : decode cL_law 63 = .ok (.sipush 193, 3) := by decide +kernel
theorem dL_law_66 : decode cL_law 66 = .ok (.iload 5, 2) := by decide +kernel
theorem dL_law_68 : decode cL_law 68 = .ok (.imul, 1) := by decide +kernel
theorem dL_law_69 : decode cL_law 69 = .ok (.iadd, 1) := by decide +kernel
theorem dL_law_70 : decode cL_law 70 = .ok (.invokestatic 65, 3) := by decide +kernel
theorem dL_law_73 : decode cL_law 73 = .ok (.ifCond .ne 5, 3) := by decide +kernel
theorem dL_law_76 : decode cL_law 76 = .ok (.iconst 0, 1) := by decide +kernel
theorem dL_law_77 : decode cL_law 77 = .ok (.ireturn, 1) := by decide +kernel
theorem dL_law_78 : decode cL_law 78 = .ok (.iinc 5 1, 3) := by decide +kernel
theorem dL_law_81 : decode cL_law 81 = .ok (.goto (-33), 3) := by decide +kernel
theorem dL_law_84 : decode cL_law 84 = .ok (.aload_n 2, 1) := by decide +kernel
theorem dL_law_85 : decode cL_law 85 = .ok (.aload_n 1, 1) := by decide +kernel
theorem dL_law_86 : decode cL_law 86 = .ok (.invokevirtual 74, 3) := by decide +kernel
theorem dL_law_89 : decode cL_law 89 = .ok (.ifCond .ne 5, 3) := by decide +kernel
theorem dL_law_92 : decode cL_law 92 = .ok (.iconst 0, 1) := by decide +kernel
theorem dL_law_93 : decode cL_law 93 = .ok (.ireturn, 1) := by decide +kernel
theorem dL_law_94 : decode cL_law 94 = .ok (.aload_n 1, 1) := by decide +kernel
theorem dL_law_95 : decode cL_law 95 = .ok (.iconst 0, 1) := by decide +kernel
theorem dL_law_96 : decode cL_law 96 = .ok (.invokevirtual 78, 3) := by decide +kernel
theorem dL_law_99 : decode cL_law 99 = .ok (.istore 5, 2) := by decide +kernel
theorem dL_law_101 : decode cL_law 101 = .ok (.aload_n 1, 1) := by decide +kernel
theorem dL_law_102 : decode cL_law 102 = .ok (.iconst 1, 1) := by decide +kernel
theorem dL_law_103 : decode cL_law 103 = .ok (.invokevirtual 78, 3) := by decide +kernel
theorem dL_law_106 : decode cL_law 106 = .ok (.istore 6, 2) := by decide +kernel
theorem dL_law_108 : decode cL_law 108 = .ok (.iconst 1, 1) := by decide +kernel
theorem dL_law_109 : decode cL_law 109 = .ok (.iload 5, 2) := by decide +kernel
theorem dL_law_111 : decode cL_law 111 = .ok (.ishl, 1) := by decide +kernel
theorem dL_law_112 : decode cL_law 112 = .ok (.iconst 1, 1) := by decide +kernel
theorem dL_law_113 : decode cL_law 113 = .ok (.isub, 1) := by decide +kernel
theorem dL_law_114 : decode cL_law 114 = .ok (.istore 7, 2) := by decide +kernel
theorem dL_law_116 : decode cL_law 116 = .ok (.aload_n 1, 1) := by decide +kernel
theorem dL_law_117 : decode cL_law 117 = .ok (.bipush 6, 2) := by decide +kernel
theorem dL_law_119 : decode cL_law 119 = .ok (.invokevirtual 78, 3) := by decide +kernel
theorem dL_law_122 : decode cL_law 122 = .ok (.istore 8, 2) := by decide +kernel
theorem dL_law_124 : decode cL_law 124 = .ok (.aload_n 1, 1) := by decide +kernel
theorem dL_law_125 : decode cL_law 125 = .ok (.invokevirtual 55, 3) := by decide +kernel
theorem dL_law_128 : decode cL_law 128 = .ok (.istore 9, 2) := by decide +kernel
theorem dL_law_130 : decode cL_law 130 = .ok (.aload_n 2, 1) := by decide +kernel
theorem dL_law_131 : decode cL_law 131 = .ok (.invokevirtual 58, 3) := by decide +kernel
theorem dL_law_134 : decode cL_law 134 = .ok (.iload 9, 2) := by decide +kernel
theorem dL_law_136 : decode cL_law 136 = .ok (.if_icmp .ne 33, 3) := by decide +kernel
theorem dL_law_139 : decode cL_law 139 = .ok (.aload_n 1, 1) := by decide +kernel
theorem dL_law_140 : decode cL_law 140 = .ok (.bipush 6, 2) := by decide +kernel
theorem dL_law_142 : decode cL_law 142 = .ok (.invokevirtual 78, 3) := by decide +kernel
theorem dL_law_145 : decode cL_law 145 = .ok (.iload 8, 2) := by decide +kernel
theorem dL_law_147 : decode cL_law 147 = .ok (.iload 9, 2) := by decide +kernel
theorem dL_law_149 : decode cL_law 149 = .ok (.iadd, 1) := by decide +kernel
theorem dL_law_150 : decode cL_law 150 = .ok (.if_icmp .ne 19, 3) := by decide +kernel
theorem dL_law_153 : decode cL_law 153 = .ok (.aload_n 1, 1) := by decide +kernel
theorem dL_law_154 : decode cL_law 154 = .ok (.iconst 5, 1) := by decide +kernel
theorem dL_law_155 : decode cL_law 155 = .ok (.invokevirtual 78, 3) := by decide +kernel
theorem dL_law_158 : decode cL_law 158 = .ok (.iload 9, 2) := by decide +kernel
theorem dL_law_160 : decode cL_law 160 = .ok (.if_icmp .ne 9, 3) := by decide +kernel
theorem dL_law_163 : decode cL_law 163 = .ok (.iload 9, 2) := by decide +kernel
theorem dL_law_165 : decode cL_law 165 = .ok (.iconst 1, 1) := by decide +kernel
theorem dL_law_166 : decode cL_law 166 = .ok (.if_icmp .ge 5, 3) := by decide +kernel
theorem dL_law_169 : decode cL_law 169 = .ok (.iconst 0, 1) := by decide +kernel
theorem dL_law_170 : decode cL_law 170 = .ok (.ireturn, 1) := by decide +kernel
theorem dL_law_171 : decode cL_law 171 = .ok (.aload_n 1, 1) := by decide +kernel
theorem dL_law_172 : decode cL_law 172 = .ok (.invokevirtual 81, 3) := by decide +kernel
theorem dL_law_175 : decode cL_law 175 = .ok (.lstore 10, 2) := by decide +kernel
theorem dL_law_177 : decode cL_law 177 = .ok (.iconst 0, 1) := by decide +kernel
theorem dL_law_178 : decode cL_law 178 = .ok (.istore 12, 2) := by decide +kernel
theorem dL_law_180 : decode cL_law 180 = .ok (.iconst (-1), 1) := by decide +kernel
theorem dL_law_181 : decode cL_law 181 = .ok (.istore 13, 2) := by decide +kernel
theorem dL_law_183 : decode cL_law 183 = .ok (.iconst 0, 1) := by decide +kernel
theorem dL_law_184 : decode cL_law 184 = .ok (.istore 14, 2) := by decide +kernel
theorem dL_law_186 : decode cL_law 186 = .ok (.iload 14, 2) := by decide +kernel
theorem dL_law_188 : decode cL_law 188 = .ok (.aload_n 1, 1) := by decide +kernel
theorem dL_law_189 : decode cL_law 189 = .ok (.iconst 3, 1) := by decide +kernel
theorem dL_law_190 : decode cL_law 190 = .ok (.invokevirtual 78, 3) := by decide +kernel
theorem dL_law_193 : decode cL_law 193 = .ok (.if_icmp .ge 46, 3) := by decide +kernel
theorem dL_law_196 : decode cL_law 196 = .ok (.aload_n 1, 1) := by decide +kernel
theorem dL_law_197 : decode cL_law 197 = .ok (.iload 14, 2) := by decide +kernel
theorem dL_law_199 : decode cL_law 199 = .ok (.invokevirtual 85, 3) := by decide +kernel
theorem dL_law_202 : decode cL_law 202 = .ok (.istore 15, 2) := by decide +kernel
theorem dL_law_204 : decode cL_law 204 = .ok (.iload 15, 2) := by decide +kernel
theorem dL_law_206 : decode cL_law 206 = .ok (.iload 13, 2) := by decide +kernel
theorem dL_law_208 : decode cL_law 208 = .ok (.if_icmp .le 10, 3) := by decide +kernel
theorem dL_law_211 : decode cL_law 211 = .ok (.iload 15, 2) := by decide +kernel
theorem dL_law_213 : decode cL_law 213 = .ok (.iload 5, 2) := by decide +kernel
theorem dL_law_215 : decode cL_law 215 = .ok (.if_icmp .lt 5, 3) := by decide +kernel
theorem dL_law_218 : decode cL_law 218 = .ok (.iconst 0, 1) := by decide +kernel
theorem dL_law_219 : decode cL_law 219 = .ok (.ireturn, 1) := by decide +kernel
theorem dL_law_220 : decode cL_law 220 = .ok (.iload 15, 2) := by decide +kernel
theorem dL_law_222 : decode cL_law 222 = .ok (.istore 13, 2) := by decide +kernel
theorem dL_law_224 : decode cL_law 224 = .ok (.iload 12, 2) := by decide +kernel
theorem dL_law_226 : decode cL_law 226 = .ok (.iconst 1, 1) := by decide +kernel
theorem dL_law_227 : decode cL_law 227 = .ok (.iload 15, 2) := by decide +kernel
theorem dL_law_229 : decode cL_law 229 = .ok (.ishl, 1) := by decide +kernel
theorem dL_law_230 : decode cL_law 230 = .ok (.ior, 1) := by decide +kernel
theorem dL_law_231 : decode cL_law 231 = .ok (.istore 12, 2) := by decide +kernel
theorem dL_law_233 : decode cL_law 233 = .ok (.iinc 14 1, 3) := by decide +kernel
theorem dL_law_236 : decode cL_law 236 = .ok (.goto (-50), 3) := by decide +kernel
theorem dL_law_239 : decode cL_law 239 = .ok (.aload_n 1, 1) := by decide +kernel
theorem dL_law_240 : decode cL_law 240 = .ok (.iconst 3, 1) := by decide +kernel
theorem dL_law_241 : decode cL_law 241 = .ok (.invokevirtual 88, 3) := by decide +kernel
theorem dL_law_244 : decode cL_law 244 = .ok (.istore 14, 2) := by decide +kernel
theorem dL_law_246 : decode cL_law 246 = .ok (.aload_n 1, 1) := by decide +kernel
theorem dL_law_247 : decode cL_law 247 = .ok (.iload 7, 2) := by decide +kernel
theorem dL_law_249 : decode cL_law 249 = .ok (.invokevirtual 91, 3) := by decide +kernel
theorem dL_law_252 : decode cL_law 252 = .ok (.istore 15, 2) := by decide +kernel
theorem dL_law_254 : decode cL_law 254 = .ok (.aload_n 1, 1) := by decide +kernel
theorem dL_law_255 : decode cL_law 255 = .ok (.invokevirtual 95, 3) := by decide +kernel
theorem dL_law_258 : decode cL_law 258 = .ok (.istore 16, 2) := by decide +kernel
theorem dL_law_260 : decode cL_law 260 = .ok (.iload 12, 2) := by decide +kernel
theorem dL_law_262 : decode cL_law 262 = .ok (.ifCond .eq 7, 3) := by decide +kernel
theorem dL_law_265 : decode cL_law 265 = .ok (.iconst 1, 1) := by decide +kernel
theorem dL_law_266 : decode cL_law 266 = .ok (.goto 4, 3) := by decide +kernel
theorem dL_law_269 : decode cL_law 269 = .ok (.iconst 0, 1) := by decide +kernel
theorem dL_law_270 : decode cL_law 270 = .ok (.iload 15, 2) := by decide +kernel
theorem dL_law_272 : decode cL_law 272 = .ok (.if_icmp .ne 100, 3) := by decide +kernel
theorem dL_law_275 : decode cL_law 275 = .ok (.iload 14, 2) := by decide +kernel
theorem dL_law_277 : decode cL_law 277 = .ok (.ifCond .eq 7, 3) := by decide +kernel
theorem dL_law_280 : decode cL_law 280 = .ok (.iconst 1, 1) := by decide +kernel
theorem dL_law_281 : decode cL_law 281 = .ok (.goto 4, 3) := by decide +kernel
theorem dL_law_284 : decode cL_law 284 = .ok (.iconst 0, 1) := by decide +kernel
theorem dL_law_285 : decode cL_law 285 = .ok (.iload 15, 2) := by decide +kernel
theorem dL_law_287 : decode cL_law 287 = .ok (.if_icmp .ne 85, 3) := by decide +kernel
theorem dL_law_290 : decode cL_law 290 = .ok (.aload_n 1, 1) := by decide +kernel
theorem dL_law_291 : decode cL_law 291 = .ok (.iconst 0, 1) := by decide +kernel
theorem dL_law_292 : decode cL_law 292 = .ok (.invokevirtual 88, 3) := by decide +kernel
theorem dL_law_295 : decode cL_law 295 = .ok (.iload 12, 2) := by decide +kernel
theorem dL_law_297 : decode cL_law 297 = .ok (.if_icmp .ne 75, 3) := by decide +kernel
theorem dL_law_300 : decode cL_law 300 = .ok (.aload_n 1, 1) := by decide +kernel
theorem dL_law_301 : decode cL_law 301 = .ok (.iconst 1, 1) := by decide +kernel
theorem dL_law_302 : decode cL_law 302 = .ok (.invokevirtual 88, 3) := by decide +kernel
theorem dL_law_305 : decode cL_law 305 = .ok (.iload 9, 2) := by decide +kernel
theorem dL_law_307 : decode cL_law 307 = .ok (.if_icmp .ne 65, 3) := by decide +kernel
theorem dL_law_310 : decode cL_law 310 = .ok (.aload_n 1, 1) := by decide +kernel
theorem dL_law_311 : decode cL_law 311 = .ok (.iconst 2, 1) := by decide +kernel
theorem dL_law_312 : decode cL_law 312 = .ok (.invokevirtual 88, 3) := by decide +kernel
theorem dL_law_315 : decode cL_law 315 = .ok (.aload_n 1, 1) := by decide +kernel
theorem dL_law_316 : decode cL_law 316 = .ok (.iconst 4, 1) := by decide +kernel
theorem dL_law_317 : decode cL_law 317 = .ok (.invokevirtual 78, 3) := by decide +kernel
theorem dL_law_320 : decode cL_law 320 = .ok (.if_icmp .ne 52, 3) := by decide +kernel
theorem dL_law_323 : decode cL_law 323 = .ok (.iload 15, 2) := by decide +kernel
theorem dL_law_325 : decode cL_law 325 = .ok (.ifCond .eq 49, 3) := by decide +kernel
theorem dL_law_328 : decode cL_law 328 = .ok (.aload_n 1, 1) := by decide +kernel
theorem dL_law_329 : decode cL_law 329 = .ok (.iload 12, 2) := by decide +kernel
theorem dL_law_331 : decode cL_law 331 = .ok (.invokevirtual 98, 3) := by decide +kernel
theorem dL_law_334 : decode cL_law 334 = .ok (.ifCond .eq 38, 3) := by decide +kernel
theorem dL_law_337 : decode cL_law 337 = .ok (.aload_n 1, 1) := by decide +kernel
theorem dL_law_338 : decode cL_law 338 = .ok (.iload 14, 2) := by decide +kernel
theorem dL_law_340 : decode cL_law 340 = .ok (.invokevirtual 91, 3) := by decide +kernel
theorem dL_law_343 : decode cL_law 343 = .ok (.ifCond .eq 29, 3) := by decide +kernel
theorem dL_law_346 : decode cL_law 346 = .ok (.iload 16, 2) := by decide +kernel
theorem dL_law_348 : decode cL_law 348 = .ok (.iconst 1, 1) := by decide +kernel
theorem dL_law_349 : decode cL_law 349 = .ok (.if_icmp .lt 23, 3) := by decide +kernel
theorem dL_law_352 : decode cL_law 352 = .ok (.iload 16, 2) := by decide +kernel
theorem dL_law_354 : decode cL_law 354 = .ok (.aload_n 1, 1) := by decide +kernel
theorem dL_law_355 : decode cL_law 355 = .ok (.iconst 3, 1) := by decide +kernel
theorem dL_law_356 : decode cL_law 356 = .ok (.invokevirtual 78, 3) := by decide +kernel
theorem dL_law_359 : decode cL_law 359 = .ok (.if_icmp .gt 13, 3) := by decide +kernel
theorem dL_law_362 : decode cL_law 362 = .ok (.iload 16, 2) := by decide +kernel
theorem dL_law_364 : decode cL_law 364 = .ok (.iload 14, 2) := by decide +kernel
theorem dL_law_366 : decode cL_law 366 = .ok (.invokestatic 101, 3) := by decide +kernel
theorem dL_law_369 : decode cL_law 369 = .ok (.if_icmp .le 5, 3) := by decide +kernel
theorem dL_law_372 : decode cL_law 372 = .ok (.iconst 0, 1) := by decide +kernel
theorem dL_law_373 : decode cL_law 373 = .ok (.ireturn, 1) := by decide +kernel
theorem dL_law_374 : decode cL_law 374 = .ok (.iload 7, 2) := by decide +kernel
theorem dL_law_376 : decode cL_law 376 = .ok (.istore 17, 2) := by decide +kernel
theorem dL_law_378 : decode cL_law 378 = .ok (.iconst 2, 1) := by decide +kernel
theorem dL_law_379 : decode cL_law 379 = .ok (.istore 18, 2) := by decide +kernel
theorem dL_law_381 : decode cL_law 381 = .ok (.iconst 1, 1) := by decide +kernel
theorem dL_law_382 : decode cL_law 382 = .ok (.istore 19, 2) := by decide +kernel
theorem dL_law_384 : decode cL_law 384 = .ok (.iconst 0, 1) := by decide +kernel
theorem dL_law_385 : decode cL_law 385 = .ok (.istore 20, 2) := by decide +kernel
theorem dL_law_387 : decode cL_law 387 = .ok (.iload 20, 2) := by decide +kernel
theorem dL_law_389 : decode cL_law 389 = .ok (.aload_n 1, 1) := by decide +kernel
theorem dL_law_390 : decode cL_law 390 = .ok (.iconst 4, 1) := by decide +kernel
theorem dL_law_391 : decode cL_law 391 = .ok (.invokevirtual 78, 3) := by decide +kernel
theorem dL_law_394 : decode cL_law 394 = .ok (.if_icmp .ge 306, 3) := by decide +kernel
theorem dL_law_397 : decode cL_law 397 = .ok (.aload_n 1, 1) := by decide +kernel
theorem dL_law_398 : decode cL_law 398 = .ok (.iload 20, 2) := by decide +kernel
theorem dL_law_400 : decode cL_law 400 = .ok (.iconst 0, 1) := by decide +kernel
theorem dL_law_401 : decode cL_law 401 = .ok (.invokevirtual 106, 3) := by decide +kernel
theorem dL_law_404 : decode cL_law 404 = .ok (.istore 21, 2) := by decide +kernel
theorem dL_law_406 : decode cL_law 406 = .ok (.aload_n 1, 1) := by decide +kernel
theorem dL_law_407 : decode cL_law 407 = .ok (.iload 20, 2) := by decide +kernel
theorem dL_law_409 : decode cL_law 409 = .ok (.iconst 2, 1) := by decide +kernel
theorem dL_law_410 : decode cL_law 410 = .ok (.invokevirtual 106, 3) := by decide +kernel
theorem dL_law_413 : decode cL_law 413 = .ok (.istore 22, 2) := by decide +kernel
theorem dL_law_415 : decode cL_law 415 = .ok (.aload_n 1, 1) := by decide +kernel
theorem dL_law_416 : decode cL_law 416 = .ok (.iload 20, 2) := by decide +kernel
theorem dL_law_418 : decode cL_law 418 = .ok (.iconst 3, 1) := by decide +kernel
theorem dL_law_419 : decode cL_law 419 = .ok (.invokevirtual 106, 3) := by decide +kernel
theorem dL_law_422 : decode cL_law 422 = .ok (.istore 23, 2) := by decide +kernel
theorem dL_law_424 : decode cL_law 424 = .ok (.aload_n 1, 1) := by decide +kernel
theorem dL_law_425 : decode cL_law 425 = .ok (.iload 20, 2) := by decide +kernel
theorem dL_law_427 : decode cL_law 427 = .ok (.iconst 4, 1) := by decide +kernel
theorem dL_law_428 : decode cL_law 428 = .ok (.invokevirtual 106, 3) := by decide +kernel
theorem dL_law_431 : decode cL_law 431 = .ok (.istore 24, 2) := by decide +kernel
theorem dL_law_433 : decode cL_law 433 = .ok (.iload 19, 2) := by decide +kernel
theorem dL_law_435 : decode cL_law 435 = .ok (.iconst 2, 1) := by decide +kernel
theorem dL_law_436 : decode cL_law 436 = .ok (.aload_n 1, 1) := by decide +kernel
theorem dL_law_437 : decode cL_law 437 = .ok (.iload 20, 2) := by decide +kernel
theorem dL_law_439 : decode cL_law 439 = .ok (.iconst 1, 1) := by decide +kernel
theorem dL_law_440 : decode cL_law 440 = .ok (.invokevirtual 106, 3) := by decide +kernel
theorem dL_law_443 : decode cL_law 443 = .ok (.imul, 1) := by decide +kernel
theorem dL_law_444 : decode cL_law 444 = .ok (.iadd, 1) := by decide +kernel
theorem dL_law_445 : decode cL_law 445 = .ok (.istore 19, 2) := by decide +kernel
theorem dL_law_447 : decode cL_law 447 = .ok (.iload 21, 2) := by decide +kernel
theorem dL_law_449 : decode cL_law 449 = .ok (.iload 17, 2) := by decide +kernel
theorem dL_law_451 : decode cL_law 451 = .ok (.invokestatic 101, 3) := by decide +kernel
theorem dL_law_454 : decode cL_law 454 = .ok (.if_icmp .ne 104, 3) := by decide +kernel
theorem dL_law_457 : decode cL_law 457 = .ok (.aload_n 1, 1) := by decide +kernel
theorem dL_law_458 : decode cL_law 458 = .ok (.iload 20, 2) := by decide +kernel
theorem dL_law_460 : decode cL_law 460 = .ok (.iconst 1, 1) := by decide +kernel
theorem dL_law_461 : decode cL_law 461 = .ok (.invokevirtual 106, 3) := by decide +kernel
theorem dL_law_464 : decode cL_law 464 = .ok (.iload 18, 2) := by decide +kernel
theorem dL_law_466 : decode cL_law 466 = .ok (.if_icmp .ne 92, 3) := by decide +kernel
theorem dL_law_469 : decode cL_law 469 = .ok (.iload 24, 2) := by decide +kernel
theorem dL_law_471 : decode cL_law 471 = .ok (.iload 17, 2) := by decide +kernel
theorem dL_law_473 : decode cL_law 473 = .ok (.iconst (-1), 1) := by decide +kernel
theorem dL_law_474 : decode cL_law 474 = .ok (.ixor, 1) := by decide +kernel
theorem dL_law_475 : decode cL_law 475 = .ok (.iand, 1) := by decide +kernel
theorem dL_law_476 : decode cL_law 476 = .ok (.ifCond .ne 82, 3) := by decide +kernel
theorem dL_law_479 : decode cL_law 479 = .ok (.iload 22, 2) := by decide +kernel
theorem dL_law_481 : decode cL_law 481 = .ok (.iconst 1, 1) := by decide +kernel
theorem dL_law_482 : decode cL_law 482 = .ok (.if_icmp .lt 76, 3) := by decide +kernel
theorem dL_law_485 : decode cL_law 485 = .ok (.iload 22, 2) := by decide +kernel
theorem dL_law_487 : decode cL_law 487 = .ok (.iconst 3, 1) := by decide +kernel
theorem dL_law_488 : decode cL_law 488 = .ok (.if_icmp .gt 70, 3) := by decide +kernel
theorem dL_law_491 : decode cL_law 491 = .ok (.iload 22, 2) := by decide +kernel
theorem dL_law_493 : decode cL_law 493 = .ok (.iconst 3, 1) := by decide +kernel
theorem dL_law_494 : decode cL_law 494 = .ok (.if_icmp .ne 7, 3) := by decide +kernel
theorem dL_law_497 : decode cL_law 497 = .ok (.iconst 1, 1) := by decide +kernel
theorem dL_law_498 : decode cL_law 498 = .ok (.goto 4, 3) := by decide +kernel
theorem dL_law_501 : decode cL_law 501 = .ok (.iconst 0, 1) := by decide +kernel
theorem dL_law_502 : decode cL_law 502 = .ok (.iload 23, 2) := by decide +kernel
theorem dL_law_504 : decode cL_law 504 = .ok (.iconst (-1), 1) := by decide +kernel
theorem dL_law_505 : decode cL_law 505 = .ok (.if_icmp .ne 7, 3) := by decide +kernel
theorem dL_law_508 : decode cL_law 508 = .ok (.iconst 1, 1) := by decide +kernel
theorem dL_law_509 : decode cL_law 509 = .ok (.goto 4, 3) := by decide +kernel
theorem dL_law_512 : decode cL_law 512 = .ok (.iconst 0, 1) := by decide +kernel
theorem dL_law_513 : decode cL_law 513 = .ok (.if_icmp .ne 45, 3) := by decide +kernel
theorem dL_law_516 : decode cL_law 516 = .ok (.iload 22, 2) := by decide +kernel
theorem dL_law_518 : decode cL_law 518 = .ok (.iconst 3, 1) := by decide +kernel
theorem dL_law_519 : decode cL_law 519 = .ok (.if_icmp .ne 7, 3) := by decide +kernel
theorem dL_law_522 : decode cL_law 522 = .ok (.iconst 1, 1) := by decide +kernel
theorem dL_law_523 : decode cL_law 523 = .ok (.goto 4, 3) := by decide +kernel
theorem dL_law_526 : decode cL_law 526 = .ok (.iconst 0, 1) := by decide +kernel
theorem dL_law_527 : decode cL_law 527 = .ok (.iload 24, 2) := by decide +kernel
theorem dL_law_529 : decode cL_law 529 = .ok (.iload 17, 2) := by decide +kernel
theorem dL_law_531 : decode cL_law 531 = .ok (.if_icmp .ne 7, 3) := by decide +kernel
theorem dL_law_534 : decode cL_law 534 = .ok (.iconst 1, 1) := by decide +kernel
theorem dL_law_535 : decode cL_law 535 = .ok (.goto 4, 3) := by decide +kernel
theorem dL_law_538 : decode cL_law 538 = .ok (.iconst 0, 1) := by decide +kernel
theorem dL_law_539 : decode cL_law 539 = .ok (.if_icmp .ne 19, 3) := by decide +kernel
theorem dL_law_542 : decode cL_law 542 = .ok (.iload 23, 2) := by decide +kernel
theorem dL_law_544 : decode cL_law 544 = .ok (.iload 18, 2) := by decide +kernel
theorem dL_law_546 : decode cL_law 546 = .ok (.if_icmp .ge 12, 3) := by decide +kernel
theorem dL_law_549 : decode cL_law 549 = .ok (.aload_n 1, 1) := by decide +kernel
theorem dL_law_550 : decode cL_law 550 = .ok (.iload 24, 2) := by decide +kernel
theorem dL_law_552 : decode cL_law 552 = .ok (.invokevirtual 91, 3) := by decide +kernel
theorem dL_law_555 : decode cL_law 555 = .ok (.ifCond .ne 5, 3) := by decide +kernel
theorem dL_law_558 : decode cL_law 558 = .ok (.iconst 0, 1) := by decide +kernel
theorem dL_law_559 : decode cL_law 559 = .ok (.ireturn, 1) := by decide +kernel
theorem dL_law_560 : decode cL_law 560 = .ok (.iload 24, 2) := by decide +kernel
theorem dL_law_562 : decode cL_law 562 = .ok (.invokestatic 101, 3) := by decide +kernel
theorem dL_law_565 : decode cL_law 565 = .ok (.istore 25, 2) := by decide +kernel
theorem dL_law_567 : decode cL_law 567 = .ok (.iload 22, 2) := by decide +kernel
theorem dL_law_569 : decode cL_law 569 = .ok (.iconst 1, 1) := by decide +kernel
theorem dL_law_570 : decode cL_law 570 = .ok (.if_icmp .ne 28, 3) := by decide +kernel
theorem dL_law_573 : decode cL_law 573 = .ok (.iload 25, 2) := by decide +kernel
theorem dL_law_575 : decode cL_law 575 = .ok (.iload 21, 2) := by decide +kernel
theorem dL_law_577 : decode cL_law 577 = .ok (.iload 18, 2) := by decide +kernel
theorem dL_law_579 : decode cL_law 579 = .ok (.iadd, 1) := by decide +kernel
theorem dL_law_580 : decode cL_law 580 = .ok (.iconst 1, 1) := by decide +kernel
theorem dL_law_581 : decode cL_law 581 = .ok (.isub, 1) := by decide +kernel
theorem dL_law_582 : decode cL_law 582 = .ok (.iload 18, 2) := by decide +kernel
theorem dL_law_584 : decode cL_law 584 = .ok (.idiv, 1) := by decide +kernel
theorem dL_law_585 : decode cL_law 585 = .ok (.if_icmp .gt 69, 3) := by decide +kernel
theorem dL_law_588 : decode cL_law 588 = .ok (.iload 25, 2) := by decide +kernel
theorem dL_law_590 : decode cL_law 590 = .ok (.iload 21, 2) := by decide +kernel
theorem dL_law_592 : decode cL_law 592 = .ok (.iload 18, 2) := by decide +kernel
theorem dL_law_594 : decode cL_law 594 = .ok (.idiv, 1) := by decide +kernel
theorem dL_law_595 : decode cL_law 595 = .ok (.if_icmp .lt 59, 3) := by decide +kernel
theorem dL_law_598 : decode cL_law 598 = .ok (.iload 22, 2) := by decide +kernel
theorem dL_law_600 : decode cL_law 600 = .ok (.iconst 2, 1) := by decide +kernel
theorem dL_law_601 : decode cL_law 601 = .ok (.if_icmp .ne 40, 3) := by decide +kernel
theorem dL_law_604 : decode cL_law 604 = .ok (.iload 18, 2) := by decide +kernel
theorem dL_law_606 : decode cL_law 606 = .ok (.iconst 3, 1) := by decide +kernel
theorem dL_law_607 : decode cL_law 607 = .ok (.if_icmp .lt 47, 3) := by decide +kernel
theorem dL_law_610 : decode cL_law 610 = .ok (.iload 21, 2) := by decide +kernel
theorem dL_law_612 : decode cL_law 612 = .ok (.iload 25, 2) := by decide +kernel
theorem dL_law_614 : decode cL_law 614 = .ok (.isub, 1) := by decide +kernel
theorem dL_law_615 : decode cL_law 615 = .ok (.iload 21, 2) := by decide +kernel
theorem dL_law_617 : decode cL_law 617 = .ok (.iload 18, 2) := by decide +kernel
theorem dL_law_619 : decode cL_law 619 = .ok (.iadd, 1) := by decide +kernel
theorem dL_law_620 : decode cL_law 620 = .ok (.iconst 1, 1) := by decide +kernel
theorem dL_law_621 : decode cL_law 621 = .ok (.isub, 1) := by decide +kernel
theorem dL_law_622 : decode cL_law 622 = .ok (.iload 18, 2) := by decide +kernel
theorem dL_law_624 : decode cL_law 624 = .ok (.idiv, 1) := by decide +kernel
theorem dL_law_625 : decode cL_law 625 = .ok (.if_icmp .gt 29, 3) := by decide +kernel
theorem dL_law_628 : decode cL_law 628 = .ok (.iload 21, 2) := by decide +kernel
theorem dL_law_630 : decode cL_law 630 = .ok (.iload 25, 2) := by decide +kernel
theorem dL_law_632 : decode cL_law 632 = .ok (.isub, 1) := by decide +kernel
theorem dL_law_633 : decode cL_law 633 = .ok (.iload 21, 2) := by decide +kernel
theorem dL_law_635 : decode cL_law 635 = .ok (.iload 18, 2) := by decide +kernel
theorem dL_law_637 : decode cL_law 637 = .ok (.idiv, 1) := by decide +kernel
theorem dL_law_638 : decode cL_law 638 = .ok (.if_icmp .lt 16, 3) := by decide +kernel
theorem dL_law_641 : decode cL_law 641 = .ok (.iload 22, 2) := by decide +kernel
theorem dL_law_643 : decode cL_law 643 = .ok (.iconst 3, 1) := by decide +kernel
theorem dL_law_644 : decode cL_law 644 = .ok (.if_icmp .ne 12, 3) := by decide +kernel
theorem dL_law_647 : decode cL_law 647 = .ok (.iload 18, 2) := by decide +kernel
theorem dL_law_649 : decode cL_law 649 = .ok (.iload 21, 2) := by decide +kernel
theorem dL_law_651 : decode cL_law 651 = .ok (.if_icmp .lt 5, 3) := by decide +kernel
theorem dL_law_654 : decode cL_law 654 = .ok (.iconst 0, 1) := by decide +kernel
theorem dL_law_655 : decode cL_law 655 = .ok (.ireturn, 1) := by decide +kernel
theorem dL_law_656 : decode cL_law 656 = .ok (.iload 22, 2) := by decide +kernel
theorem dL_law_658 : decode cL_law 658 = .ok (.iconst 1, 1) := by decide +kernel
theorem dL_law_659 : decode cL_law 659 = .ok (.if_icmp .ne 7, 3) := by decide +kernel
theorem dL_law_662 : decode cL_law 662 = .ok (.iconst 2, 1) := by decide +kernel
theorem dL_law_663 : decode cL_law 663 = .ok (.goto 25, 3) := by decide +kernel
theorem dL_law_666 : decode cL_law 666 = .ok (.iload 22, 2) := by decide +kernel
theorem dL_law_668 : decode cL_law 668 = .ok (.iconst 2, 1) := by decide +kernel
theorem dL_law_669 : decode cL_law 669 = .ok (.if_icmp .ne 10, 3) := by decide +kernel
theorem dL_law_672 : decode cL_law 672 = .ok (.iload 18, 2) := by decide +kernel
theorem dL_law_674 : decode cL_law 674 = .ok (.iconst 1, 1) := by decide +kernel
theorem dL_law_675 : decode cL_law 675 = .ok (.isub, 1) := by decide +kernel
theorem dL_law_676 : decode cL_law 676 = .ok (.goto 12, 3) := by decide +kernel
theorem dL_law_679 : decode cL_law 679 = .ok (.iload 21, 2) := by decide +kernel
theorem dL_law_681 : decode cL_law 681 = .ok (.iconst 2, 1) := by decide +kernel
theorem dL_law_682 : decode cL_law 682 = .ok (.iload 18, 2) := by decide +kernel
theorem dL_law_684 : decode cL_law 684 = .ok (.imul, 1) := by decide +kernel
theorem dL_law_685 : decode cL_law 685 = .ok (.invokestatic 109, 3) := by decide +kernel
theorem dL_law_688 : decode cL_law 688 = .ok (.istore 18, 2) := by decide +kernel
theorem dL_law_690 : decode cL_law 690 = .ok (.iload 24, 2) := by decide +kernel
theorem dL_law_692 : decode cL_law 692 = .ok (.istore 17, 2) := by decide +kernel
theorem dL_law_694 : decode cL_law 694 = .ok (.iinc 20 1, 3) := by decide +kernel
theorem dL_law_697 : decode cL_law 697 = .ok (.goto (-310), 3) := by decide +kernel
theorem dL_law_700 : decode cL_law 700 = .ok (.iload 15, 2) := by decide +kernel
theorem dL_law_702 : decode cL_law 702 = .ok (.ifCond .eq 10, 3) := by decide +kernel
theorem dL_law_705 : decode cL_law 705 = .ok (.iload 17, 2) := by decide +kernel
theorem dL_law_707 : decode cL_law 707 = .ok (.iload 12, 2) := by decide +kernel
theorem dL_law_709 : decode cL_law 709 = .ok (.if_icmp .ne 51, 3) := by decide +kernel
theorem dL_law_712 : decode cL_law 712 = .ok (.iload 9, 2) := by decide +kernel
theorem dL_law_714 : decode cL_law 714 = .ok (.iload 19, 2) := by decide +kernel
theorem dL_law_716 : decode cL_law 716 = .ok (.iconst 2, 1) := by decide +kernel
theorem dL_law_717 : decode cL_law 717 = .ok (.iload 18, 2) := by decide +kernel
theorem dL_law_719 : decode cL_law 719 = .ok (.imul, 1) := by decide +kernel
theorem dL_law_720 : decode cL_law 720 = .ok (.iadd, 1) := by decide +kernel
theorem dL_law_721 : decode cL_law 721 = .ok (.if_icmp .gt 39, 3) := by decide +kernel
theorem dL_law_724 : decode cL_law 724 = .ok (.iload 15, 2) := by decide +kernel
theorem dL_law_726 : decode cL_law 726 = .ok (.ifCond .eq 22, 3) := by decide +kernel
theorem dL_law_729 : decode cL_law 729 = .ok (.iload 12, 2) := by decide +kernel
theorem dL_law_731 : decode cL_law 731 = .ok (.invokestatic 101, 3) := by decide +kernel
theorem dL_law_734 : decode cL_law 734 = .ok (.iconst 1, 1) := by decide +kernel
theorem dL_law_735 : decode cL_law 735 = .ok (.if_icmp .le 13, 3) := by decide +kernel
theorem dL_law_738 : decode cL_law 738 = .ok (.iload 18, 2) := by decide +kernel
theorem dL_law_740 : decode cL_law 740 = .ok (.iload 12, 2) := by decide +kernel
theorem dL_law_742 : decode cL_law 742 = .ok (.invokestatic 101, 3) := by decide +kernel
theorem dL_law_745 : decode cL_law 745 = .ok (.if_icmp .ne 15, 3) := by decide +kernel
theorem dL_law_748 : decode cL_law 748 = .ok (.aload_n 1, 1) := by decide +kernel
theorem dL_law_749 : decode cL_law 749 = .ok (.iconst 4, 1) := by decide +kernel
theorem dL_law_750 : decode cL_law 750 = .ok (.invokevirtual 88, 3) := by decide +kernel
theorem dL_law_753 : decode cL_law 753 = .ok (.iload 5, 2) := by decide +kernel
theorem dL_law_755 : decode cL_law 755 = .ok (.iconst 1, 1) := by decide +kernel
theorem dL_law_756 : decode cL_law 756 = .ok (.iadd, 1) := by decide +kernel
theorem dL_law_757 : decode cL_law 757 = .ok (.if_icmp .le 5, 3) := by decide +kernel
theorem dL_law_760 : decode cL_law 760 = .ok (.iconst 0, 1) := by decide +kernel
theorem dL_law_761 : decode cL_law 761 = .ok (.ireturn, 1) := by decide +kernel
theorem dL_law_762 : decode cL_law 762 = .ok (.iconst 0, 1) := by decide +kernel
theorem dL_law_763 : decode cL_law 763 = .ok (.istore 20, 2) := by decide +kernel
theorem dL_law_765 : decode cL_law 765 = .ok (.iconst 0, 1) := by decide +kernel
theorem dL_law_766 : decode cL_law 766 = .ok (.istore 21, 2) := by decide +kernel
theorem dL_law_768 : decode cL_law 768 = .ok (.iload 21, 2) := by decide +kernel
theorem dL_law_770 : decode cL_law 770 = .ok (.iload 6, 2) := by decide +kernel
theorem dL_law_772 : decode cL_law 772 = .ok (.if_icmp .ge 77, 3) := by decide +kernel
theorem dL_law_775 : decode cL_law 775 = .ok (.iload 20, 2) := by decide +kernel
theorem dL_law_777 : decode cL_law 777 = .ok (.aload_n 1, 1) := by decide +kernel
theorem dL_law_778 : decode cL_law 778 = .ok (.iload 21, 2) := by decide +kernel
theorem dL_law_780 : decode cL_law 780 = .ok (.iconst 3, 1) := by decide +kernel
theorem dL_law_781 : decode cL_law 781 = .ok (.invokevirtual 114, 3) := by decide +kernel
theorem dL_law_784 : decode cL_law 784 = .ok (.iadd, 1) := by decide +kernel
theorem dL_law_785 : decode cL_law 785 = .ok (.istore 20, 2) := by decide +kernel
theorem dL_law_787 : decode cL_law 787 = .ok (.aload_n 1, 1) := by decide +kernel
theorem dL_law_788 : decode cL_law 788 = .ok (.iload 21, 2) := by decide +kernel
theorem dL_law_790 : decode cL_law 790 = .ok (.iconst 0, 1) := by decide +kernel
theorem dL_law_791 : decode cL_law 791 = .ok (.invokevirtual 114, 3) := by decide +kernel
theorem dL_law_794 : decode cL_law 794 = .ok (.aload_n 1, 1) := by decide +kernel
theorem dL_law_795 : decode cL_law 795 = .ok (.iload 21, 2) := by decide +kernel
theorem dL_law_797 : decode cL_law 797 = .ok (.iconst 1, 1) := by decide +kernel
theorem dL_law_798 : decode cL_law 798 = .ok (.invokevirtual 114, 3) := by decide +kernel
theorem dL_law_801 : decode cL_law 801 = .ok (.iand, 1) := by decide +kernel
theorem dL_law_802 : decode cL_law 802 = .ok (.ifCond .ne 39, 3) := by decide +kernel
theorem dL_law_805 : decode cL_law 805 = .ok (.aload_n 1, 1) := by decide +kernel
theorem dL_law_806 : decode cL_law 806 = .ok (.iload 21, 2) := by decide +kernel
theorem dL_law_808 : decode cL_law 808 = .ok (.iconst 2, 1) := by decide +kernel
theorem dL_law_809 : decode cL_law 809 = .ok (.invokevirtual 114, 3) := by decide +kernel
theorem dL_law_812 : decode cL_law 812 = .ok (.aload_n 1, 1) := by decide +kernel
theorem dL_law_813 : decode cL_law 813 = .ok (.iload 21, 2) := by decide +kernel
theorem dL_law_815 : decode cL_law 815 = .ok (.iconst 0, 1) := by decide +kernel
theorem dL_law_816 : decode cL_law 816 = .ok (.invokevirtual 114, 3) := by decide +kernel
theorem dL_law_819 : decode cL_law 819 = .ok (.invokestatic 101, 3) := by decide +kernel
theorem dL_law_822 : decode cL_law 822 = .ok (.if_icmp .ne 19, 3) := by decide +kernel
theorem dL_law_825 : decode cL_law 825 = .ok (.aload_n 1, 1) := by decide +kernel
theorem dL_law_826 : decode cL_law 826 = .ok (.iload 21, 2) := by decide +kernel
theorem dL_law_828 : decode cL_law 828 = .ok (.iconst 4, 1) := by decide +kernel
theorem dL_law_829 : decode cL_law 829 = .ok (.invokevirtual 114, 3) := by decide +kernel
theorem dL_law_832 : decode cL_law 832 = .ok (.iconst 1, 1) := by decide +kernel
theorem dL_law_833 : decode cL_law 833 = .ok (.if_icmp .ne 10, 3) := by decide +kernel
theorem dL_law_836 : decode cL_law 836 = .ok (.iload 12, 2) := by decide +kernel
theorem dL_law_838 : decode cL_law 838 = .ok (.ifCond .ne 5, 3) := by decide +kernel
theorem dL_law_841 : decode cL_law 841 = .ok (.iconst 0, 1) := by decide +kernel
theorem dL_law_842 : decode cL_law 842 = .ok (.ireturn, 1) := by decide +kernel
theorem dL_law_843 : decode cL_law 843 = .ok (.iinc 21 1, 3) := by decide +kernel
theorem dL_law_846 : decode cL_law 846 = .ok (.goto (-78), 3) := by decide +kernel
theorem dL_law_849 : decode cL_law 849 = .ok (.iload 20, 2) := by decide +kernel
theorem dL_law_851 : decode cL_law 851 = .ok (.aload_n 1, 1) := by decide +kernel
theorem dL_law_852 : decode cL_law 852 = .ok (.iconst 2, 1) := by decide +kernel
theorem dL_law_853 : decode cL_law 853 = .ok (.invokevirtual 78, 3) := by decide +kernel
theorem dL_law_856 : decode cL_law 856 = .ok (.if_icmp .ne 26, 3) := by decide +kernel
theorem dL_law_859 : decode cL_law 859 = .ok (.iload 20, 2) := by decide +kernel
theorem dL_law_861 : decode cL_law 861 = .ok (.ifCond .le 7, 3) := by decide +kernel
theorem dL_law_864 : decode cL_law 864 = .ok (.iconst 1, 1) := by decide +kernel
theorem dL_law_865 : decode cL_law 865 = .ok (.goto 4, 3) := by decide +kernel
theorem dL_law_868 : decode cL_law 868 = .ok (.iconst 0, 1) := by decide +kernel
theorem dL_law_869 : decode cL_law 869 = .ok (.iload 15, 2) := by decide +kernel
theorem dL_law_871 : decode cL_law 871 = .ok (.if_icmp .ne 11, 3) := by decide +kernel
theorem dL_law_874 : decode cL_law 874 = .ok (.aload_n 1, 1) := by decide +kernel
theorem dL_law_875 : decode cL_law 875 = .ok (.iconst 0, 1) := by decide +kernel
theorem dL_law_876 : decode cL_law 876 = .ok (.invokevirtual 91, 3) := by decide +kernel
theorem dL_law_879 : decode cL_law 879 = .ok (.ifCond .eq 5, 3) := by decide +kernel
theorem dL_law_882 : decode cL_law 882 = .ok (.iconst 0, 1) := by decide +kernel
theorem dL_law_883 : decode cL_law 883 = .ok (.ireturn, 1) := by decide +kernel
theorem dL_law_884 : decode cL_law 884 = .ok (.iconst 0, 1) := by decide +kernel
theorem dL_law_885 : decode cL_law 885 = .ok (.istore 21, 2) := by decide +kernel
theorem dL_law_887 : decode cL_law 887 = .ok (.iload 21, 2) := by decide +kernel
theorem dL_law_889 : decode cL_law 889 = .ok (.bipush 12, 2) := by decide +kernel
theorem dL_law_891 : decode cL_law 891 = .ok (.if_icmp .ge 127, 3) := by decide +kernel
theorem dL_law_894 : decode cL_law 894 = .ok (.iload 4, 2) := by decide +kernel
theorem dL_law_896 : decode cL_law 896 = .ok (.iconst 3, 1) := by decide +kernel
theorem dL_law_897 : decode cL_law 897 = .ok (.ishr, 1) := by decide +kernel
theorem dL_law_898 : decode cL_law 898 = .ok (.ldc 117, 2) := by decide +kernel
theorem dL_law_900 : decode cL_law 900 = .ok (.iload 21, 2) := by decide +kernel
theorem dL_law_902 : decode cL_law 902 = .ok (.imul, 1) := by decide +kernel
theorem dL_law_903 : decode cL_law 903 = .ok (.iadd, 1) := by decide +kernel
theorem dL_law_904 : decode cL_law 904 = .ok (.iload 7, 2) := by decide +kernel
theorem dL_law_906 : decode cL_law 906 = .ok (.iconst 1, 1) := by decide +kernel
theorem dL_law_907 : decode cL_law 907 = .ok (.if_icmp .ge 7, 3) := by decide +kernel
theorem dL_law_910 : decode cL_law 910 = .ok (.iconst 1, 1) := by decide +kernel
theorem dL_law_911 : decode cL_law 911 = .ok (.goto 5, 3) := by decide +kernel
theorem dL_law_914 : decode cL_law 914 = .ok (.iload 7, 2) := by decide +kernel
theorem dL_law_916 : decode cL_law 916 = .ok (.invokestatic 9, 3) := by decide +kernel
theorem dL_law_919 : decode cL_law 919 = .ok (.istore 22, 2) := by decide +kernel
theorem dL_law_921 : decode cL_law 921 = .ok (.aload_n 1, 1) := by decide +kernel
theorem dL_law_922 : decode cL_law 922 = .ok (.iload 22, 2) := by decide +kernel
theorem dL_law_924 : decode cL_law 924 = .ok (.invokevirtual 91, 3) := by decide +kernel
theorem dL_law_927 : decode cL_law 927 = .ok (.istore 23, 2) := by decide +kernel
theorem dL_law_929 : decode cL_law 929 = .ok (.iconst 0, 1) := by decide +kernel
theorem dL_law_930 : decode cL_law 930 = .ok (.istore 24, 2) := by decide +kernel
theorem dL_law_932 : decode cL_law 932 = .ok (.iload 24, 2) := by decide +kernel
theorem dL_law_934 : decode cL_law 934 = .ok (.iload 5, 2) := by decide +kernel
theorem dL_law_936 : decode cL_law 936 = .ok (.if_icmp .ge 39, 3) := by decide +kernel
theorem dL_law_939 : decode cL_law 939 = .ok (.iload 22, 2) := by decide +kernel
theorem dL_law_941 : decode cL_law 941 = .ok (.iload 24, 2) := by decide +kernel
theorem dL_law_943 : decode cL_law 943 = .ok (.ishr, 1) := by decide +kernel
theorem dL_law_944 : decode cL_law 944 = .ok (.iconst 1, 1) := by decide +kernel
theorem dL_law_945 : decode cL_law 945 = .ok (.iand, 1) := by decide +kernel
theorem dL_law_946 : decode cL_law 946 = .ok (.iconst 1, 1) := by decide +kernel
theorem dL_law_947 : decode cL_law 947 = .ok (.if_icmp .ne 22, 3) := by decide +kernel
theorem dL_law_950 : decode cL_law 950 = .ok (.aload_n 1, 1) := by decide +kernel
theorem dL_law_951 : decode cL_law 951 = .ok (.iload 22, 2) := by decide +kernel
theorem dL_law_953 : decode cL_law 953 = .ok (.iconst 1, 1) := by decide +kernel
theorem dL_law_954 : decode cL_law 954 = .ok (.iload 24, 2) := by decide +kernel
theorem dL_law_956 : decode cL_law 956 = .ok (.ishl, 1) := by decide +kernel
theorem dL_law_957 : decode cL_law 957 = .ok (.iconst (-1), 1) := by decide +kernel
theorem dL_law_958 : decode cL_law 958 = .ok (.ixor, 1) := by decide +kernel
theorem dL_law_959 : decode cL_law 959 = .ok (.iand, 1) := by decide +kernel
theorem dL_law_960 : decode cL_law 960 = .ok (.invokevirtual 91, 3) := by decide +kernel
theorem dL_law_963 : decode cL_law 963 = .ok (.ifCond .eq 6, 3) := by decide +kernel
theorem dL_law_966 : decode cL_law 966 = .ok (.iconst 0, 1) := by decide +kernel
theorem dL_law_967 : decode cL_law 967 = .ok (.istore 23, 2) := by decide +kernel
theorem dL_law_969 : decode cL_law 969 = .ok (.iinc 24 1, 3) := by decide +kernel
theorem dL_law_972 : decode cL_law 972 = .ok (.goto (-40), 3) := by decide +kernel
theorem dL_law_975 : decode cL_law 975 = .ok (.aload_n 1, 1) := by decide +kernel
theorem dL_law_976 : decode cL_law 976 = .ok (.iload 22, 2) := by decide +kernel
theorem dL_law_978 : decode cL_law 978 = .ok (.invokevirtual 98, 3) := by decide +kernel
theorem dL_law_981 : decode cL_law 981 = .ok (.iload 23, 2) := by decide +kernel
theorem dL_law_983 : decode cL_law 983 = .ok (.if_icmp .ne 27, 3) := by decide +kernel
theorem dL_law_986 : decode cL_law 986 = .ok (.aload_n 1, 1) := by decide +kernel
theorem dL_law_987 : decode cL_law 987 = .ok (.iload 22, 2) := by decide +kernel
theorem dL_law_989 : decode cL_law 989 = .ok (.invokevirtual 91, 3) := by decide +kernel
theorem dL_law_992 : decode cL_law 992 = .ok (.ifCond .eq 20, 3) := by decide +kernel
theorem dL_law_995 : decode cL_law 995 = .ok (.iload 16, 2) := by decide +kernel
theorem dL_law_997 : decode cL_law 997 = .ok (.ifCond .eq 13, 3) := by decide +kernel
theorem dL_law_1000 : decode cL_law 1000 = .ok (.iload 22, 2) := by decide +kernel
theorem dL_law_1002 : decode cL_law 1002 = .ok (.invokestatic 101, 3) := by decide +kernel
theorem dL_law_1005 : decode cL_law 1005 = .ok (.iload 16, 2) := by decide +kernel
theorem dL_law_1007 : decode cL_law 1007 = .ok (.if_icmp .ge 5, 3) := by decide +kernel
theorem dL_law_1010 : decode cL_law 1010 = .ok (.iconst 0, 1) := by decide +kernel
theorem dL_law_1011 : decode cL_law 1011 = .ok (.ireturn, 1) := by decide +kernel
theorem dL_law_1012 : decode cL_law 1012 = .ok (.iinc 21 1, 3) := by decide +kernel
theorem dL_law_1015 : decode cL_law 1015 = .ok (.goto (-128), 3) := by decide +kernel
theorem dL_law_1018 : decode cL_law 1018 = .ok (.aload_n 1, 1) := by decide +kernel
theorem dL_law_1019 : decode cL_law 1019 = .ok (.invokevirtual 118, 3) := by decide +kernel
theorem dL_law_1022 : decode cL_law 1022 = .ok (.istore 21, 2) := by decide +kernel
theorem dL_law_1024 : decode cL_law 1024 = .ok (.iload 21, 2) := by decide +kernel
theorem dL_law_1026 : decode cL_law 1026 = .ok (.ifCond .ge 7, 3) := by decide +kernel
theorem dL_law_1029 : decode cL_law 1029 = .ok (.iconst 1, 1) := by decide +kernel
theorem dL_law_1030 : decode cL_law 1030 = .ok (.goto 4, 3) := by decide +kernel
theorem dL_law_1033 : decode cL_law 1033 = .ok (.iconst 0, 1) := by decide +kernel
theorem dL_law_1034 : decode cL_law 1034 = .ok (.iload 5, 2) := by decide +kernel
theorem dL_law_1036 : decode cL_law 1036 = .ok (.ifCond .ne 7, 3) := by decide +kernel
theorem dL_law_1039 : decode cL_law 1039 = .ok (.iconst 1, 1) := by decide +kernel
theorem dL_law_1040 : decode cL_law 1040 = .ok (.goto 4, 3) := by decide +kernel
theorem dL_law_1043 : decode cL_law 1043 = .ok (.iconst 0, 1) := by decide +kernel
theorem dL_law_1044 : decode cL_law 1044 = .ok (.if_icmp .ne 28, 3) := by decide +kernel
theorem dL_law_1047 : decode cL_law 1047 = .ok (.iload 21, 2) := by decide +kernel
theorem dL_law_1049 : decode cL_law 1049 = .ok (.iload 5, 2) := by decide +kernel
theorem dL_law_1051 : decode cL_law 1051 = .ok (.if_icmp .ge 21, 3) := by decide +kernel
theorem dL_law_1054 : decode cL_law 1054 = .ok (.aload_n 1, 1) := by decide +kernel
theorem dL_law_1055 : decode cL_law 1055 = .ok (.invokevirtual 81, 3) := by decide +kernel
theorem dL_law_1058 : decode cL_law 1058 = .ok (.lload 10, 2) := by decide +kernel
theorem dL_law_1060 : decode cL_law 1060 = .ok (.lcmp, 1) := by decide +kernel
theorem dL_law_1061 : decode cL_law 1061 = .ok (.ifCond .ne 11, 3) := by decide +kernel
theorem dL_law_1064 : decode cL_law 1064 = .ok (.aload_n 2, 1) := by decide +kernel
theorem dL_law_1065 : decode cL_law 1065 = .ok (.aload_n 1, 1) := by decide +kernel
theorem dL_law_1066 : decode cL_law 1066 = .ok (.invokevirtual 121, 3) := by decide +kernel
theorem dL_law_1069 : decode cL_law 1069 = .ok (.ifCond .ne 5, 3) := by decide +kernel
theorem dL_law_1072 : decode cL_law 1072 = .ok (.iconst 0, 1) := by decide +kernel
theorem dL_law_1073 : decode cL_law 1073 = .ok (.ireturn, 1) := by decide +kernel
theorem dL_law_1074 : decode cL_law 1074 = .ok (.iinc 3 1, 3) := by decide +kernel
theorem dL_law_1077 : decode cL_law 1077 = .ok (.goto (-1055), 3) := by decide +kernel
theorem dL_law_1080 : decode cL_law 1080 = .ok (.aload_n 2, 1) := by decide +kernel
theorem dL_law_1081 : decode cL_law 1081 = .ok (.aload_n 1, 1) := by decide +kernel
theorem dL_law_1082 : decode cL_law 1082 = .ok (.invokevirtual 74, 3) := by decide +kernel
theorem dL_law_1085 : decode cL_law 1085 = .ok (.ireturn, 1) := by decide +kernel
abbrev vwCl : List vw_C := [(RX0, TX0, 2), (RX1, TX1, 3), (RX2, TX2, 6), (RX3, TX3, 5), (RX4, TX4, 7), (RX5, TX5, 9)]
